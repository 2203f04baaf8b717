section Rt3
variable {l x r q nm : List Int} {i : Nat} {rm nd : Nat} {a a' : AS}
def cutA (t : Att) : Att := (t.1, t.2.1, none)
/-- where written attributes stand -/
def plA : Nat → List Att → List (Nat × Nat × Nat × Nat)
  | _, [] => []
  | k, t :: w => (k + 1, k + 1 + t.1.length, k + 1 + t.1.length + 1, k + (wAt t).length) :: plA (k + (wAt t).length) w
theorem wAt_len {t : Att} : (wAt t).length = t.1.length + (t.2.1.flatMap (escL true)).length + 4 := by
  unfold wAt
  rw [ti_1085]
  simp only [List.length_append, List.length_cons, List.length_nil]
  omega
/-- one attribute that is written -/
theorem rd_at {t : Att} (h : l.drop i = wAt t ++ r) (ht : lgn t.1) : spc (gd l) l.length (some i) = some (i + 1) ∧ nmg (gd l) l.length true (some (i + 1)) = some (i + 1 + t.1.length) ∧ eqs (gd l) l.length (some (i + 1 + t.1.length)) = some (i + 1 + t.1.length + 1) ∧ vlp (gd l) l.length (some (i + 1 + t.1.length + 1)) = some (i + (wAt t).length) ∧ sl (gd l) (i + 1) t.1.length = t.1 ∧ sl (gd l) (i + 1 + t.1.length + 1 + 1) (t.2.1.flatMap (escL true)).length = t.2.1.flatMap (escL true) := by
  have h0 : l.drop i = 32 :: (t.1 ++ (61 :: 34 :: (t.2.1.flatMap (escL true) ++ 34 :: r))) := by
    rw [h]
    unfold wAt
    rw [ti_1085]
    simp only [List.append_assoc, List.cons_append, List.nil_append]
  obtain ⟨c, y, e1, y1, y2⟩ := lgn_cons ht
  have h1 := (dr_c h0).2.2
  have h2 := dr_nx h1
  have h3 := (dr_c h2).2.2
  have h4 := (dr_c h3).2.2
  refine ⟨dr_spc h0 (by rw [e1]; exact hdn_cons (isSt_nE y1).2.2.2.2.2.2.1), dr_nmg h1 ht (hdn_cons (by decide)), ?_, ?_, dr_sl h1, dr_sl h4⟩
  · unfold eqs
    rw [dr_asp h2 (hdn_cons (by decide)), dr_wd (x := [61]) h2, show i + 1 + t.1.length + [(61 : Int)].length = i + 1 + t.1.length + 1 from rfl, dr_asp h3 (hdn_cons (by decide))]
  · rw [vlp_esc h3, wAt_len]
    congr 1
    omega
theorem rd_ats : ∀ (w : List Att) (n i : Nat), l.drop i = w.flatMap wAt ++ r → (∀ t ∈ w, lgn t.1) → hdn isSp r → w.length < n → atk (gd l) l.length n i = some (i + (w.flatMap wAt).length) ∧ atL (gd l) l.length n i = plA i w
  | [], n + 1, i, h, _, hr, hn => by
    have h0 := dr_spc0 (l := l) (i := i) (r := r) h hr
    unfold atk atL
    rw [h0]
    exact ⟨rfl, rfl⟩
  | t :: w, n + 1, i, h, ht, hr, hn => by
    rw [List.flatMap_cons, List.append_assoc] at h
    obtain ⟨q1, q2, q3, q4, -, -⟩ := rd_at h (ht t List.mem_cons_self)
    obtain ⟨i1, i2⟩ := rd_ats w n (i + (wAt t).length) (dr_nx h) (fun u hu => ht u (List.mem_cons_of_mem _ hu)) hr (by rw [List.length_cons] at hn; omega)
    unfold atk atL
    rw [q1]
    dsimp only
    rw [q2]
    dsimp only
    rw [q3]
    dsimp only
    rw [q4]
    dsimp only
    rw [i1, i2, List.flatMap_cons, List.length_append]
    refine ⟨?_, rfl⟩
    congr 1
    omega
theorem rd_gvs {el : Str} {c m : Nat} (hA : aA a = []) (hrm : l.length ≤ rm) : ∀ (w : List Att) (i : Nat) (acc : List Att), l.drop i = w.flatMap wAt ++ r → (∀ t ∈ w, lgn t.1) → (acc.map (fun z => z.1) ++ w.map (fun z => z.1)).Nodup → i ≤ l.length → gvs rm a (gd l) el (plA i w) c m acc = .inr (c, m, acc ++ w.map cutA)
  | [], i, acc, h, _, _, _ => by
    show Sum.inr (c, m, acc) = _
    rw [List.map_nil, List.append_nil]
  | t :: w, i, acc, h, ht, hd, hi => by
    rw [List.flatMap_cons, List.append_assoc] at h
    obtain ⟨q1, q2, q3, q4, q5, q6⟩ := rd_at h (ht t List.mem_cons_self)
    have hlen := dr_ln h hi
    have e1 : sl (gd l) (i + 1) (i + 1 + t.1.length - (i + 1)) = t.1 := by rw [Nat.add_sub_cancel_left]; exact q5
    have e2 : sl (gd l) (i + 1 + t.1.length + 1 + 1) (i + (wAt t).length - 1 - (i + 1 + t.1.length + 1 + 1)) = t.2.1.flatMap (escL true) := by
      rw [show i + (wAt t).length - 1 - (i + 1 + t.1.length + 1 + 1) = (t.2.1.flatMap (escL true)).length by rw [wAt_len]; omega]
      exact q6
    have hs : ∀ s : Str, s.length ≤ (s.flatMap (escL true)).length := fun s => by
      induction s with
      | nil => exact Nat.le_refl _
      | cons c s ih =>
        rw [List.flatMap_cons, List.length_append, List.length_cons]
        have : 1 ≤ (escL true c).length := by
          rcases escL_or (v := true) (c := c) with ⟨h1, -⟩ | h
          · rw [h1]; exact Nat.le_refl _
          · have := h.len; omega
        omega
    have hv : val rm a (t.2.1.flatMap (escL true)) c m = .inr (c, m, t.2.1) := by
      unfold val
      rw [vrn_esc t.2.1 _ c m [] (by have := hs t.2.1; rw [wAt_len] at hlen; omega), List.nil_append]
    have hn : ¬ t.1 ∈ acc.map (fun z => z.1) := fun hm => by
      have := (List.nodup_append.mp hd).2.2 _ hm t.1 (by rw [List.map_cons]; exact List.mem_cons_self)
      exact this rfl
    unfold plA
    unfold gvs
    rw [e1, e2, if_neg hn, hv]
    dsimp only
    have ha : adf (aA a) el t.1 = none := by rw [hA]; rfl
    rw [ha]
    dsimp only
    rw [rd_gvs hA hrm w (i + (wAt t).length) _ (dr_nx h) (fun u hu => ht u (List.mem_cons_of_mem _ hu)) (by
      rw [List.map_append, List.map_cons, List.map_nil, List.append_assoc]
      exact hd) (by omega), List.append_assoc]
    rfl
/-- a tag that is written -/
def wTag (nm : Str) (w : List Att) : Str := 60 :: (nm ++ (w.flatMap wAt ++ [62]))
theorem rd_tag {w : List Att} (hc : cur a = wTag nm w ++ r) (hn : lgn nm) (ht : ∀ t ∈ w, lgn t.1) (hd : (w.map (fun z => z.1)).Nodup) (hA : aA a = []) (hrm : (cur a).length ≤ rm) (hnd : aN a 3 + 1 + w.length ≤ nd) : iTag rm nd a = .inr (nel a nm (w.map cutA) (w.map cutA) (wTag nm w).length (aN a 0) (aN a 1)) := by
  have h0 : (cur a).drop 0 = 60 :: (nm ++ (w.flatMap wAt ++ ([62] ++ r))) := by
    rw [List.drop_zero, hc]
    unfold wTag
    simp only [List.append_assoc, List.cons_append]
  have h1 := (dr_c h0).2.2
  rw [Nat.zero_add] at h1
  have hln : (wTag nm w).length = 1 + nm.length + (w.flatMap wAt).length + 1 := by
    unfold wTag
    simp only [List.length_append, List.length_cons, List.length_nil]
    omega
  have hlc : (cur a).length = (wTag nm w).length + r.length := by rw [hc, List.length_append]
  have h2 := dr_nx h1
  have hx : hdn isNm (w.flatMap wAt ++ ([62] ++ r)) := by
    cases w with
    | nil => exact hdn_cons (by decide)
    | cons t w =>
      rw [List.flatMap_cons]
      unfold wAt
      exact hdn_cons (by decide)
  have e1 := dr_nmg h1 hn hx
  have hwl : w.length ≤ (w.flatMap wAt).length := by
    clear hx h2 hln h1 h0 hc hd ht hnd hlc
    induction w with
    | nil => exact Nat.le_refl _
    | cons t w ih =>
      rw [List.flatMap_cons, List.length_append, List.length_cons, wAt_len]
      omega
  obtain ⟨e2, e3⟩ := rd_ats (l := cur a) w ((cur a).length + 1) (1 + nm.length) h2 ht (hdn_cons (by decide)) (by omega)
  have h3 := dr_nx h2
  have e4 : tgk (gd (cur a)) (cur a).length 0 = some (wTag nm w).length := by
    unfold tgk
    rw [Nat.zero_add, e1, Option.bind_some, e2, dr_asp h3 (hdn_cons (by decide))]
    unfold skp
    dsimp only
    rw [dr_mtn (c := 62) (r := r) h3 (by decide), if_neg (by decide), dr_wd h3, hln]
    rfl
  have e5 : sl (gd (cur a)) 1 (1 + nm.length - 1) = nm := by
    rw [Nat.add_sub_cancel_left]
    exact dr_sl h1
  have e6 := rd_gvs (el := nm) (c := aN a 0) (m := aN a 1) hA hrm w (1 + nm.length) [] h2 ht hd (by omega)
  have e7 : dfl (aA a) nm (w.map cutA) = [] := by rw [hA]; rfl
  have e8 : gd (cur a) ((wTag nm w).length - 2) ≠ 47 := by
    have hk : (wTag nm w).length - 2 = nm.length + (w.flatMap wAt).length := by omega
    rw [hk]
    rcases List.eq_nil_or_concat w with rfl | ⟨w', t, rfl⟩
    · obtain ⟨c, y, rfl, y1, y2⟩ := lgn_cons hn
      have z : ∀ d ∈ (c :: y), d ≠ 47 := fun d hd e => by
        have := hn.2 d hd
        rw [e] at this
        exact absurd this (by decide)
      have h5 : gd (cur a) ((c :: y).length + (List.flatMap wAt []).length) ∈ sl (gd (cur a)) 1 (c :: y).length := by
        unfold sl
        exact List.mem_map.mpr ⟨y.length, List.mem_range.mpr (by rw [List.length_cons]; omega), by
          show gd (cur a) (1 + y.length) = gd (cur a) ((c :: y).length + 0)
          congr 1
          rw [List.length_cons]
          omega⟩
      rw [dr_sl h1] at h5
      exact z _ h5
    · rw [List.concat_eq_append] at h2 ⊢
      rw [List.flatMap_append] at h2 ⊢
      have hw : List.flatMap wAt [t] = wAt t := by rw [List.flatMap_singleton]
      rw [hw] at h2 ⊢
      have hq : wAt t = ([32] ++ (t.1 ++ (ti 1085 ++ t.2.1.flatMap (escL true)))) ++ [34] := by
        unfold wAt
        simp only [List.append_assoc]
      rw [hq] at h2 ⊢
      generalize ([32] ++ (t.1 ++ (ti 1085 ++ t.2.1.flatMap (escL true)))) = X at *
      have h4 : (cur a).drop (1 + nm.length) = (w'.flatMap wAt ++ X) ++ (34 :: ([62] ++ r)) := by
        rw [h2]
        simp only [List.append_assoc, List.cons_append, List.nil_append]
      have h5 := (dr_c (dr_nx h4)).2.1
      have hk2 : 1 + nm.length + (w'.flatMap wAt ++ X).length = nm.length + (w'.flatMap wAt ++ (X ++ [34])).length := by
        simp only [List.length_append, List.length_cons, List.length_nil]
        omega
      exact fun z => absurd (h5.symm.trans ((congrArg (gd (cur a)) hk2).trans z)) (by decide)
  unfold iTag
  rw [e4, e1]
  dsimp only
  rw [e5, e3, e6]
  dsimp only
  rw [List.nil_append, e7, List.append_nil, if_neg (by rw [List.length_map]; omega), if_neg e8]
end Rt3
section Rt4
variable {l x r q nm t s : List Int} {i : Nat} {rm nd : Nat} {a a' : AS}
/-- no end of an instruction stands in it, behind p -/
def nqp : Int → Str → Bool
  | _, [] => true
  | p, c :: r => !(p == 63 && c == 62) && nqp c r
def crE (c : Int) : Str := if c = 13 then ti 1088 else [c]
/-- an instruction as it may be -/
def PIg (t s : Str) : Prop := lgn t ∧ t.map lowr ≠ [120, 109, 108] ∧ nqp 0 s = true ∧ hdn isSp s ∧ ∀ c ∈ s, isCh c = true
def wPiC (t s : Str) : Str := [60, 63] ++ (t ++ ((if s = [] then [] else [32]) ++ (s ++ [63, 62])))
theorem nqp_ne {p p' : Int} (h : p ≠ 63) (h' : p' ≠ 63) : ∀ {s : Str}, nqp p s = nqp p' s
  | [] => rfl
  | c :: s => by
    unfold nqp
    rw [beq_false_of_ne h, beq_false_of_ne h']
theorem nqp_cr : ∀ (s : Str) (p : Int), nqp p s = true → nqp p (s.flatMap crE) = true
  | [], p, _ => rfl
  | c :: s, p, h => by
    unfold nqp at h
    rw [Bool.and_eq_true] at h
    rw [List.flatMap_cons]
    by_cases c1 : c = 13
    · have hcr : crE c = [38, 35, 120, 68, 59] := by unfold crE; rw [if_pos c1, ti_1088]
      have h2 := nqp_cr s 13 (by rw [← c1]; exact h.2)
      rw [nqp_ne (p' := 59) (by decide) (by decide)] at h2
      rw [hcr]
      simp only [List.cons_append, List.nil_append, nqp]
      rw [h2]
      cases (p == 63) <;> rfl
    · have hcr : crE c = [c] := by unfold crE; rw [if_neg c1]
      rw [hcr]
      show (!(p == 63 && c == 62) && nqp c (s.flatMap crE)) = true
      rw [nqp_cr s c h.2, Bool.and_true]
      exact h.1
theorem nqp_sl {T : Nat → Int} : ∀ (n f : Nat) (p : Int), (∀ j, j + 1 < n → ¬ (T (f + j) = 63 ∧ T (f + j + 1) = 62)) → (0 < n → p ≠ 63 ∨ T f ≠ 62) → nqp p (sl T f n) = true
  | 0, f, p, _, _ => by rw [sl_zero]; rfl
  | n + 1, f, p, h, hp => by
    rw [sl_cons2]
    unfold nqp
    rw [nqp_sl n (f + 1) (T f) (fun j hj => by rw [show f + 1 + j = f + (j + 1) by omega]; exact h (j + 1) (by omega)) (fun hn => by
      by_cases c : T f = 63
      · exact Or.inr (fun z => h 0 (by omega) ⟨c, z⟩)
      · exact Or.inl c), Bool.and_true, Bool.not_eq_true', Bool.and_eq_false_iff]
    rcases hp (by omega) with z | z
    · exact Or.inl (beq_false_of_ne z)
    · exact Or.inr (beq_false_of_ne z)
theorem dr_sek : ∀ {s : Str} {i : Nat} {p : Int}, l.drop i = s ++ (63 :: 62 :: r) → nqp p s = true → sek (gd l) l.length [63, 62] i = some (i + s.length)
  | [], i, p, h, _ => sek_hit (dr_c h).1 (dr_mt (x := [63, 62]) h)
  | c :: s, i, p, h, hq => by
    obtain ⟨h1, h2, h3⟩ := dr_c h
    unfold nqp at hq
    rw [Bool.and_eq_true] at hq
    have hm : mt (gd l) l.length i [63, 62] = false := by
      by_cases c1 : c = 63
      · cases s with
        | nil => exact dr_mtn2 (c' := 63) (r := 62 :: r) h (by decide)
        | cons d s =>
          have hq2 := hq.2
          unfold nqp at hq2
          rw [Bool.and_eq_true, c1] at hq2
          refine dr_mtn2 (c' := d) (r := s ++ (63 :: 62 :: r)) h (fun z => ?_)
          have := hq2.1
          rw [z] at this
          exact absurd this (by decide)
      · exact dr_mtn h c1
    rw [sek_go h1 hm, dr_sek h3 hq.2, List.length_cons]
    congr 1
    omega
/-- an instruction that is written -/
theorem rd_pin (hc : cur a = wPiC t s ++ r) (hg : PIg t s) (hnd : aN a 3 + 1 ≤ nd) : iPin nd true a = .inr (adv (sN (sN (sS (tch a false) (aS a ++ [.inr (t, s)])) 3 (aN a 3 + 1)) 2 (aN a 2 + (hasc t).toNat)) (wPiC t s).length) := by
  obtain ⟨g1, g2, g3, g4, -⟩ := hg
  have h0 : (cur a).drop 0 = [60, 63] ++ (t ++ ((if s = [] then [] else [32]) ++ (s ++ (63 :: 62 :: r)))) := by
    rw [List.drop_zero, hc]
    unfold wPiC
    simp only [List.append_assoc, List.cons_append, List.nil_append]
  have h1 := dr_nx h0
  rw [show 0 + [(60 : Int), 63].length = 2 from rfl] at h1
  have hl : (wPiC t s).length = 2 + t.length + (if s = [] then 0 else 1) + s.length + 2 := by
    unfold wPiC
    simp only [List.length_append, List.length_cons, List.length_nil]
    split <;> simp only [List.length_cons, List.length_nil] <;> omega
  have hx : hdn isNm ((if s = [] then [] else [32]) ++ (s ++ (63 :: 62 :: r))) := by
    by_cases c : s = []
    · rw [if_pos c, c]; exact hdn_cons (by decide)
    · rw [if_neg c]; exact hdn_cons (by decide)
  have e1 := dr_nmg h1 g1 hx
  have e2 : sl (gd (cur a)) 2 t.length = t := dr_sl h1
  have h2 := dr_nx h1
  have e3 : pin (gd (cur a)) (cur a).length 0 = some (2 + t.length, 2 + t.length + (if s = [] then 0 else 1), (wPiC t s).length) := by
    unfold pin
    rw [Nat.zero_add, e1]
    dsimp only
    rw [Nat.add_sub_cancel_left, e2, if_neg g2]
    by_cases c : s = []
    · rw [if_pos c, c] at h2
      rw [dr_mt (x := [63, 62]) (r := r) h2, if_pos rfl, hl, if_pos c, c]
      rfl
    · rw [if_neg c] at h2
      have h3 := (dr_c (c := 32) (r := s ++ (63 :: 62 :: r)) h2).2.2
      rw [dr_mtn (c := 32) (r := s ++ (63 :: 62 :: r)) h2 (by decide), if_neg (by decide), dr_spc (r := s ++ (63 :: 62 :: r)) h2 (by
        cases s with
        | nil => exact absurd rfl c
        | cons d s => exact hdn_cons (g4 d rfl))]
      dsimp only
      rw [dr_sek h3 g3, hl, if_neg c]
  have e4 : sl (gd (cur a)) (2 + t.length + (if s = [] then 0 else 1)) s.length = s := by
    by_cases c : s = []
    · rw [c]; exact sl_zero
    · rw [if_neg c] at h2 ⊢
      exact dr_sl (dr_c (c := 32) (r := s ++ (63 :: 62 :: r)) h2).2.2
  unfold iPin
  rw [e3]
  dsimp only
  rw [if_neg (by omega), if_pos rfl, Nat.add_sub_cancel_left, e2, show (wPiC t s).length - 2 - (2 + t.length + (if s = [] then 0 else 1)) = s.length by rw [hl]; omega, e4]
theorem rd_end {e : Nat} {sk : List Nat} {f : Frm} {F : List Frm} (hc : cur a = wEn nm ++ r) (hn : lgn nm) (hO : aO a = e :: sk) (hF : aF a = f :: F) (hf : f.2.2 = 0) (he : ((aL a).getD e ([], 0, 0, 0, 0, false, false)).1 = nm) : iEnd a = .inr (cls (adv a (wEn nm).length)) := by
  have h0 : (cur a).drop 0 = [60, 47] ++ (nm ++ (62 :: r)) := by
    rw [List.drop_zero, hc]
    unfold wEn
    rw [ti_1086]
    simp only [List.append_assoc, List.cons_append, List.nil_append]
  have h1 := dr_nx h0
  rw [show 0 + [(60 : Int), 47].length = 2 from rfl] at h1
  have h2 := dr_nx h1
  have e1 := dr_nmg h1 hn (hdn_cons (by decide))
  have e2 : etk (gd (cur a)) (cur a).length 0 = some (wEn nm).length := by
    unfold etk
    rw [Nat.zero_add, e1, dr_asp h2 (hdn_cons (by decide)), dr_wd (x := [62]) h2]
    unfold wEn
    rw [ti_1086]
    simp only [List.length_append, List.length_cons, List.length_nil]
    congr 1
    try omega
  unfold iEnd
  rw [e2, e1, hO, hF]
  dsimp only
  rw [he, Nat.add_sub_cancel_left, dr_sl h1, if_neg (by simp), if_neg (by rw [hf, List.length_cons]; omega)]
theorem rd_run (hc : cur a = x ++ r) (hx : ∀ c ∈ x, c ≠ 60 ∧ c ≠ 38 ∧ c ≠ 62) (hr : hdn isRn r) : iRun a = .inr (adv (chr (tch a (x.any (fun c => !isSp c))) x) x.length) := by
  have e1 : sk isRn (gd (cur a)) (cur a).length 0 = x.length := by
    have := dr_sk (l := cur a) (i := 0) (p := isRn) (x := x) (r := r) (by rw [List.drop_zero, hc]) (fun c h => by
      unfold isRn
      rw [beq_false_of_ne (hx c h).1, beq_false_of_ne (hx c h).2.1]
      rfl) hr
    rw [this, Nat.zero_add]
  have e2 : sl (gd (cur a)) 0 x.length = x := dr_sl (r := r) (by rw [List.drop_zero, hc])
  unfold iRun
  rw [e1, e2, if_neg (fun z => ?_)]
  obtain ⟨j, -, j2, -, -, j5⟩ := sek_HB.mp z
  have : gd (cur a) (j + 2) ∈ x := by
    rw [← e2]
    unfold sl
    exact List.mem_map.mpr ⟨j + 2, List.mem_range.mpr (by omega), by rw [Nat.zero_add]⟩
  exact (hx _ this).2.2 j5
theorem rd_ref {c : Int} (hc : cur a = x ++ r) (hx : RFX x c) : iRef rm a = .inr (adv (chr (tch a true) [c]) x.length) := by
  have e1 := hx.rp (l := cur a) (i := 0) (r := r) (by rw [List.drop_zero, hc])
  obtain ⟨e2, e3⟩ := hx.rk (r := r)
  unfold iRef
  rw [e1, Nat.zero_add]
  dsimp only
  have e4 : rfK (cur a) x.length = c := by rw [hc]; exact e2
  rw [e4, if_pos e3]
theorem rd_spc (hc : cur a = 10 :: r) (hr : hdn isSp r) : iSpc a = .inr (adv a 1) := by
  unfold iSpc
  rw [dr_sk (l := cur a) (i := 0) (p := isSp) (x := [10]) (r := r) (by rw [List.drop_zero, hc]; rfl) (fun c h => by rw [List.mem_singleton.mp h]; rfl) hr]
  rfl
end Rt4
