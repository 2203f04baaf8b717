/-! ===== violations at the end (pure) ===== -/
section KwJ
variable {rm nd : Nat} {a : AS} {ed : List EDc} {el : List Elm} {ad : List ADc} {nt : List Str} {k : Nat} {s : Str}
theorem flt_sn {p : Nat → Bool} {n : Nat} : ((List.range n).filter p).length = sn (fun i => if p i = true then 1 else 0) n := by
  induction n with
  | zero => rfl
  | succ n ih =>
    rw [List.range_succ, List.filter_append, List.length_append, ih, sn_s]
    congr 1
    rw [List.filter_cons]
    split <;> rfl
theorem nnk_sn {κ : Nat → Option Nat} {n : Nat} : nnk κ n 0 = sn (fun i => if κ i = none then 1 else 0) n := by
  unfold nnk
  rw [Nat.sub_zero, ← List.range_eq_range', flt_sn]
  refine sn_ext (fun d _ => ?_)
  by_cases c : κ d = none
  · rw [if_pos c, if_pos (by rw [c]; rfl)]
  · rw [if_neg c, if_neg (fun z => c (by simpa using z))]
theorem dbl_sn {κ : Nat → Option Nat} {g : Nat → Nat → Nat} {m : Nat} : ∀ {n : Nat}, (∀ e, e < n → ∀ i, κ e = some i → i < m) → sn (fun i => ((chl κ n i 0).map (g i)).sum) m = sn (fun e => match κ e with
    | none => 0
    | some i => g i e) n := by
  have key : ∀ n i, chl κ n i 0 = (List.range n).filter (fun e => κ e == some i) := by
    intro n i
    unfold chl
    rw [Nat.sub_zero, ← List.range_eq_range']
  intro n
  induction n with
  | zero =>
    intro _
    refine (sn_0 (fun i => ?_) m).trans rfl
    rw [key]; rfl
  | succ n ih =>
    intro h
    rw [sn_s, ← ih (fun e he => h e (by omega))]
    have e1 : sn (fun i => ((chl κ (n + 1) i 0).map (g i)).sum) m = sn (fun i => ((chl κ n i 0).map (g i)).sum + (if κ n = some i then g i n else 0)) m := by
      refine sn_ext (fun i _ => ?_)
      rw [key, key, List.range_succ, List.filter_append, List.map_append, List.sum_append]
      congr 1
      rw [List.filter_cons]
      by_cases c : κ n = some i
      · rw [if_pos (by rw [c]; exact beq_self_eq_true _), if_pos c]; simp
      · rw [if_neg (fun z => c (beq_iff_eq.mp z)), if_neg c]; rfl
    rw [e1]
    have e2 : ∀ (f q : Nat → Nat) (m : Nat), sn (fun i => f i + q i) m = sn f m + sn q m := by
      intro f q m
      induction m with
      | zero => rfl
      | succ m ih => rw [sn_s, sn_s, sn_s, ih]; omega
    rw [e2]
    congr 1
    cases hk : κ n with
    | none => exact sn_0 (fun i => by rw [if_neg (by intro z; cases z)]) m
    | some j =>
      have hj := h n (by omega) j hk
      have e3 : ∀ m, j < m → sn (fun i => if some j = some i then g i n else 0) m = g j n := by
        intro m
        induction m with
        | zero => intro z; omega
        | succ m ihm =>
          intro z
          rw [sn_s]
          by_cases c : j = m
          · subst c
            rw [if_pos rfl]
            have : sn (fun i => if some j = some i then g i n else 0) j = 0 := by
              have h0 : ∀ q, q ≤ j → sn (fun i => if some j = some i then g i n else 0) q = 0 := by
                intro q
                induction q with
                | zero => intro _; rfl
                | succ q ihq =>
                  intro hq
                  rw [sn_s, ihq (by omega), if_neg (by intro z; have := Option.some.inj z; omega)]
              exact h0 j (Nat.le_refl _)
            rw [this]; omega
          · rw [ihm (by omega), if_neg (by intro z; exact c (Option.some.inj z)), Nat.add_zero]
      exact e3 m hj
theorem clS_sn : clS ed el [] k = sn (clq ed el k) el.length := by
  unfold clS
  rfl
theorem ctE_all : (if k = 5 then nnk (kdc ed el) el.length 0 else 0) + sn (ctE ed el k) ed.length = sn (ct3 ed k) ed.length + clS ed el [] k := by
  rw [clS_sn]
  by_cases k5 : k = 5
  · subst k5
    rw [if_pos rfl, nnk_sn]
    have e1 : sn (ctE ed el 5) ed.length = 0 := sn_0 (fun i => rfl) _
    have e2 : sn (ct3 ed 5) ed.length = 0 := sn_0 (fun i => rfl) _
    rw [e1, e2, Nat.add_zero, Nat.zero_add]
    refine sn_ext (fun d _ => ?_)
    unfold clq kdc
    cases edf ed (el.getD d elD).1 with
    | none => rfl
    | some i =>
      dsimp only
      rw [if_neg (by intro z; cases z), if_neg (by intro z; exact absurd z.1 (by decide))]
  · rw [if_neg k5, Nat.zero_add]
    by_cases k6 : k = 6
    · subst k6
      have e2 : sn (ct3 ed 6) ed.length = 0 := sn_0 (fun i => rfl) _
      rw [e2, Nat.zero_add]
      have e1 : sn (ctE ed el 6) ed.length = sn (fun i => ((chl (kdc ed el) el.length i 0).map (fun e => if fit ed el (ed.getD i ([], 0, [])) e = true then 0 else 1)).sum) ed.length := rfl
      rw [e1, dbl_sn (κ := kdc ed el) (m := ed.length) (n := el.length) (g := fun i e => if fit ed el (ed.getD i ([], 0, [])) e = true then 0 else 1) (fun e _ i hi => edf_lt hi)]
      refine sn_ext (fun d _ => ?_)
      unfold clq kdc
      cases edf ed (el.getD d elD).1 with
      | none => rfl
      | some i =>
        dsimp only
        cases fit ed el (ed.getD i ([], 0, [])) d <;> rfl
    · have e1 : sn (clq ed el k) el.length = 0 := sn_0 (fun i => by
        unfold clq
        split
        · rw [if_neg k5]
        · rw [if_neg (fun z => k6 z.1)]) _
      rw [e1, Nat.add_zero]
      refine sn_ext (fun d _ => ?_)
      unfold ct3
      rw [if_neg k6]
      unfold ctE
      split
      · rfl
      · split
        · rfl
        · split
          · rfl
          · first | rw [if_neg k6, if_neg k6] | rfl
theorem cnA_dAs : cnA ed ad nt k = dAs ad k + (if k = 16 ∨ k = 18 then cnA ed ad nt k else 0) := by
  by_cases c : k = 16 ∨ k = 18
  · rw [if_pos c]
    have : dAs ad k = 0 := by
      unfold dAs
      rw [sn_range]
      refine sn_0 (fun j => ?_) _
      unfold dvD
      rcases c with c | c <;> subst c <;> rfl
    omega
  · rw [if_neg c, Nat.add_zero]
    unfold cnA dAs
    rw [sn_range]
    refine sn_ext (fun d hd => ?_)
    have hb : ∀ t, bef ad d t = (List.range (ad.take d).length).any (fun j => ((ad.take d).getD j adD).1 == (ad.getD d adD).1 && ((ad.take d).getD j adD).2.2.1 == t) := by
      intro t
      unfold bef
      rw [List.length_take, show min d ad.length = d by omega]
      rw [Bool.eq_iff_iff, List.any_eq_true, List.any_eq_true]
      have hg : ∀ j, j < d → (ad.take d).getD j adD = ad.getD j adD := fun j hj => by
        rw [List.getD_eq_getElem?_getD, List.getElem?_take, if_pos hj, List.getD_eq_getElem?_getD]
      constructor
      · rintro ⟨j, h1, h2⟩
        refine ⟨j, h1, ?_⟩
        rw [List.mem_range] at h1
        rw [hg j h1]; exact h2
      · rintro ⟨j, h1, h2⟩
        refine ⟨j, h1, ?_⟩
        rw [List.mem_range] at h1
        rw [hg j h1] at h2; exact h2
    unfold ctA dvD
    rw [hb, hb]
    have n16 : k ≠ 16 := fun z => c (Or.inl z)
    have n18 : k ≠ 18 := fun z => c (Or.inr z)
    by_cases k13 : k = 13
    · rw [if_pos k13, if_pos k13]
    · rw [if_neg k13, if_neg k13]
      by_cases k14 : k = 14
      · rw [if_pos k14, if_pos k14]
      · rw [if_neg k14, if_neg k14]
        by_cases k15 : k = 15
        · rw [if_pos k15, if_pos k15]
        · rw [if_neg k15, if_neg k15, if_neg n16]
          by_cases k17 : k = 17
          · rw [if_pos k17, if_pos k17]
          · rw [if_neg k17, if_neg k17, if_neg n18]
theorem cnV_vv (hO : aO a = []) (hR : aR a = some s) : cnV a k = vv a k + (if k = 22 then aN a 1 else if k = 1 then (if ((aL a).getD 0 elD).1 = s then 0 else 1) else 0) + (if k = 11 then (idA a).2.1 else 0) + cnR (aA a) (aB a) (idA a).1 k + (if k = 16 ∨ k = 18 then cnA (aD a) (aA a) (aT a) k else 0) := by
  unfold cnV vv cn0
  rw [hR, hO]
  dsimp only
  have h1 := ctE_all (ed := aD a) (el := aL a) (k := k)
  have h2 := cnA_dAs (ed := aD a) (ad := aA a) (nt := aT a) (k := k)
  by_cases k22 : k = 22
  · subst k22
    rw [if_pos rfl, if_pos rfl, if_neg (show ¬ (22 = 20) by decide)]
    omega
  · rw [if_neg k22, if_neg k22]
    by_cases k20 : k = 20
    · subst k20
      rw [if_pos rfl, if_pos rfl, if_neg (show ¬ (20 = 1) by decide)]
      omega
    · rw [if_neg k20, if_neg k20]
      omega
/-- and they are not too many -/
theorem vv_le {bk : List Str} (h : GZ rm nd a bk) (hrm : rm ≤ 98304) (hnd : nd ≤ 16384) : vv a k ≤ 300000000 := by
  have hA : (aA a).length ≤ 8300 := (h.gk hrm).2.2.2.2.2.2.2.1.2.2.1
  obtain ⟨h1, h2, h3, h4, h5, h6, ⟨q1, q2, q3, q4, q5, q6⟩, -⟩ := h
  obtain ⟨⟨-, -, ⟨r1, r2, -, -⟩, ⟨c1, c2, -⟩, ⟨g3, g3'⟩, -⟩, -, -⟩ := h1
  have e1 : sn (ct3 (aD a) k) (aD a).length ≤ (aD a).length + ((aD a).map (fun x => (mxN x).length)).sum := by
    have key : ∀ (f : EDc → Nat) (l : List EDc), sn (fun i => f (l.getD i ([], 0, []))) l.length = (l.map f).sum := by
      intro f l
      rw [← sn_range]
      congr 1
      refine List.ext_getElem (by rw [List.length_map, List.length_map, List.length_range]) (fun i h1 h2 => ?_)
      rw [List.length_map, List.length_range] at h1
      rw [List.getElem_map, List.getElem_map, List.getElem_range, List.getD_eq_getElem?_getD, List.getElem?_eq_getElem h1]
      rfl
    have h0 : ∀ d, ct3 (aD a) k d ≤ 1 + (mxN ((aD a).getD d ([], 0, []))).length := by
      intro d
      unfold ct3 ctE
      have := rpk_le (l := mxN ((aD a).getD d ([], 0, []))) (mxN ((aD a).getD d ([], 0, []))).length
      split
      · omega
      · split
        · split <;> omega
        · split
          · split <;> omega
          · split
            · split <;> omega
            · omega
    have h1 : ∀ n, sn (ct3 (aD a) k) n ≤ sn (fun d => 1 + (mxN ((aD a).getD d ([], 0, []))).length) n := by
      intro n
      induction n with
      | zero => exact Nat.le_refl _
      | succ n ih => rw [sn_s, sn_s]; have := h0 n; omega
    refine Nat.le_trans (h1 _) ?_
    rw [key (fun x => 1 + (mxN x).length)]
    have : ∀ l : List EDc, (l.map (fun x => 1 + (mxN x).length)).sum ≤ l.length + (l.map (fun x => (mxN x).length)).sum := by
      intro l
      induction l with
      | nil => exact Nat.le_refl _
      | cons x l ih => rw [List.map_cons, List.map_cons, List.sum_cons, List.sum_cons, List.length_cons]; omega
    exact this _
  have e2 : dAs (aA a) k ≤ (aA a).length + nLs (aD a) (aA a) := by
    have h0 : ∀ d, dvD ((aA a).take d) ((aA a).getD d adD) k ≤ 1 + ((aA a).getD d adD).2.2.2.2.2.length := fun d => dvD_le
    unfold dAs
    rw [sn_range]
    have h1 : ∀ n, sn (fun j => dvD ((aA a).take j) ((aA a).getD j adD) k) n ≤ sn (fun d => 1 + ((aA a).getD d adD).2.2.2.2.2.length) n := by
      intro n
      induction n with
      | zero => exact Nat.le_refl _
      | succ n ih => rw [sn_s, sn_s]; have := h0 n; omega
    refine Nat.le_trans (h1 _) ?_
    rw [← sn_range]
    have h2 : (List.range (aA a).length).map (fun d => 1 + ((aA a).getD d adD).2.2.2.2.2.length) = (aA a).map (fun x => 1 + x.2.2.2.2.2.length) := by
      refine List.ext_getElem (by rw [List.length_map, List.length_map, List.length_range]) (fun i h1 h2 => ?_)
      rw [List.length_map, List.length_range] at h1
      rw [List.getElem_map, List.getElem_map, List.getElem_range, List.getD_eq_getElem?_getD, List.getElem?_eq_getElem h1]
      rfl
    rw [h2]
    have : ∀ l : List ADc, (l.map (fun x => 1 + x.2.2.2.2.2.length)).sum ≤ l.length + (l.map (fun x => x.2.2.2.2.2.length)).sum := by
      intro l
      induction l with
      | nil => exact Nat.le_refl _
      | cons x l ih => rw [List.map_cons, List.map_cons, List.sum_cons, List.sum_cons, List.length_cons]; omega
    have h3 := this (aA a)
    unfold nLs
    omega
  have e3 := ndu_le (aT a)
  have e4 : cnT (aA a) (aB a) (aL a) k ≤ (aB a).length + (aL a).length * 8300 := by
    unfold cnT
    have t1 : gsm (tga (aA a) (aB a) k) (segs (aL a)) ≤ (segs (aL a)).length := gsm_len (fun i => by
      unfold tga
      split
      · split <;> omega
      · split
        · split <;> omega
        · split
          · split <;> omega
          · omega) _
    have t2 : (segs (aL a)).length = (aB a).length := by
      have := congrArg List.length h3.1
      rw [List.length_map, List.length_range] at this
      exact this
    have t3 : ((aL a).map (ce9 (aA a) (aB a))).sum ≤ (aL a).length * 8300 := by
      have : ∀ l : List Elm, (l.map (ce9 (aA a) (aB a))).sum ≤ l.length * 8300 := by
        intro l
        induction l with
        | nil => exact Nat.le_refl _
        | cons x l ih =>
          rw [List.map_cons, List.sum_cons, List.length_cons]
          have := ce9_le (ad := aA a) (at_ := aB a) (x := x)
          omega
      exact this _
    split <;> omega
  have e5' : clS (aD a) (aL a) (aO a) k ≤ 1 * (aL a).length := by
    unfold clS
    refine sm_le (fun d => ?_) _
    unfold clq
    split
    · split <;> omega
    · split <;> omega
  unfold vv
  have e6 : (aL a).length * 8300 ≤ 16384 * 8300 := Nat.mul_le_mul_right _ (by omega)
  split <;> omega
end KwJ
