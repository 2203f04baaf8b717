/-! ===== lexical functions on a text whose letters are known (pure) ===== -/
/-- a name, as it may be written -/
def lgn (s : Str) : Prop := isSt (s.getD 0 0) = true ∧ ∀ c ∈ s, isNm c = true
/-- what comes next is not such -/
def hdn (p : Int → Bool) (r : List Int) : Prop := ∀ c, r.head? = some c → p c = false
section Rt1
variable {l x r q : List Int} {i : Nat} {c d : Int} {p : Int → Bool}
theorem hdn_nil : hdn p [] := fun c h => by cases h
theorem hdn_cons (h : p c = false) : hdn p (c :: r) := fun d hd => by
  have : c = d := Option.some.inj hd
  rw [← this]; exact h
theorem dr_nx (h : l.drop i = x ++ r) : l.drop (i + x.length) = r := by
  rw [← List.drop_drop, h, List.drop_left]
theorem dr_c (h : l.drop i = c :: r) : i < l.length ∧ gd l i = c ∧ l.drop (i + 1) = r := by
  have h1 : i < l.length := by
    have := congrArg List.length h
    rw [List.length_drop, List.length_cons] at this
    omega
  rw [List.drop_eq_getElem_cons h1] at h
  injection h with h2 h3
  refine ⟨h1, ?_, h3⟩
  unfold gd
  rw [List.getD_eq_getElem?_getD, List.getElem?_eq_getElem h1]
  exact h2
theorem dr_ln (h : l.drop i = x ++ r) (hi : i ≤ l.length) : i + x.length + r.length = l.length := by
  have := congrArg List.length h
  rw [List.length_drop, List.length_append] at this
  omega
theorem dr_lk (h : l.drop i = c :: r) : lk (gd l) l.length i = c := by
  obtain ⟨h1, h2, -⟩ := dr_c h
  rw [lk_b h1, h2]
theorem dr_nil (h : l.drop i = []) : l.length ≤ i := List.drop_eq_nil_iff.mp h
theorem dr_stop (h : l.drop i = r) (hr : hdn p r) : sk p (gd l) l.length i = i := by
  cases r with
  | nil => exact sk_end (dr_nil h)
  | cons c r =>
    obtain ⟨h1, h2, -⟩ := dr_c h
    exact sk_stop (by rw [h2]; exact hr c rfl)
theorem dr_sk : ∀ {x : List Int} {i : Nat}, l.drop i = x ++ r → (∀ c ∈ x, p c = true) → hdn p r → sk p (gd l) l.length i = i + x.length
  | [], i, h, _, hr => dr_stop h hr
  | c :: x, i, h, hx, hr => by
    obtain ⟨h1, h2, h3⟩ := dr_c h
    rw [sk_go h1 (by rw [h2]; exact hx c List.mem_cons_self), dr_sk h3 (fun d hd => hx d (List.mem_cons_of_mem _ hd)) hr, List.length_cons]
    omega
theorem dr_mt : ∀ {x : List Int} {i : Nat}, l.drop i = x ++ r → mt (gd l) l.length i x = true
  | [], i, h => rfl
  | c :: x, i, h => by
    obtain ⟨h1, h2, h3⟩ := dr_c h
    unfold mt
    rw [dr_lk h, dr_mt h3]
    simp
theorem dr_mtn (h : l.drop i = c :: r) (hc : c ≠ d) : mt (gd l) l.length i (d :: q) = false := by
  unfold mt
  rw [dr_lk h, beq_false_of_ne hc]
  rfl
theorem dr_mtn2 {c' d' : Int} (h : l.drop i = c :: c' :: r) (hc : c' ≠ d') : mt (gd l) l.length i (d :: d' :: q) = false := by
  unfold mt
  rw [dr_mtn (dr_c h).2.2 hc, Bool.and_false]
theorem dr_sl : ∀ {x : List Int} {i : Nat}, l.drop i = x ++ r → sl (gd l) i x.length = x
  | [], i, h => sl_zero
  | c :: x, i, h => by
    obtain ⟨h1, h2, h3⟩ := dr_c h
    rw [List.length_cons, sl_cons2, h2, dr_sl h3]
theorem lgn_cons {s : Str} (h : lgn s) : ∃ c r, s = c :: r ∧ isSt c = true ∧ ∀ d ∈ r, isNm d = true := by
  obtain ⟨h1, h2⟩ := h
  cases s with
  | nil => exact absurd h1 (by decide)
  | cons c r => exact ⟨c, r, rfl, h1, fun d hd => h2 d (List.mem_cons_of_mem _ hd)⟩
theorem dr_nmg (h : l.drop i = x ++ r) (hx : lgn x) (hr : hdn isNm r) : nmg (gd l) l.length true (some i) = some (i + x.length) := by
  obtain ⟨c, y, rfl, h1, h2⟩ := lgn_cons hx
  obtain ⟨h3, h4, h5⟩ := dr_c h
  unfold nmg
  dsimp only
  rw [if_pos rfl, dr_lk h, if_pos h1, dr_sk h5 h2 hr, List.length_cons]
  congr 1
  omega
theorem dr_asp (h : l.drop i = r) (hr : hdn isSp r) : asp (gd l) l.length (some i) = some i := by
  unfold asp
  rw [Option.map_some, dr_stop h hr]
theorem dr_spc (h : l.drop i = 32 :: r) (hr : hdn isSp r) : spc (gd l) l.length (some i) = some (i + 1) := by
  unfold spc
  dsimp only
  rw [dr_sk (x := [32]) h (fun c hc => by rw [List.mem_singleton.mp hc]; rfl) hr, if_neg (by show ¬ i + 1 = i; omega)]
  rfl
theorem dr_spc0 (h : l.drop i = r) (hr : hdn isSp r) : spc (gd l) l.length (some i) = none := by
  unfold spc
  dsimp only
  rw [dr_stop h hr, if_pos rfl]
theorem dr_wd (h : l.drop i = x ++ r) : wd (gd l) l.length x (some i) = some (i + x.length) := wd_of (dr_mt h)
theorem isSt_nE {c : Int} (h : isSt c = true) : c ≠ 33 ∧ c ≠ 47 ∧ c ≠ 63 ∧ c ≠ 60 ∧ c ≠ 38 ∧ c ≠ 35 ∧ isSp c = false ∧ c ≠ 13 ∧ isCh c = true := by
  refine ⟨?_, ?_, ?_, ?_, ?_, ?_, ?_, ?_, ?_⟩
  · rintro rfl; exact absurd h (by decide)
  · rintro rfl; exact absurd h (by decide)
  · rintro rfl; exact absurd h (by decide)
  · rintro rfl; exact absurd h (by decide)
  · rintro rfl; exact absurd h (by decide)
  · rintro rfl; exact absurd h (by decide)
  · by_cases hc : isSp c = true
    · exfalso
      unfold isSp at hc
      simp only [Bool.or_eq_true, beq_iff_eq] at hc
      rcases hc with rfl | rfl | rfl | rfl <;> exact absurd h (by decide)
    · exact Bool.eq_false_iff.mpr hc
  · rintro rfl; exact absurd h (by decide)
  · unfold isSt at h
    unfold isCh
    split at h <;> simp only [inI, Bool.or_eq_true, beq_iff_eq, Bool.and_eq_true, decide_eq_true_eq] at h ⊢ <;> omega
theorem isNm_nE {c : Int} (h : isNm c = true) : c ≠ 60 ∧ c ≠ 38 ∧ c ≠ 13 ∧ c ≠ 10 ∧ isCh c = true := by
  refine ⟨?_, ?_, ?_, ?_, ?_⟩
  · rintro rfl; exact absurd h (by decide)
  · rintro rfl; exact absurd h (by decide)
  · rintro rfl; exact absurd h (by decide)
  · rintro rfl; exact absurd h (by decide)
  · unfold isNm at h
    rw [Bool.or_eq_true] at h
    rcases h with h | h
    · exact (isSt_nE h).2.2.2.2.2.2.2.2
    · unfold isCh
      simp only [inI, Bool.or_eq_true, beq_iff_eq, Bool.and_eq_true, decide_eq_true_eq] at h ⊢
      omega
end Rt1
section Rt2
variable {l x r q nm : List Int} {i : Nat} {c d h : Int} {p : Int → Bool} {v : Bool}
/-- a reference, as it is written, and what it means -/
def RFX (x : List Int) (c : Int) : Prop := ((∃ h, x = [38, 35, 120, h, 59] ∧ hexd h = true ∧ numl 16 [h] = c ∧ isCh c = true) ∨ ∃ nm, x = 38 :: (nm ++ [59]) ∧ lgn nm ∧ (∀ d ∈ nm, d ≠ 35) ∧ alw nm = c ∧ 0 ≤ c)
theorem RFX.rp (hx : RFX x c) (hd : l.drop i = x ++ r) : rfp (gd l) l.length (some i) = some (i + x.length) := by
  rcases hx with ⟨h, rfl, h1, -, -⟩ | ⟨nm, rfl, h1, h2, -, -⟩
  · obtain ⟨-, -, d1⟩ := dr_c (r := 35 :: 120 :: h :: 59 :: r) hd
    obtain ⟨-, -, d2⟩ := dr_c d1
    obtain ⟨-, -, d3⟩ := dr_c d2
    have k1 := dr_sk (p := hexd) (x := [h]) (r := 59 :: r) d3 (fun c hc => by rw [List.mem_singleton.mp hc]; exact h1) (hdn_cons (by decide))
    unfold rfp
    dsimp only
    rw [dr_lk (r := 35 :: 120 :: h :: 59 :: r) hd, if_pos rfl, dr_lk d1, if_pos rfl, show i + 2 = i + 1 + 1 from rfl, dr_lk d2, if_pos rfl, show i + 3 = i + 1 + 1 + 1 from rfl, k1, if_neg (by show ¬ i + 1 + 1 + 1 + 1 = i + 1 + 1 + 1; omega)]
    have d4 : l.drop (i + 1 + 1 + 1 + [h].length) = [59] ++ r := dr_nx (x := [h]) (r := 59 :: r) d3
    rw [dr_wd d4]
    rfl
  · obtain ⟨-, -, d1⟩ := dr_c (r := (nm ++ [59]) ++ r) hd
    obtain ⟨c', y, rfl, y1, y2⟩ := lgn_cons h1
    have d1' : l.drop (i + 1) = (c' :: y) ++ (59 :: r) := by rw [d1, List.append_assoc]; rfl
    unfold rfp
    dsimp only
    rw [dr_lk (r := ((c' :: y) ++ [59]) ++ r) hd, if_pos rfl, dr_lk (r := y ++ (59 :: r)) d1', if_neg (h2 c' List.mem_cons_self), dr_nmg d1' h1 (hdn_cons (by decide))]
    have d2 : l.drop (i + 1 + (c' :: y).length) = [59] ++ r := dr_nx d1'
    rw [dr_wd d2]
    congr 1
    simp only [List.length_cons, List.length_append, List.length_nil]
    omega
theorem RFX.rk (hx : RFX x c) : rfK (x ++ r) x.length = c ∧ 0 ≤ c := by
  rcases hx with ⟨h, rfl, h1, h2, h3⟩ | ⟨nm, rfl, h1, h2, h3, h4⟩
  · have e1 : gd ([38, 35, 120, h, 59] ++ r) 1 = 35 := rfl
    have e2 : gd ([38, 35, 120, h, 59] ++ r) 2 = 120 := rfl
    have e3 : rfN ([38, 35, 120, h, 59] ++ r) [38, 35, 120, h, 59].length = c := by
      unfold rfN
      rw [if_pos e2]
      exact h2
    unfold rfK
    rw [if_pos e1, e3, if_pos h3]
    exact ⟨rfl, by have := isCh_pos h3; omega⟩
  · obtain ⟨c', y, rfl, y1, y2⟩ := lgn_cons h1
    have e1 : gd ((38 :: ((c' :: y) ++ [59])) ++ r) 1 = c' := rfl
    have e2 : sl (gd ((38 :: ((c' :: y) ++ [59])) ++ r)) 1 ((38 :: ((c' :: y) ++ [59])).length - 2) = c' :: y := by
      have := dr_sl (l := (38 :: ((c' :: y) ++ [59])) ++ r) (i := 1) (x := c' :: y) (r := [59] ++ r) (by
        show ((c' :: y) ++ [59]) ++ r = _
        rw [List.append_assoc])
      have k1 : (38 :: ((c' :: y) ++ [59])).length - 2 = (c' :: y).length := by
        simp only [List.length_cons, List.length_append, List.length_nil]
        omega
      rw [k1]
      exact this
    unfold rfK
    rw [e1, if_neg (h2 c' List.mem_cons_self), e2, h3]
    exact ⟨rfl, h4⟩
/-- a letter, as it is written: as it is, or by a reference -/
theorem escL_or : (escL v c = [c] ∧ c ≠ 38 ∧ c ≠ 60 ∧ c ≠ 13 ∧ (v = true → c ≠ 34 ∧ c ≠ 9 ∧ c ≠ 10) ∧ (v = false → c ≠ 62)) ∨ RFX (escL v c) c := by
  unfold escL
  by_cases c1 : c = 38
  · rw [if_pos c1, ti_1090, c1]; exact Or.inr (Or.inr ⟨[97, 109, 112], rfl, by constructor <;> decide, by decide, by decide, by decide⟩)
  rw [if_neg c1]
  by_cases c2 : c = 60
  · rw [if_pos c2, ti_1091, c2]; exact Or.inr (Or.inr ⟨[108, 116], rfl, by constructor <;> decide, by decide, by decide, by decide⟩)
  rw [if_neg c2]
  by_cases c3 : c = 13
  · rw [if_pos c3, ti_1088, c3]; exact Or.inr (Or.inl ⟨68, rfl, by decide, by decide, by decide⟩)
  rw [if_neg c3]
  by_cases c4 : c = 62 ∧ v = false
  · rw [if_pos c4, ti_1092, c4.1]; exact Or.inr (Or.inr ⟨[103, 116], rfl, by constructor <;> decide, by decide, by decide, by decide⟩)
  rw [if_neg c4]
  by_cases c5 : c = 34 ∧ v = true
  · rw [if_pos c5, ti_1093, c5.1]; exact Or.inr (Or.inr ⟨[113, 117, 111, 116], rfl, by constructor <;> decide, by decide, by decide, by decide⟩)
  rw [if_neg c5]
  by_cases c6 : c = 9 ∧ v = true
  · rw [if_pos c6, ti_1094, c6.1]; exact Or.inr (Or.inl ⟨57, rfl, by decide, by decide, by decide⟩)
  rw [if_neg c6]
  by_cases c7 : c = 10 ∧ v = true
  · rw [if_pos c7, ti_1095, c7.1]; exact Or.inr (Or.inl ⟨65, rfl, by decide, by decide, by decide⟩)
  rw [if_neg c7]
  exact Or.inl ⟨rfl, c1, c2, c3, fun z => ⟨fun y => c5 ⟨y, z⟩, fun y => c6 ⟨y, z⟩, fun y => c7 ⟨y, z⟩⟩, fun z y => c4 ⟨y, z⟩⟩
theorem RFX.hd (hx : RFX x c) : ∃ y, x = 38 :: y := by
  rcases hx with ⟨h, rfl, -⟩ | ⟨nm, rfl, -⟩
  · exact ⟨_, rfl⟩
  · exact ⟨_, rfl⟩
theorem RFX.len (hx : RFX x c) : 2 ≤ x.length := by
  rcases hx with ⟨h, rfl, -⟩ | ⟨nm, rfl, -⟩
  · show 2 ≤ 5; omega
  · simp only [List.length_cons, List.length_append, List.length_nil]; omega
/-- the letters of a reference are characters -/
theorem hexd_ch {h : Int} (hh : hexd h = true) : isCh h = true ∧ h ≠ 13 := by
  unfold hexd at hh
  simp only [isDg, lowr, inI, Bool.or_eq_true, Bool.and_eq_true, decide_eq_true_eq] at hh
  unfold isCh
  simp only [inI, Bool.or_eq_true, beq_iff_eq, Bool.and_eq_true, decide_eq_true_eq]
  split at hh <;> omega
theorem RFX.ch (hx : RFX x c) : ∀ d ∈ x, isCh d = true ∧ d ≠ 13 := by
  rcases hx with ⟨h, rfl, h1, -⟩ | ⟨nm, rfl, h1, -⟩
  · intro d hd
    simp only [List.mem_cons, List.not_mem_nil, or_false] at hd
    rcases hd with rfl | rfl | rfl | rfl | rfl
    · decide
    · decide
    · decide
    · exact hexd_ch h1
    · decide
  · intro d hd
    rcases List.mem_cons.mp hd with rfl | z
    · decide
    · rcases List.mem_append.mp z with y | y
      · have := isNm_nE (h1.2 d y)
        exact ⟨this.2.2.2.2, this.2.2.1⟩
      · rw [List.mem_singleton.mp y]; decide
theorem escL_ch (hc : isCh c = true) : ∀ d ∈ escL v c, isCh d = true ∧ d ≠ 13 := by
  rcases escL_or (v := v) (c := c) with ⟨h1, -, -, h4, -⟩ | h
  · rw [h1]
    intro d hd
    rw [List.mem_singleton.mp hd]
    exact ⟨hc, h4⟩
  · exact h.ch
/-- a value that is written is read back -/
theorem vlg_esc : ∀ (s : Str) (n i : Nat), l.drop i = s.flatMap (escL true) ++ 34 :: r → s.length < n → vlg (gd l) l.length 34 n i = some (i + (s.flatMap (escL true)).length + 1)
  | [], n + 1, i, hd, hn => by
    obtain ⟨h1, h2, -⟩ := dr_c (l := l) (i := i) (c := 34) (r := r) hd
    unfold vlg
    rw [if_pos h1, h2, if_pos rfl]
    rfl
  | c :: s, n + 1, i, hd, hn => by
    rw [List.flatMap_cons, List.append_assoc] at hd
    rw [List.flatMap_cons, List.length_append]
    rw [List.length_cons] at hn
    rcases escL_or (v := true) (c := c) with ⟨h1, h2, h3, h4, h5, -⟩ | h
    · rw [h1] at hd ⊢
      obtain ⟨d1, d2, d3⟩ := dr_c (l := l) (i := i) (c := c) (r := s.flatMap (escL true) ++ 34 :: r) hd
      unfold vlg
      rw [if_pos d1, d2, if_neg (h5 rfl).1, if_neg h3, if_neg h2, vlg_esc s n (i + 1) d3 (by omega)]
      congr 1
      show _ = i + (1 + _) + 1
      omega
    · obtain ⟨y, hy⟩ := h.hd
      have hd' := hd
      rw [hy] at hd'
      obtain ⟨d1, d2, -⟩ := dr_c (l := l) (i := i) (c := 38) hd'
      have hr := h.rp hd
      unfold vlg
      rw [if_pos d1, d2, if_neg (by decide), if_neg (by decide), if_pos rfl, hr]
      dsimp only
      rw [vlg_esc s n _ (dr_nx hd) (by omega)]
      congr 1
      omega
theorem vlp_esc {s : Str} (hd : l.drop i = 34 :: (s.flatMap (escL true) ++ 34 :: r)) : vlp (gd l) l.length (some i) = some (i + 1 + (s.flatMap (escL true)).length + 1) := by
  obtain ⟨d1, d2, d3⟩ := dr_c hd
  unfold vlp
  dsimp only
  rw [dr_lk hd, if_pos (by decide), d2]
  refine vlg_esc s _ _ d3 ?_
  have h1 := dr_ln (x := s.flatMap (escL true)) (r := 34 :: r) d3 (by omega)
  have h2 : ∀ (s : Str), s.length ≤ (s.flatMap (escL true)).length := fun s => by
    induction s with
    | nil => exact Nat.le_refl _
    | cons c s ih =>
      rw [List.flatMap_cons, List.length_append, List.length_cons]
      have : 1 ≤ (escL true c).length := by
        rcases escL_or (v := true) (c := c) with ⟨h1, -⟩ | h
        · rw [h1]; exact Nat.le_refl _
        · have := h.len; omega
      omega
  have := h2 s
  rw [List.length_cons] at h1
  omega
/-- and what it means is what it was -/
theorem vrn_esc {rm : Nat} {en : List Ent} {bus : List Nat} {u : Bool} {w : Nat} : ∀ (s : Str) (n c m : Nat) (o : List Int), s.length + 2 ≤ n → vrn rm en bus u n ([(s.flatMap (escL true), w)], c, m, o) = .inr (c, m, o ++ s)
  | [], n + 2, c, m, o, hn => by
    rw [List.append_nil]
    rfl
  | [], 0, c, m, o, hn => by simp at hn
  | [], 1, c, m, o, hn => by simp at hn
  | x :: s, 0, c, m, o, hn => by simp at hn
  | x :: s, n + 1, c, m, o, hn => by
    rw [List.length_cons] at hn
    have ih := fun o' => vrn_esc (rm := rm) (en := en) (bus := bus) (u := u) (w := w) s n c m o' (by omega)
    rw [List.flatMap_cons]
    rcases escL_or (v := true) (c := x) with ⟨h1, h2, h3, h4, h5, -⟩ | h
    · rw [h1]
      unfold vrn
      dsimp only [List.singleton_append]
      unfold vst
      dsimp only
      rw [if_neg h3, if_pos h2]
      dsimp only
      rw [ih]
      have h6 : (if isSp x = true then (32 : Int) else x) = x := by
        by_cases h7 : isSp x = true
        · rw [if_pos h7]
          unfold isSp at h7
          simp only [Bool.or_eq_true, beq_iff_eq] at h7
          rcases h7 with z | z | z | z
          · exact z.symm
          · exact absurd z (h5 rfl).2.1
          · exact absurd z h4
          · exact absurd z (h5 rfl).2.2
        · rw [if_neg h7]
      rw [h6, List.append_assoc]
      rfl
    · obtain ⟨y, hy⟩ := h.hd
      have hr := h.rp (l := escL true x ++ s.flatMap (escL true)) (i := 0) (r := s.flatMap (escL true)) rfl
      obtain ⟨hk, hk0⟩ := h.rk (r := s.flatMap (escL true))
      have hdr : (escL true x ++ s.flatMap (escL true)).drop (0 + (escL true x).length) = s.flatMap (escL true) := by rw [Nat.zero_add, List.drop_left]
      have hln : (38 :: (y ++ s.flatMap (escL true))).length = (y ++ s.flatMap (escL true)).length + 1 := rfl
      rw [hy, List.cons_append] at hr hk hdr
      rw [hln] at hr
      rw [hy, List.cons_append]
      unfold vrn
      dsimp only
      unfold vst
      dsimp only
      rw [if_neg (show ¬ (38 : Int) = 60 by decide), if_neg (show ¬ (38 : Int) ≠ 38 by decide), hr]
      dsimp only
      rw [Nat.zero_add] at hdr ⊢
      rw [hk, if_pos hk0]
      dsimp only
      rw [hdr, ih, List.append_assoc]
      rfl
end Rt2
