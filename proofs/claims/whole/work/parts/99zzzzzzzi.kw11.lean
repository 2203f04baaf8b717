/-! ===== room (11): the room for strings, item by item (pure) ===== -/
section KwB
variable {rm nd : Nat} {a a' : AS} {X X' : TT} {bk M V U : List Str}
/-- whether an item is a tag -/
def isTg (a : AS) : Prop := cur a ≠ [] ∧ ((aN a 4 = 2 ∧ dCon a = 7) ∨ (aN a 4 ≠ 1 ∧ aN a 4 ≠ 2 ∧ dOut a = 4))
/-- whether it is a list of attributes -/
def isAl (a : AS) : Prop := cur a ≠ [] ∧ aN a 4 = 1 ∧ dSub a = 6
theorem tg_N (h : isTg a) : tkN a = nmTs a ∧ stN rm a = nmT rm a ∧ tkP a = [] ∧ tkG a = tgn a ∧ itK a = tgk (gd (cur a)) (cur a).length 0 ∧ stp rm nd a = iTag rm nd a := by
  obtain ⟨hc, h | h⟩ := h
  · obtain ⟨h1, h2⟩ := h
    have n1 : ¬ aN a 4 = 1 := by omega
    unfold tkN stN tkP tkG itK stp
    rw [if_neg hc, if_neg hc, if_neg hc, if_neg hc, if_neg hc, if_neg hc, if_neg n1, if_neg n1, if_neg n1, if_neg n1, if_neg n1, if_neg n1, if_pos h1, if_pos h1, if_pos h1, if_pos h1, if_pos h1, iCon_d, h2]
    exact ⟨rfl, rfl, rfl, rfl, rfl, rfl⟩
  · obtain ⟨n1, n2, h2⟩ := h
    unfold tkN stN tkP tkG itK stp
    rw [if_neg hc, if_neg hc, if_neg hc, if_neg hc, if_neg hc, if_neg hc, if_neg n1, if_neg n1, if_neg n1, if_neg n1, if_neg n1, if_neg n1, if_neg n2, if_neg n2, if_neg n2, if_neg n2, if_neg n2, iOut_d, h2]
    exact ⟨rfl, rfl, rfl, rfl, rfl, rfl⟩
theorem al_N (h : isAl a) : tkN a = nmAs a ∧ stN rm a = nmAl a ∧ tkP a = prA a ∧ itK a = alk (gd (cur a)) (cur a).length 0 ∧ stp rm nd a = iAtl rm a ∧ 9 ≤ (cur a).length := by
  obtain ⟨hc, h1, h2⟩ := h
  have h9 : 9 ≤ (cur a).length := by
    rcases dSub_c (a := a) with ⟨y, -⟩ | ⟨y, -⟩ | ⟨y, -⟩ | y | ⟨y, -⟩ | ⟨y, -⟩ | ⟨y, z⟩ | ⟨y, -⟩ | ⟨y, -⟩ | y <;> try omega
    have := mt_at (by decide) (Nat.zero_le _) z
    have e9 : [60, 33, 65, 84, 84, 76, 73, 83, 84].length = 9 := rfl
    omega
  unfold tkN stN tkP itK stp
  rw [if_neg hc, if_neg hc, if_neg hc, if_neg hc, if_neg hc, if_pos h1, if_pos h1, if_pos h1, if_pos h1, if_pos h1, iSub_d, h2]
  exact ⟨rfl, rfl, rfl, rfl, rfl, h9⟩
/-- of all other items: the strings that they keep are their names -/
theorem pl_N (h1 : ¬ isTg a) (h2 : ¬ isAl a) : ∀ s ∈ stN rm a, s ∈ tkN a := by
  intro s hs
  by_cases hc : cur a = []
  · unfold stN at hs; rw [if_pos hc] at hs; cases hs
  · unfold stN at hs
    unfold tkN
    rw [if_neg hc] at hs ⊢
    by_cases p1 : aN a 4 = 1
    · rw [if_pos p1] at hs ⊢
      rcases dSub_c (a := a) with ⟨d, h⟩ | ⟨d, h⟩ | ⟨d, h⟩ | d | ⟨d, h⟩ | ⟨d, h⟩ | ⟨d, h⟩ | ⟨d, h⟩ | ⟨d, h⟩ | d <;> rw [d] at hs ⊢
      · exact hs
      · exact hs
      · exact hs
      · exact hs
      · exact hs
      · exact hs
      · exact absurd ⟨hc, p1, d⟩ h2
      · have h8 : 8 ≤ (cur a).length := by
          have := mt_at (by decide) (Nat.zero_le _) h
          have e8 : [60, 33, 69, 78, 84, 73, 84, 89].length = 8 := rfl
          omega
        exact nmE_s h8 s hs
      · exact hs
      · exact hs
    · rw [if_neg p1] at hs ⊢
      by_cases p2 : aN a 4 = 2
      · rw [if_pos p2] at hs ⊢
        rcases dCon_c (a := a) with ⟨d, h⟩ | ⟨d, n38, n60⟩ | ⟨d, h⟩ | d | ⟨d, h⟩ | ⟨d, h⟩ | d | ⟨d, h⟩ <;> rw [d] at hs ⊢
        · exact hs
        · exact hs
        · exact hs
        · exact hs
        · exact hs
        · exact hs
        · exact hs
        · exact absurd ⟨hc, Or.inl ⟨p2, d⟩⟩ h1
      · rw [if_neg p2] at hs ⊢
        rcases dOut_c (a := a) with ⟨d, h⟩ | d | ⟨d, h⟩ | d | ⟨d, h⟩ | ⟨d, h, -⟩ <;> rw [d] at hs ⊢
        · exact hs
        · exact hs
        · exact hs
        · exact hs
        · exact absurd ⟨hc, Or.inr ⟨p1, p2, d⟩⟩ h1
        · exact hs
/-- a list of attributes -/
theorem nmAl_s (h9 : 9 ≤ (cur a).length) : (∀ s ∈ nmAl a, s ∈ nmAs a) := by
  unfold nmAl nmAs
  generalize gd (cur a) = T
  generalize (cur a).length = e at h9
  cases hk : alk T e 0 with
  | none => cases spc T e (some 9) <;> (intro s hs; rw [List.append_nil] at hs; exact hs)
  | some k =>
    obtain ⟨s, n, κ, h1, h2, h3, h4, h5, h6, h7, h8⟩ := alk_at h9 hk
    rw [h1]
    dsimp only
    rw [h2]
    dsimp only
    intro x hx
    rcases List.mem_append.mp hx with hx | hx
    · have := (adXn_W (e + 1) n κ (by omega) h3).2.2.2.2.1 x hx
      exact List.mem_cons_of_mem _ this
    · exact hx
/-- a tag: names that are not declared, with what is split from them -/
noncomputable def auN (ad : List ADc) (el : Str) (l : List Str) : List Str := l.flatMap (fun s => if adf ad el s = none then s :: plk s else [])
theorem auN_W {ad : List ADc} {el : Str} {l : List Str} (h : ∀ s ∈ l, s ≠ []) : 2 * (auN ad el l).length ≤ Wn l + 3 * l.length := by
  induction l with
  | nil => exact Nat.le_refl _
  | cons s l ih =>
    have h1 := ih (fun x hx => h x (List.mem_cons_of_mem _ hx))
    have e1 : auN ad el (s :: l) = (if adf ad el s = none then s :: plk s else []) ++ auN ad el l := rfl
    have hs : 0 < s.length := List.length_pos_iff.mpr (h s List.mem_cons_self)
    rw [e1, List.length_append, Wn_cons, List.length_cons]
    have p1 := plk_two (s := s)
    split
    · rw [List.length_cons]
      by_cases c : plk s = []
      · rw [c, List.length_nil]; omega
      · have := okq_3 (p1.2 c)
        omega
    · rw [List.length_nil]; omega
/-- the room that there is for the strings of an item -/
theorem GR.cap (hG : GI rm nd a) (h : GR a bk X M V U) (hX : tle X X') (hk : tle (tk a) X') (hw : tw1 X' ≤ 65536) (hrm : rm ≤ 98304) (hn : bk.Nodup) : kcL bk (stN rm a) := by
  obtain ⟨⟨m1, m2⟩, b1', ⟨v1, v2⟩, hA, hL, hB⟩ := h
  have hN0 : aN a 0 ≤ 98304 := by have := hG.1.2.2.1; omega
  have hMl : ltS (LLm X'.1) ≤ 170000 := by
    have h1 := LLm_lt (M := X'.1)
    have h2 := ltS_W (l := X'.1)
    have : tw1 X' = Wn X'.1 := rfl
    omega
  have hbM : ∀ s ∈ bk, s ∈ LLm X'.1 := fun s hs => LLm_sub (fun x hx => hX.1 x (m2 x hx)) (b1' s hs).1
  have hrl : (cur a).length ≤ rem a := by
    unfold rem cur
    split
    · exact Nat.zero_le _
    · rename_i f t hf
      rw [hf, List.map_cons, List.sum_cons]; omega
  by_cases hc : cur a = []
  · have : stN rm a = [] := by unfold stN; rw [if_pos hc]
    rw [this]; trivial
  obtain ⟨w1, w2, w3⟩ := itm_W hc
  have hWn : Wn (tkN a) ≤ (cur a).length := by
    cases hK : itK a with
    | none => exact (w2 hK).1
    | some k => have := w1 k hK; omega
  by_cases ht : isTg a
  · obtain ⟨t1, t2, t3, t4, t5, -⟩ := tg_N (rm := rm) (nd := nd) ht
    rw [t2]
    rw [t1] at hWn
    have hk1 : ∀ s ∈ nmTs a, s ∈ X'.1 := fun s hs => hk.1 s (by show s ∈ tkN a; rw [t1]; exact hs)
    unfold nmT nmTs at *
    generalize hT : gd (cur a) = T at *
    generalize he : (cur a).length = e at *
    cases hkk : tgk T e 0 with
    | none => exact trivial
    | some kk =>
      obtain ⟨n, κ, y1, y2, y3, y4, y5, y6⟩ := tgk_at hkk
      rw [hkk, y1] at hk1 hWn
      rw [y1]
      dsimp only at hk1 hWn ⊢
      obtain ⟨z1, z2, z3⟩ := atL_W (e + 1) n κ (by omega) y2
      generalize hel : sl T 1 (n - 1) = el at *
      generalize hal : atL T e (e + 1) n = al' at *
      have z4 := auN_W (ad := aA a) (el := el) z2
      have z5 : (atN T al').length = al'.length := by unfold atN; rw [List.length_map]
      have hln : el.length = n - 1 := by rw [← hel, sl_ln]
      have hinU : ∀ s ∈ gnl (atN T al'), s ∈ U ++ (el :: auN (aA a) el (atN T al')) := by
        intro s hs
        unfold gnl at hs
        obtain ⟨x, hx1, hx2⟩ := List.mem_flatMap.mp hs
        cases hd : adf (aA a) el x with
        | none =>
          refine List.mem_append_right _ (List.mem_cons_of_mem _ (List.mem_flatMap.mpr ⟨x, hx1, ?_⟩))
          rw [hd, if_pos rfl]
          exact hx2
        | some d =>
          obtain ⟨q1, q2, q3⟩ := adf_in hd
          have := (hA _ q1).1
          rw [q3] at this
          refine List.mem_append_left _ ?_
          rcases List.mem_cons.mp hx2 with r | r
          · rw [r]; exact this.1.2
          · exact this.2.1 s r
      have hinM : ∀ s ∈ gnl (atN T al'), s ∈ LLm X'.1 := by
        intro s hs
        unfold gnl at hs
        obtain ⟨x, hx1, hx2⟩ := List.mem_flatMap.mp hs
        exact List.mem_flatMap.mpr ⟨x, hk1 x (List.mem_cons_of_mem _ hx1), hx2⟩
      have hdf : ∀ s, (∃ x ∈ aA a, s ∈ plk x.2.1) → s ∈ U ∧ s ∈ LLm X'.1 := by
        rintro s ⟨x, q1, q2⟩
        have := (hA x q1).1
        exact ⟨this.2.1 s q2, LLm_plk (hX.1 _ (m2 _ this.1.1)) q2⟩
      have hdf2 : ∀ (gv : List Att) s, s ∈ (dfl (aA a) el gv).flatMap (fun z => plk z.1) → ∃ x ∈ aA a, s ∈ plk x.2.1 := by
        intro gv s hs
        obtain ⟨x, q1, q2⟩ := List.mem_flatMap.mp hs
        obtain ⟨y, r1, r2⟩ := List.mem_map.mp (dfl_nms q1)
        exact ⟨y, r1, by rw [r2]; exact q2⟩
      refine kcL_of (U := U ++ (el :: auN (aA a) el (atN T al'))) (M := LLm X'.1) hn (fun s hs => List.mem_append_left _ (b1' s hs).2) (fun s hs => ?_) ?_ hbM (fun s hs => ?_) hMl
      · rcases List.mem_cons.mp hs with r | r
        · rw [r]; exact List.mem_append_right _ List.mem_cons_self
        · rcases List.mem_append.mp r with r | r
          · exact hinU s r
          · refine List.mem_append_left _ (hdf s ?_).1
            cases hg : gvs rm a T el al' (aN a 0) (aN a 1) [] with
            | inl f => rw [hg] at r; cases r
            | inr q => rw [hg] at r; exact hdf2 _ s r
      · rw [List.length_append, List.length_cons]
        omega
      · rcases List.mem_cons.mp hs with r | r
        · rw [r]; exact LLm_mem (hk1 el List.mem_cons_self)
        · rcases List.mem_append.mp r with r | r
          · exact hinM s r
          · refine (hdf s ?_).2
            cases hg : gvs rm a T el al' (aN a 0) (aN a 1) [] with
            | inl f => rw [hg] at r; cases r
            | inr q => rw [hg] at r; exact hdf2 _ s r
  · have hst : ∀ s ∈ stN rm a, s ∈ tkN a := by
      by_cases h2 : isAl a
      · obtain ⟨t1, t2, t3, t4, t5, t6⟩ := al_N (rm := rm) (nd := nd) h2
        rw [t1, t2]
        exact nmAl_s t6
      · exact pl_N ht h2
    have h2 := Wn_2 w3
    refine kcL_of (U := U ++ tkN a) (M := LLm X'.1) hn (fun s hs => List.mem_append_left _ (b1' s hs).2) (fun s hs => List.mem_append_right _ (hst s hs)) ?_ hbM (fun s hs => LLm_mem (hk.1 s (hst s hs))) hMl
    rw [List.length_append]
    omega
end KwB
