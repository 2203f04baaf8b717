/-! ===== the reference: which item, in an element ===== -/
section Kdp1
variable {L : Nat → Nat} {rm nd o : Nat} {σ : IS} {g : KG} {a : AS} {Q : IS → Prop} {T : Nat → Int} {e : Nat}
theorem mt_c2 {x y : Int} {l : List Int} (h : mt T e 0 (x :: y :: l) = true) : lk T e 0 = x ∧ lk T e 1 = y := by
  have h' : ((lk T e 0 == x) && ((lk T e 1 == y) && mt T e 2 l)) = true := h
  rw [Bool.and_eq_true, Bool.and_eq_true, beq_iff_eq, beq_iff_eq] at h'
  exact ⟨h'.1, h'.2.1⟩
theorem mt_c3 {x y z : Int} {l : List Int} (h : mt T e 0 (x :: y :: z :: l) = true) : lk T e 2 = z := by
  have h' : ((lk T e 0 == x) && ((lk T e 1 == y) && ((lk T e 2 == z) && mt T e 3 l))) = true := h
  rw [Bool.and_eq_true, Bool.and_eq_true, Bool.and_eq_true, beq_iff_eq, beq_iff_eq, beq_iff_eq] at h'
  exact h'.2.2.1
/-- which item -/
def dCon (a : AS) : Nat := if gd (cur a) 0 = 38 then 0
      else if gd (cur a) 0 ≠ 60 then 1
      else if mt (gd (cur a)) (cur a).length 0 [60, 47] = true then 2
      else if mt (gd (cur a)) (cur a).length 0 [60, 33, 45, 45] = true then 3
      else if mt (gd (cur a)) (cur a).length 0 [60, 63] = true then 4
      else if mt (gd (cur a)) (cur a).length 0 [60, 33, 91, 67, 68, 65, 84, 65, 91] = true then 5
      else if mt (gd (cur a)) (cur a).length 0 [60, 33, 68, 79, 67, 84, 89, 80, 69] = true then 6
      else 7
theorem qD_con (hL : KLn L o rm nd) (h : RK rm nd o σ g a) (hne : cur a ≠ [])
    (hcmt : dCon a = 3 → mt (gd (cur a)) (cur a).length 0 [60, 33, 45, 45] = true → w_KReader_comment L Q σ)
    (hsec : dCon a = 5 → mt (gd (cur a)) (cur a).length 0 [60, 33, 91, 67, 68, 65, 84, 65, 91] = true → w_KReader_section L Q σ)
    (hf6 : dCon a = 6 → Q (pf σ 16 3 6))
    (hend : dCon a = 2 → mt (gd (cur a)) (cur a).length 0 [60, 47] = true → w_KReader_endTag L Q σ)
    (hpin : dCon a = 4 → mt (gd (cur a)) (cur a).length 0 [60, 63] = true → w_KReader_instruction L 1 Q σ)
    (htag : dCon a = 7 → gd (cur a) 0 = 60 → w_KReader_tag L Q σ)
    (href : dCon a = 0 → gd (cur a) 0 = 38 → w_KReader_contentReference L Q σ)
    (hrun : dCon a = 1 → gd (cur a) 0 ≠ 60 → gd (cur a) 0 ≠ 38 → w_KReader_run L Q σ) : w_KReader_contentItem L Q σ := by
  obtain ⟨p, q, t, hF', h1, h2, hK, hc, hS, hp⟩ := h.at_ hL
  have hl0 : 0 < (cur a).length := List.length_pos_iff.mpr hne
  have hlk : lk (gd (cur a)) (cur a).length 0 = gd (cur a) 0 := lk_b hl0
  have hic : dCon a = if gd (cur a) 0 = 38 then 0
      else if gd (cur a) 0 ≠ 60 then 1
      else if mt (gd (cur a)) (cur a).length 0 [60, 47] = true then 2
      else if mt (gd (cur a)) (cur a).length 0 [60, 33, 45, 45] = true then 3
      else if mt (gd (cur a)) (cur a).length 0 [60, 63] = true then 4
      else if mt (gd (cur a)) (cur a).length 0 [60, 33, 91, 67, 68, 65, 84, 65, 91] = true then 5
      else if mt (gd (cur a)) (cur a).length 0 [60, 33, 68, 79, 67, 84, 89, 80, 69] = true then 6
      else 7 := rfl
  rw [hlk.symm] at hic htag href hrun
  unfold w_KReader_contentItem
  rw [h1]
  have e0 : ((p : Nat) : Int) = ((p + 0 : Nat) : Int) := rfl
  rw [e0]
  refine kr_says hK hS 0 rfl (by omega) (ti_1103) ?_
  refine WJ_dir ?_
  cases c1 : mt (gd (cur a)) (cur a).length 0 [60, 33, 45, 45] with
  | true =>
    obtain ⟨m0, m1⟩ := mt_c2 c1
    rw [if_neg (by decide)]
    refine hcmt ?_ c1
    rw [hic, if_neg (by omega), if_neg (fun z => z m0), if_neg (fun z => by have := (mt_c2 z).2; omega), if_pos c1]
  | false =>
    rw [if_pos (by decide), h1, e0]
    refine kr_says hK hS 0 rfl (by omega) (ti_1105) ?_
    cases c2 : mt (gd (cur a)) (cur a).length 0 [60, 33, 91, 67, 68, 65, 84, 65, 91] with
    | true =>
      obtain ⟨m0, m1⟩ := mt_c2 c2
      rw [if_neg (by decide)]
      refine hsec ?_ c2
      rw [hic, if_neg (by omega), if_neg (fun z => z m0), if_neg (fun z => by have := (mt_c2 z).2; omega), if_neg (by rw [c1]; decide), if_neg (fun z => by have := (mt_c2 z).2; omega), if_pos c2]
    | false =>
      rw [if_pos (by decide), h1, e0]
      refine kr_says hK hS 0 rfl (by omega) (ti_1104) ?_
      cases c3 : mt (gd (cur a)) (cur a).length 0 [60, 33, 68, 79, 67, 84, 89, 80, 69] with
      | true =>
        obtain ⟨m0, m1⟩ := mt_c2 c3
        rw [if_neg (by decide)]
        refine sp_K_fail h.f3 (hf6 ?_)
        rw [hic, if_neg (by omega), if_neg (fun z => z m0), if_neg (fun z => by have := (mt_c2 z).2; omega), if_neg (by rw [c1]; decide), if_neg (fun z => by have := (mt_c2 z).2; omega), if_neg (by rw [c2]; decide), if_pos c3]
      | false =>
        rw [if_pos (by decide), h1, e0]
        refine kr_says hK hS 0 rfl (by omega) (ti_1106) ?_
        cases c4 : mt (gd (cur a)) (cur a).length 0 [60, 47] with
        | true =>
          obtain ⟨m0, m1⟩ := mt_c2 c4
          rw [if_neg (by decide)]
          refine hend ?_ c4
          rw [hic, if_neg (by omega), if_neg (fun z => z m0), if_pos c4]
        | false =>
          rw [if_pos (by decide), h1, e0]
          refine kr_says hK hS 0 rfl (by omega) (ti_1107) ?_
          cases c5 : mt (gd (cur a)) (cur a).length 0 [60, 63] with
          | true =>
            obtain ⟨m0, m1⟩ := mt_c2 c5
            rw [if_neg (by decide)]
            refine hpin ?_ c5
            rw [hic, if_neg (by omega), if_neg (fun z => z m0), if_neg (by rw [c4]; decide), if_neg (by rw [c1]; decide), if_pos c5]
          | false =>
            rw [if_pos (by decide), h1, e0]
            refine kr_look hK hS 0 rfl ?_
            by_cases c6 : lk (gd (cur a)) (cur a).length 0 = 60
            · rw [if_pos c6]
              refine htag ?_ c6
              rw [hic, if_neg (by omega), if_neg (fun z => z c6), if_neg (by rw [c4]; decide), if_neg (by rw [c1]; decide), if_neg (by rw [c5]; decide), if_neg (by rw [c2]; decide), if_neg (by rw [c3]; decide)]
            · rw [if_neg c6, h1, e0]
              refine kr_look hK hS 0 rfl ?_
              by_cases c7 : lk (gd (cur a)) (cur a).length 0 = 38
              · rw [if_pos c7]
                exact href (by rw [hic, if_pos c7]) c7
              · rw [if_neg c7]
                exact hrun (by rw [hic, if_neg c7, if_pos c6]) c6 c7
end Kdp1
