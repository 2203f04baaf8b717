/-! ===== the reference: which item, before an element and behind it, and among declarations ===== -/
section Kdp2
variable {L : Nat → Nat} {rm nd o : Nat} {σ : IS} {g : KG} {a : AS} {Q : IS → Prop} {T : Nat → Int} {e : Nat}
theorem mt_c1 {x : Int} {l : List Int} (h : mt T e 0 (x :: l) = true) : lk T e 0 = x := by
  have h' : ((lk T e 0 == x) && mt T e 1 l) = true := h
  rw [Bool.and_eq_true, beq_iff_eq] at h'
  exact h'.1
theorem isSp_of {c : Int} (h : isSp c = true) : c = 32 ∨ c = 9 ∨ c = 13 ∨ c = 10 := by
  unfold isSp at h; simp only [Bool.or_eq_true, decide_eq_true_eq, beq_iff_eq] at h; omega
/-- which item -/
def dSub (a : AS) : Nat := if isSp (gd (cur a) 0) = true then 0
      else if gd (cur a) 0 = 37 then 1
      else if gd (cur a) 0 = 93 ∧ (aF a).length = 1 then 2
      else if mt (gd (cur a)) (cur a).length 0 [60, 33, 45, 45] = true then 3
      else if mt (gd (cur a)) (cur a).length 0 [60, 63] = true then 4
      else if mt (gd (cur a)) (cur a).length 0 [60, 33, 69, 76, 69, 77, 69, 78, 84] = true then 5
      else if mt (gd (cur a)) (cur a).length 0 [60, 33, 65, 84, 84, 76, 73, 83, 84] = true then 6
      else if mt (gd (cur a)) (cur a).length 0 [60, 33, 69, 78, 84, 73, 84, 89] = true then 7
      else if mt (gd (cur a)) (cur a).length 0 [60, 33, 78, 79, 84, 65, 84, 73, 79, 78] = true then 8
      else 9
def dOut (a : AS) : Nat := if isSp (gd (cur a) 0) = true then 0
      else if mt (gd (cur a)) (cur a).length 0 [60, 33, 45, 45] = true then 1
      else if mt (gd (cur a)) (cur a).length 0 [60, 63] = true then 2
      else if aN a 4 = 3 ∨ gd (cur a) 0 ≠ 60 ∨ mt (gd (cur a)) (cur a).length 0 [60, 47] = true ∨ mt (gd (cur a)) (cur a).length 0 [60, 33, 91, 67, 68, 65, 84, 65, 91] = true then 3
      else if mt (gd (cur a)) (cur a).length 0 [60, 33, 68, 79, 67, 84, 89, 80, 69] = false then 4
      else if (aR a).isSome = true then 3 else 5
theorem qD_sub (hL : KLn L o rm nd) (h : RK rm nd o σ g a) (hC : KC rm g a) (hO : aO a = []) (hne : cur a ≠ [])
    (hspc : dSub a = 0 → isSp (gd (cur a) 0) = true → KO rm nd o σ g Q (iSpc a) [] (fun _ => 0))
    (hcmt : dSub a = 3 → mt (gd (cur a)) (cur a).length 0 [60, 33, 45, 45] = true → w_KReader_comment L Q σ)
    (hpin : dSub a = 4 → mt (gd (cur a)) (cur a).length 0 [60, 63] = true → w_KReader_instruction L 0 Q σ)
    (hprf : dSub a = 1 → gd (cur a) 0 = 37 → w_KReader_parameterReference L Q σ)
    (held : dSub a = 5 → mt (gd (cur a)) (cur a).length 0 [60, 33, 69, 76, 69, 77, 69, 78, 84] = true → w_KReader_element L Q σ)
    (hatl : dSub a = 6 → mt (gd (cur a)) (cur a).length 0 [60, 33, 65, 84, 84, 76, 73, 83, 84] = true → w_KReader_attributes L Q σ)
    (hent : dSub a = 7 → mt (gd (cur a)) (cur a).length 0 [60, 33, 69, 78, 84, 73, 84, 89] = true → w_KReader_entity L Q σ)
    (hnot : dSub a = 8 → mt (gd (cur a)) (cur a).length 0 [60, 33, 78, 79, 84, 65, 84, 73, 79, 78] = true → w_KReader_notation L Q σ)
    (hsbe : dSub a = 2 → KO rm nd o σ g Q (iSbe a) [] (fun _ => 0))
    (hf6 : dSub a = 9 → Q (pf σ 16 3 6)) : w_KReader_subsetItem L Q σ := by
  obtain ⟨p, q, t, hF', h1, h2, hK, hc, hS, hp⟩ := h.at_ hL
  have hl0 : 0 < (cur a).length := List.length_pos_iff.mpr hne
  have hlk : lk (gd (cur a)) (cur a).length 0 = gd (cur a) 0 := lk_b hl0
  have hfl : σ.1 16 14 = ((aF a).length : Int) := h.2.1.1
  have hic : dSub a = if isSp (gd (cur a) 0) = true then 0
      else if gd (cur a) 0 = 37 then 1
      else if gd (cur a) 0 = 93 ∧ (aF a).length = 1 then 2
      else if mt (gd (cur a)) (cur a).length 0 [60, 33, 45, 45] = true then 3
      else if mt (gd (cur a)) (cur a).length 0 [60, 63] = true then 4
      else if mt (gd (cur a)) (cur a).length 0 [60, 33, 69, 76, 69, 77, 69, 78, 84] = true then 5
      else if mt (gd (cur a)) (cur a).length 0 [60, 33, 65, 84, 84, 76, 73, 83, 84] = true then 6
      else if mt (gd (cur a)) (cur a).length 0 [60, 33, 69, 78, 84, 73, 84, 89] = true then 7
      else if mt (gd (cur a)) (cur a).length 0 [60, 33, 78, 79, 84, 65, 84, 73, 79, 78] = true then 8
      else 9 := rfl
  rw [hlk.symm] at hic hprf hspc
  unfold w_KReader_subsetItem
  have e0 : ((p : Nat) : Int) = ((p + 0 : Nat) : Int) := rfl
  rw [h1, e0]
  refine kr_look hK hS 0 rfl ?_
  refine sp_K_isSpace ?_
  refine WJ_dir ?_
  cases c0 : isSp (lk (gd (cur a)) (cur a).length 0) with
  | true =>
    rw [if_neg (by decide)]
    refine sp_KReader_anySpaces hK (some p) (by rw [h1]; rfl) (fun z hz => by cases hz; omega) ?_
    refine kI_spc' hL h hC (hspc (by rw [hic, if_pos c0]) c0) ?_
    rw [h2, h1]; rfl
  | false =>
    rw [if_neg (by rw [c0]; decide)] at hic
    rw [if_pos (by decide), h1, e0]
    refine kr_says hK hS 0 rfl (by omega) (ti_1103) ?_
    cases c1 : mt (gd (cur a)) (cur a).length 0 [60, 33, 45, 45] with
    | true =>
      obtain ⟨m0, m1⟩ := mt_c2 c1
      rw [if_neg (by decide)]
      refine hcmt ?_ c1
      rw [hic, if_neg (by omega), if_neg (by omega), if_pos c1]
    | false =>
      rw [if_pos (by decide), h1, e0]
      refine kr_says hK hS 0 rfl (by omega) (ti_1107) ?_
      cases c2 : mt (gd (cur a)) (cur a).length 0 [60, 63] with
      | true =>
        obtain ⟨m0, m1⟩ := mt_c2 c2
        rw [if_neg (by decide)]
        refine hpin ?_ c2
        rw [hic, if_neg (by omega), if_neg (by omega), if_neg (by rw [c1]; decide), if_pos c2]
      | false =>
        rw [if_pos (by decide), h1, e0]
        refine kr_look hK hS 0 rfl ?_
        by_cases c3 : lk (gd (cur a)) (cur a).length 0 = 37
        · rw [if_pos c3]
          exact hprf (by rw [hic, if_pos c3]) c3
        · rw [if_neg c3] at hic ⊢
          have hu : lk (gd (cur a)) (cur a).length 0 ≠ 93 → dSub a = if mt (gd (cur a)) (cur a).length 0 [60, 33, 69, 76, 69, 77, 69, 78, 84] = true then 5
            else if mt (gd (cur a)) (cur a).length 0 [60, 33, 65, 84, 84, 76, 73, 83, 84] = true then 6
            else if mt (gd (cur a)) (cur a).length 0 [60, 33, 69, 78, 84, 73, 84, 89] = true then 7
            else if mt (gd (cur a)) (cur a).length 0 [60, 33, 78, 79, 84, 65, 84, 73, 79, 78] = true then 8
            else 9 := by
            intro h93
            rw [hic, if_neg (by omega), if_neg (by rw [c1]; decide), if_neg (by rw [c2]; decide)]
          rw [h1, e0]
          refine kr_says hK hS 0 rfl (by omega) (ti_1120) ?_
          cases c4 : mt (gd (cur a)) (cur a).length 0 [60, 33, 69, 76, 69, 77, 69, 78, 84] with
          | true =>
            have m0 := mt_c1 c4
            rw [if_neg (by decide)]
            refine held ?_ c4
            rw [hu (by omega), if_pos c4]
          | false =>
            rw [if_pos (by decide), h1, e0]
            refine kr_says hK hS 0 rfl (by omega) (ti_1121) ?_
            cases c5 : mt (gd (cur a)) (cur a).length 0 [60, 33, 65, 84, 84, 76, 73, 83, 84] with
            | true =>
              have m0 := mt_c1 c5
              rw [if_neg (by decide)]
              refine hatl ?_ c5
              rw [hu (by omega), if_neg (by rw [c4]; decide), if_pos c5]
            | false =>
              rw [if_pos (by decide), h1, e0]
              refine kr_says hK hS 0 rfl (by omega) (ti_1122) ?_
              cases c6 : mt (gd (cur a)) (cur a).length 0 [60, 33, 69, 78, 84, 73, 84, 89] with
              | true =>
                have m0 := mt_c1 c6
                rw [if_neg (by decide)]
                refine hent ?_ c6
                rw [hu (by omega), if_neg (by rw [c4]; decide), if_neg (by rw [c5]; decide), if_pos c6]
              | false =>
                rw [if_pos (by decide), h1, e0]
                refine kr_says hK hS 0 rfl (by omega) (ti_1123) ?_
                cases c7 : mt (gd (cur a)) (cur a).length 0 [60, 33, 78, 79, 84, 65, 84, 73, 79, 78] with
                | true =>
                  have m0 := mt_c1 c7
                  rw [if_neg (by decide)]
                  refine hnot ?_ c7
                  rw [hu (by omega), if_neg (by rw [c4]; decide), if_neg (by rw [c5]; decide), if_neg (by rw [c6]; decide), if_pos c7]
                | false =>
                  rw [if_pos (by decide), h1, e0]
                  refine kr_look hK hS 0 rfl ?_
                  by_cases c8 : lk (gd (cur a)) (cur a).length 0 = 93 ∧ σ.1 16 14 = 1
                  · rw [if_pos c8]
                    have hs := qI_sbe hL h hC hl0 hO (hsbe (by rw [hic, if_pos ⟨c8.1, by have := c8.2; omega⟩]))
                    refine ⟨hs.1, ?_⟩
                    exact hs.2
                  · rw [if_neg c8]
                    refine sp_K_fail h.f3 (hf6 ?_)
                    rw [hic, if_neg (by intro z; exact c8 ⟨z.1, by have := z.2; omega⟩), if_neg (by rw [c1]; decide), if_neg (by rw [c2]; decide), if_neg (by rw [c4]; decide), if_neg (by rw [c5]; decide), if_neg (by rw [c6]; decide), if_neg (by rw [c7]; decide)]
theorem qD_out (hL : KLn L o rm nd) (h : RK rm nd o σ g a) (hC : KC rm g a) (hne : cur a ≠ [])
    (hspc : dOut a = 0 → isSp (gd (cur a) 0) = true → KO rm nd o σ g Q (iSpc a) [] (fun _ => 0))
    (hcmt : dOut a = 1 → mt (gd (cur a)) (cur a).length 0 [60, 33, 45, 45] = true → w_KReader_comment L Q σ)
    (hpin : dOut a = 2 → mt (gd (cur a)) (cur a).length 0 [60, 63] = true → w_KReader_instruction L 1 Q σ)
    (hdtd : dOut a = 5 → mt (gd (cur a)) (cur a).length 0 [60, 33, 68, 79, 67, 84, 89, 80, 69] = true → w_KReader_declaration L Q σ)
    (htag : dOut a = 4 → gd (cur a) 0 = 60 → aN a 4 ≠ 3 → w_KReader_tag L Q σ)
    (hf6 : dOut a = 3 → Q (pf σ 16 3 6)) : w_KReader_outerItem L Q σ := by
  obtain ⟨p, q, t, hF', h1, h2, hK, hc, hS, hp⟩ := h.at_ hL
  have hl0 : 0 < (cur a).length := List.length_pos_iff.mpr hne
  have hlk : lk (gd (cur a)) (cur a).length 0 = gd (cur a) 0 := lk_b hl0
  have h19 : σ.1 16 19 = (aN a 4 : Int) := h.2.2.2.1.2.2.2.1
  have h20 : σ.1 16 20 = if (aR a).isSome = true then 1 else 0 := h.2.2.2.2.1.1
  have hic : dOut a = if isSp (gd (cur a) 0) = true then 0
      else if mt (gd (cur a)) (cur a).length 0 [60, 33, 45, 45] = true then 1
      else if mt (gd (cur a)) (cur a).length 0 [60, 63] = true then 2
      else if aN a 4 = 3 ∨ gd (cur a) 0 ≠ 60 ∨ mt (gd (cur a)) (cur a).length 0 [60, 47] = true ∨ mt (gd (cur a)) (cur a).length 0 [60, 33, 91, 67, 68, 65, 84, 65, 91] = true then 3
      else if mt (gd (cur a)) (cur a).length 0 [60, 33, 68, 79, 67, 84, 89, 80, 69] = false then 4
      else if (aR a).isSome = true then 3 else 5 := rfl
  rw [hlk.symm] at hic htag hspc
  unfold w_KReader_outerItem
  have e0 : ((p : Nat) : Int) = ((p + 0 : Nat) : Int) := rfl
  rw [h1, e0]
  refine kr_look hK hS 0 rfl ?_
  refine sp_K_isSpace ?_
  refine WJ_dir ?_
  cases c0 : isSp (lk (gd (cur a)) (cur a).length 0) with
  | true =>
    rw [if_neg (by decide)]
    refine sp_KReader_anySpaces hK (some p) (by rw [h1]; rfl) (fun z hz => by cases hz; omega) ?_
    refine kI_spc' hL h hC (hspc (by rw [hic, if_pos c0]) c0) ?_
    rw [h2, h1]; rfl
  | false =>
    rw [if_neg (by rw [c0]; decide)] at hic
    rw [if_pos (by decide), h1, e0]
    refine kr_says hK hS 0 rfl (by omega) (ti_1103) ?_
    cases c1 : mt (gd (cur a)) (cur a).length 0 [60, 33, 45, 45] with
    | true =>
      rw [if_neg (by decide)]
      refine hcmt ?_ c1
      rw [hic, if_pos c1]
    | false =>
      rw [if_neg (by rw [c1]; decide)] at hic
      rw [if_pos (by decide), h1, e0]
      refine kr_says hK hS 0 rfl (by omega) (ti_1104) ?_
      cases c2 : mt (gd (cur a)) (cur a).length 0 [60, 33, 68, 79, 67, 84, 89, 80, 69] with
      | true =>
        obtain ⟨m0, m1⟩ := mt_c2 c2
        have m2 := mt_c3 c2
        rw [if_neg (by decide)]
        rw [if_neg (fun z => by have := (mt_c2 z).2; omega)] at hic
        have hno : ¬ (aN a 4 = 3) → dOut a = if (aR a).isSome = true then 3 else 5 := by
          intro h3
          rw [hic, if_neg, if_neg (by rw [c2]; decide)]
          intro z
          rcases z with z | z | z | z
          · exact h3 z
          · exact z m0
          · have := (mt_c2 z).2; omega
          · have := mt_c3 z; omega
        by_cases c9 : ¬ σ.1 16 19 = 3 ∧ σ.1 16 20 = 0
        · rw [if_pos c9]
          refine hdtd ?_ c2
          rw [hno (by have := c9.1; omega), if_neg]
          intro z
          rw [h20, if_pos z] at c9
          exact absurd c9.2 (by decide)
        · rw [if_neg c9]
          refine sp_K_fail h.f3 (hf6 ?_)
          by_cases h3 : aN a 4 = 3
          · rw [hic, if_pos (Or.inl h3)]
          · rw [hno h3, if_pos]
            refine Classical.byContradiction fun z => c9 ⟨by omega, ?_⟩
            rw [h20, if_neg z]
      | false =>
        rw [if_pos (by decide), h1, e0]
        refine kr_says hK hS 0 rfl (by omega) (ti_1105) ?_
        refine WJ_dir ?_
        dsimp only
        cases c3 : mt (gd (cur a)) (cur a).length 0 [60, 33, 91, 67, 68, 65, 84, 65, 91] with
        | true =>
          obtain ⟨m0, m1⟩ := mt_c2 c3
          rw [if_neg (by decide)]
          refine sp_K_fail h.f3 (hf6 ?_)
          rw [hic, if_neg (fun z => by have := (mt_c2 z).2; omega), if_pos (Or.inr (Or.inr (Or.inr c3)))]
        | false =>
          rw [if_pos (by decide), h1, e0]
          refine kr_says hK hS 0 rfl (by omega) (ti_1106) ?_
          cases c4 : mt (gd (cur a)) (cur a).length 0 [60, 47] with
          | true =>
            obtain ⟨m0, m1⟩ := mt_c2 c4
            rw [if_neg (by decide)]
            refine sp_K_fail h.f3 (hf6 ?_)
            rw [hic, if_neg (fun z => by have := (mt_c2 z).2; omega), if_pos (Or.inr (Or.inr (Or.inl c4)))]
          | false =>
            rw [if_pos (by decide), h1, e0]
            refine kr_look hK hS 0 rfl ?_
            by_cases c5 : lk (gd (cur a)) (cur a).length 0 = 60
            · rw [if_pos c5, h1, e0]
              refine kr_says hK hS 0 rfl (by omega) (ti_1107) ?_
              cases c6 : mt (gd (cur a)) (cur a).length 0 [60, 63] with
              | true =>
                rw [if_neg (by decide)]
                exact hpin (by rw [hic, if_pos c6]) c6
              | false =>
                rw [if_pos (by decide)]
                rw [if_neg (by rw [c6]; decide)] at hic
                by_cases c7 : σ.1 16 19 = 3
                · rw [if_pos c7]
                  refine sp_K_fail h.f3 (hf6 ?_)
                  rw [hic, if_pos (Or.inl (by omega))]
                · rw [if_neg c7]
                  refine htag ?_ c5 (by omega)
                  rw [hic, if_neg, if_pos c2]
                  intro z
                  rcases z with z | z | z | z
                  · omega
                  · exact z c5
                  · rw [c4] at z; exact absurd z (by decide)
                  · rw [c3] at z; exact absurd z (by decide)
            · rw [if_neg c5]
              refine sp_K_fail h.f3 (hf6 ?_)
              rw [hic, if_neg (fun z => by have := (mt_c2 z).1; omega), if_pos (Or.inr (Or.inl c5))]
end Kdp2
