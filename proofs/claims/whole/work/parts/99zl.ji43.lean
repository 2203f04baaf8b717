/-! ===== items of the class: which item it is ===== -/
section JI43
variable {L : Nat → Nat} {rm nd : Nat} {ρ σ τ : IS} {a : AS} {Q : IS → Prop}
theorem RJ.here (hln : JLn L rm nd) (h : RJ L rm nd σ a) (hc : cur a ≠ []) : ∃ e p : Nat, JS L σ e ∧ jp e 0 σ (some p) σ ∧ lk (σ.2 101) e p = gd (cur a) 0 ∧ lk (gd (cur a)) (cur a).length 0 = gd (cur a) 0 ∧ (∀ w, mt (σ.2 101) e p w = mt (gd (cur a)) (cur a).length 0 w) := by
  obtain ⟨p, g, t, hF, hp, hS, hT, htp, hj⟩ := h.at hln
  have hl : 0 < (cur a).length := List.length_pos_iff.mpr hc
  have e1 : lk (gd (cur a)) (cur a).length 0 = gd (cur a) 0 := by unfold lk; rw [if_pos hl]
  refine ⟨p + (cur a).length, p, hS, hj, ?_, e1, fun w => ?_⟩
  · have := sh_lk hT 0
    rw [Nat.add_zero] at this
    rw [this, e1]
  · have := sh_mt hT w 0
    rw [Nat.add_zero] at this
    exact this
theorem tch_nil {sp : Bool} (h : aO a = []) : tch a sp = a := by unfold tch; rw [h]
theorem iCmt_nil (h : aO a = []) : iCmt a = ord a (cmt (gd (cur a)) (cur a).length 0) := by
  unfold iCmt ord
  rw [tch_nil h]
  cases cmt (gd (cur a)) (cur a).length 0 <;> rfl
theorem jI_f6 (h : RJ L rm nd σ a) {f : Nat} (hf : f ≠ 0) (hq : JO L rm nd σ Q (.inl f)) : w_Reader_fail L (f : Int) Q σ := sp_Reader_fail (hq.1 f rfl _ (h.ft hf))
theorem jD_sub (hln : JLn L rm nd) (h : RJ L rm nd σ a) (hG : GA rm nd a) (hB : GB a) (hC : JC L σ a) (hc : cur a ≠ []) (hph : aN a 4 = 1) (hq : JO L rm nd σ Q (iSub rm nd a)) : w_Doctype_readItem L Q σ := by
  obtain ⟨e, p, hS, hj, hlk, hlk0, hmt⟩ := h.here hln hc
  have hO : aO a = [] := by
    have := hG.2.2.2.2.2.1.2.1
    cases hO : aO a with
    | nil => rfl
    | cons x r => have := this.mpr (by rw [hO]; exact List.cons_ne_nil _ _); omega
  have hd : σ.1 3 12 = 0 ↔ (aF a).length = 1 := by have := h.2.1.1; omega
  unfold w_Doctype_readItem
  refine p_peek hS (by omega) hj (fun v2 hv2 => ?_)
  have e2 := hv2 p rfl
  rw [hlk] at e2
  subst e2
  refine sp_Reader_isSpace (WJ_dir ?_)
  dsimp only
  rw [if_b1]
  unfold iSub at hq
  by_cases c1 : isSp (gd (cur a) 0) = true
  · rw [if_pos c1] at hq ⊢
    exact jI_spc hln h hC hq
  · rw [if_neg c1] at hq ⊢
    by_cases c2 : gd (cur a) 0 = 37
    · rw [if_pos c2] at hq ⊢
      exact jI_prf hln h hG hC hph (by rw [mt1, hlk0, c2]; rfl) hq
    · rw [if_neg c2] at hq ⊢
      by_cases c3 : gd (cur a) 0 = 93 ∧ (aF a).length = 1
      · rw [if_pos c3] at hq
        rw [if_pos ⟨c3.1, hd.mpr c3.2⟩]
        exact jI_sbe hln h hC hph (by rw [mt1, hlk0, c3.1]; rfl) hq
      · rw [if_neg c3] at hq
        rw [if_neg (fun z => c3 ⟨z.1, hd.mp z.2⟩)]
        refine p_at hS (by omega) ti_1026 (by decide) hj (fun v _ hv => ?_)
        rw [hv p rfl, if_b1, hmt]
        by_cases c4 : mt (gd (cur a)) (cur a).length 0 [60, 33, 45, 45] = true
        · rw [if_pos c4] at hq ⊢
          rw [iCmt_nil hO] at hq
          exact jI_cmt hln h hC c4 hq
        · rw [if_neg c4] at hq ⊢
          refine p_at hS (by omega) ti_1027 (by decide) hj (fun v _ hv => ?_)
          rw [hv p rfl, if_b1, hmt]
          by_cases c5 : mt (gd (cur a)) (cur a).length 0 [60, 63] = true
          · rw [if_pos c5] at hq ⊢
            exact jI_pin0 hln h hG hC c5 hq
          · rw [if_neg c5] at hq ⊢
            refine p_at hS (by omega) ti_1028 (by decide) hj (fun v _ hv => ?_)
            rw [hv p rfl, if_b1, hmt]
            by_cases c6 : mt (gd (cur a)) (cur a).length 0 [60, 33, 69, 76, 69, 77, 69, 78, 84] = true
            · rw [if_pos c6] at hq ⊢
              exact jI_eld hln h hG hB hC c6 hq
            · rw [if_neg c6] at hq ⊢
              refine p_at hS (by omega) ti_1029 (by decide) hj (fun v _ hv => ?_)
              rw [hv p rfl, if_b1, hmt]
              by_cases c7 : mt (gd (cur a)) (cur a).length 0 [60, 33, 65, 84, 84, 76, 73, 83, 84] = true
              · rw [if_pos c7] at hq ⊢
                exact jI_atl hln h hG hC c7 hq
              · rw [if_neg c7] at hq ⊢
                refine p_at hS (by omega) ti_1030 (by decide) hj (fun v _ hv => ?_)
                rw [hv p rfl, if_b1, hmt]
                by_cases c8 : mt (gd (cur a)) (cur a).length 0 [60, 33, 69, 78, 84, 73, 84, 89] = true
                · rw [if_pos c8] at hq ⊢
                  exact jI_ent hln h hG hC c8 hq
                · rw [if_neg c8] at hq ⊢
                  refine p_at hS (by omega) ti_1031 (by decide) hj (fun v _ hv => ?_)
                  rw [hv p rfl, if_b1, hmt]
                  by_cases c9 : mt (gd (cur a)) (cur a).length 0 [60, 33, 78, 79, 84, 65, 84, 73, 79, 78] = true
                  · rw [if_pos c9] at hq ⊢
                    exact jI_not hln h hG hC c9 hq
                  · rw [if_neg c9] at hq ⊢
                    exact jI_f6 h (f := 6) (by decide) hq
theorem jD_con {Q : Int → IS → Prop} (hln : JLn L rm nd) (h : RJ L rm nd σ a) (hG : GA rm nd a) (hC : JC L σ a) (hc : cur a ≠ []) (hph : aN a 4 = 2) (hq : JO L rm nd σ (Q 0) (iCon rm nd a)) (hq1 : iCon rm nd a = iTag rm nd a → mt (gd (cur a)) (cur a).length 0 [60] = true → Q 1 σ) : w_Content_isTagInside L Q σ := by
  obtain ⟨e, p, hS, hj, hlk, hlk0, hmt⟩ := h.here hln hc
  obtain ⟨gO, gw, ⟨r1, r2, r3, r4⟩, ⟨c1', c2', c3', c4', c5', c6'⟩, ⟨b1', b2⟩, gp, ho, -⟩ := id hG
  unfold w_Content_isTagInside
  refine p_peek hS (by omega) hj (fun v2 hv2 => ?_)
  have e2 := hv2 p rfl
  rw [hlk] at e2
  subst e2
  refine WJ_dir ?_
  dsimp only
  have hi : iCon rm nd a = iCon rm nd a := rfl
  unfold iCon at hq hq1
  by_cases c1 : gd (cur a) 0 = 38
  · rw [if_pos c1] at hq ⊢
    exact jI_ref hln h hG hC ⟨hc, c1⟩ hq
  · rw [if_neg c1] at hq hq1 ⊢
    by_cases c2 : gd (cur a) 0 = 60
    · rw [if_neg (fun z => z c2)] at hq hq1
      rw [if_pos c2]
      have h60 : mt (gd (cur a)) (cur a).length 0 [60] = true := by rw [mt1, hlk0, c2]; rfl
      refine p_at hS (by omega) ti_1015 (by decide) hj (fun v _ hv => ?_)
      rw [hv p rfl, if_b1, hmt]
      by_cases c3 : mt (gd (cur a)) (cur a).length 0 [60, 47] = true
      · rw [if_pos c3] at hq ⊢
        exact jI_end hln h hG hC hph c3 hq
      · rw [if_neg c3] at hq hq1 ⊢
        refine p_at hS (by omega) ti_1013 (by decide) hj (fun v _ hv => ?_)
        rw [hv p rfl, if_b1, hmt]
        by_cases c4 : mt (gd (cur a)) (cur a).length 0 [60, 33, 45, 45] = true
        · rw [if_pos c4] at hq ⊢
          refine sp_note (sp := false) hln h ho (by omega) (Or.inl ⟨rfl, rfl⟩) (fun σ1 hR1 hf1 hr1 => ?_)
          have hcu : cur (tch a false) = cur a := by unfold cur; rw [tch_other.1]
          have hC1 : JC L σ1 (tch a false) := by
            refine hC.same (by unfold jw; rw [hf1]) (by unfold jtp; rw [hf1]) (hf1 1 2) (hf1 4 16) (by rw [tch_other.2.2.1]) (by rw [tch_other.2.2.1]) (by unfold rem; rw [tch_other.1]) tch_nms (tch_other.2.2.2.2.2.2.2.1) (tch_other.2.2.2.2.2.1) (by rw [tch_other.2.2.2.2.2.2.2.2.2]) tch_other.2.2.2.2.1 (hf1 1 16) (Nat.le_of_eq (by rw [tch_other.2.2.1]))
          refine jI_cmt hln hR1 hC1 (by rw [hcu]; exact c4) ?_
          have e3 : ord (tch a false) (cmt (gd (cur (tch a false))) (cur (tch a false)).length 0) = iCmt a := by
            rw [hcu]
            unfold ord iCmt
            cases cmt (gd (cur a)) (cur a).length 0 <;> rfl
          rw [e3]
          unfold JO
          rw [hf1 2 5]
          exact hq
        · rw [if_neg c4] at hq hq1 ⊢
          refine p_at hS (by omega) ti_1014 (by decide) hj (fun v _ hv => ?_)
          rw [hv p rfl, if_b1, hmt]
          by_cases c5 : mt (gd (cur a)) (cur a).length 0 [60, 63] = true
          · rw [if_pos c5] at hq ⊢
            exact jI_pin1 hln h hG hC c5 hq
          · rw [if_neg c5] at hq hq1 ⊢
            refine p_at hS (by omega) ti_1016 (by decide) hj (fun v _ hv => ?_)
            rw [hv p rfl, if_b1, hmt]
            by_cases c6 : mt (gd (cur a)) (cur a).length 0 [60, 33, 91, 67, 68, 65, 84, 65, 91] = true
            · rw [if_pos c6] at hq ⊢
              exact jI_sec hln h hG hC c6 hq
            · rw [if_neg c6] at hq hq1 ⊢
              refine p_at hS (by omega) ti_1017 (by decide) hj (fun v _ hv => ?_)
              rw [hv p rfl, if_b1, hmt]
              by_cases c7 : mt (gd (cur a)) (cur a).length 0 [60, 33, 68, 79, 67, 84, 89, 80, 69] = true
              · rw [if_pos c7] at hq ⊢
                exact jI_f6 h (f := 6) (by decide) hq
              · rw [if_neg c7] at hq1 ⊢
                exact hq1 rfl h60
    · rw [if_pos c2] at hq
      rw [if_neg c2]
      exact jI_run hln h hG hC hq
theorem jD_out {Q : Int → IS → Prop} (hln : JLn L rm nd) (h : RJ L rm nd σ a) (hG : GA rm nd a) (hB : GB a) (hC : JC L σ a) (hc : cur a ≠ []) (hph : aN a 4 = 0 ∨ aN a 4 = 3) (hq : JO L rm nd σ (Q 0) (iOut rm nd a)) (hq1 : iOut rm nd a = iTag rm nd a → mt (gd (cur a)) (cur a).length 0 [60] = true → Q 1 σ) : w_Content_isTagAround L Q σ := by
  obtain ⟨e, p, hS, hj, hlk, hlk0, hmt⟩ := h.here hln hc
  have hO : aO a = [] := by
    have := hG.2.2.2.2.2.1.2.1
    cases hO : aO a with
    | nil => rfl
    | cons x r => have := this.mpr (by rw [hO]; exact List.cons_ne_nil _ _); omega
  have h62 : σ.1 6 2 = ((aL a).length : Int) := h.2.2.2.2.2.2.2.2.1.1
  have hL3 : (if 0 < (σ.1 6 2) then (1 : Int) else (0 : Int)) = 0 ↔ aN a 4 ≠ 3 := by
    rw [h62]
    have g1 := hG.2.2.2.2.2.2.2.2.1
    have g2 := hB.2.2
    constructor
    · intro z z3
      have hne := g2 z3
      have hp := List.length_pos_iff.mpr hne
      rw [if_pos (by omega)] at z
      cases z
    · intro z
      have h0 : aN a 4 ≤ 1 := by omega
      rw [g1 h0, if_neg (by simp)]
  have h55 : σ.1 5 5 = 0 ↔ (aR a).isSome = false := by
    have := h.2.2.2.2.1.1
    rw [this]
    cases (aR a).isSome <;> simp
  have hf6 : JO L rm nd σ (Q 0) (.inl 6) → w_Reader_fail L 6 (fun σ20 => Q 0 σ20) σ := fun hq6 => jI_f6 (Q := Q 0) h (f := 6) (by decide) hq6
  unfold w_Content_isTagAround
  refine p_peek hS (by omega) hj (fun v2 hv2 => ?_)
  have e2 := hv2 p rfl
  rw [hlk] at e2
  subst e2
  refine sp_Reader_isSpace (WJ_dir ?_)
  dsimp only
  rw [if_b1]
  unfold iOut at hq hq1
  by_cases c1 : isSp (gd (cur a) 0) = true
  · rw [if_pos c1] at hq ⊢
    exact jI_spc hln h hC hq
  · rw [if_neg c1] at hq hq1 ⊢
    refine p_at hS (by omega) ti_1013 (by decide) hj (fun v _ hv => ?_)
    rw [hv p rfl, if_b1, hmt]
    by_cases c2 : mt (gd (cur a)) (cur a).length 0 [60, 33, 45, 45] = true
    · rw [if_pos c2] at hq ⊢
      rw [iCmt_nil hO] at hq
      exact jI_cmt hln h hC c2 hq
    · rw [if_neg c2] at hq hq1 ⊢
      refine p_at hS (by omega) ti_1014 (by decide) hj (fun v _ hv => ?_)
      rw [hv p rfl, if_b1, hmt]
      by_cases c3 : mt (gd (cur a)) (cur a).length 0 [60, 63] = true
      · rw [if_pos c3] at hq ⊢
        exact jI_pin1 hln h hG hC c3 hq
      · rw [if_neg c3] at hq hq1 ⊢
        refine WJ_dir ?_
        dsimp only
        by_cases c4 : aN a 4 = 3
        · rw [if_pos (Or.inl c4)] at hq
          rw [if_neg (fun z => hL3.mp z c4)]
          exact hf6 hq
        · rw [if_pos (hL3.mpr c4)]
          refine p_peek hS (by omega) hj (fun v24 hv24 => ?_)
          have e4 := hv24 p rfl
          rw [hlk] at e4
          subst e4
          by_cases c5 : gd (cur a) 0 = 60
          · rw [if_pos c5]
            have h60 : mt (gd (cur a)) (cur a).length 0 [60] = true := by rw [mt1, hlk0, c5]; rfl
            refine p_at hS (by omega) ti_1015 (by decide) hj (fun v _ hv => ?_)
            rw [hv p rfl, if_b1, hmt]
            by_cases c6 : mt (gd (cur a)) (cur a).length 0 [60, 47] = true
            · rw [if_pos (Or.inr (Or.inr (Or.inl c6)))] at hq
              rw [if_pos c6]
              exact hf6 hq
            · rw [if_neg c6]
              refine p_at hS (by omega) ti_1016 (by decide) hj (fun v _ hv => ?_)
              rw [hv p rfl, if_b1, hmt]
              by_cases c7 : mt (gd (cur a)) (cur a).length 0 [60, 33, 91, 67, 68, 65, 84, 65, 91] = true
              · rw [if_pos (Or.inr (Or.inr (Or.inr c7)))] at hq
                rw [if_pos c7]
                exact hf6 hq
              · rw [if_neg c7]
                have hn : ¬ (aN a 4 = 3 ∨ gd (cur a) 0 ≠ 60 ∨ mt (gd (cur a)) (cur a).length 0 [60, 47] = true ∨ mt (gd (cur a)) (cur a).length 0 [60, 33, 91, 67, 68, 65, 84, 65, 91] = true) := by
                  rintro (z | z | z | z)
                  · exact c4 z
                  · exact z c5
                  · exact c6 z
                  · exact c7 z
                rw [if_neg hn] at hq hq1
                refine p_at hS (by omega) ti_1017 (by decide) hj (fun v _ hv => ?_)
                rw [hv p rfl, if_b1, hmt]
                by_cases c8 : mt (gd (cur a)) (cur a).length 0 [60, 33, 68, 79, 67, 84, 89, 80, 69] = true
                · rw [if_neg (by rw [c8]; decide)] at hq
                  rw [if_pos c8]
                  by_cases c9 : (aR a).isSome = true
                  · rw [if_pos c9] at hq
                    rw [if_neg (fun z => by rw [h55.mp z] at c9; cases c9)]
                    exact hf6 hq
                  · rw [if_neg c9] at hq
                    rw [if_pos (h55.mpr (by simpa using c9))]
                    exact jI_dtd hln h hG hC (by omega) c8 hq
                · have c8' : mt (gd (cur a)) (cur a).length 0 [60, 33, 68, 79, 67, 84, 89, 80, 69] = false := by simpa using c8
                  rw [if_pos c8'] at hq1
                  rw [if_neg c8]
                  exact hq1 rfl h60
          · rw [if_pos (Or.inr (Or.inl c5))] at hq
            rw [if_neg c5]
            exact hf6 hq
end JI43
