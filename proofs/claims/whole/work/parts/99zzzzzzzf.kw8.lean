/-! ===== room (8): all names of a text, item by item (pure) ===== -/
section Kw8
variable {rm nd : Nat} {a a' : AS} {X : TT}
theorem cur_F (hc : cur a ≠ []) : ∃ q t, aF a = (cur a, q) :: t := by
  cases hF : aF a with
  | nil => exact absurd (by unfold cur; rw [hF]) hc
  | cons f t => exact ⟨f.2, t, by unfold cur; rw [hF]⟩
/-- what the item at hand adds -/
def txE (a : AS) : TT := match itE a with
  | none => tt0
  | some x => al x.2.2.length (md x.2.1) x.2.2
theorem txE_W : tw1 (txE a) ≤ exl (itE a) ∧ tw2 (txE a) ≤ exl (itE a) := by
  unfold txE
  cases itE a with
  | none => exact ⟨Nat.zero_le _, Nat.zero_le _⟩
  | some x => exact al_W _ _ _
theorem GT.tok (hG : GI rm nd a) (h : GT a X) : ∃ X', tle X X' ∧ tle (tk a) X' ∧ tw1 X' ≤ aN a 8 ∧ tw2 X' ≤ aN a 8 := by
  obtain ⟨⟨h1, h2⟩, h3, h4⟩ := h
  by_cases hc : cur a = []
  · refine ⟨X, tle.refl, ?_, by omega, by omega⟩
    unfold tk tkN tkP tkG
    rw [if_pos hc, if_pos hc, if_pos hc]
    exact tle_0
  · obtain ⟨q, t, hF⟩ := cur_F hc
    by_cases ht : t = []
    · subst ht
      have hb : bsr a = (cur a).length := by unfold bsr; rw [hF]; rfl
      obtain ⟨w1, w2, -⟩ := itm_W hc
      refine ⟨tta X (tk a), tle_l, tle_r, ?_, ?_⟩
      · rw [tw1_a]
        have : tw1 (tk a) = Wn (tkN a) := rfl
        cases hK : itK a with
        | none => have := w2 hK; omega
        | some k => have := w1 k hK; omega
      · rw [tw2_a]
        have : tw2 (tk a) = 8 * (tkP a).length + 5 * tkG a := rfl
        cases hK : itK a with
        | none => have := w2 hK; omega
        | some k => have := w1 k hK; omega
    · obtain ⟨⟨-, -, -, -, -, -, -, -, -, -, p4, -⟩, -, -⟩ := id hG
      have hl : 1 < (aF a).length := by rw [hF, List.length_cons]; have := List.length_pos_iff.mpr ht; omega
      have hp := tk_ps hl (p4 hl)
      have hm : (cur a, q) ∈ (aF a).dropLast := by
        rw [hF, List.dropLast_cons_of_ne_nil ht]
        exact List.mem_cons_self
      have := h4 _ hm
      exact ⟨X, tle.refl, by rw [hp.1]; exact (al_step hc).1.trans this, by omega, by omega⟩
theorem GT.stpE (hG : GI rm nd a) (h : GT a X) (hs : stp rm nd a = .inr a') : ∃ X', GT a' X' ∧ tle X X' ∧ tle (tk a) X' := by
  obtain ⟨⟨h1, h2⟩, h3, h4⟩ := h
  by_cases hc : cur a = []
  · have hs' : iFin a = .inr a' := by unfold stp at hs; rw [if_pos hc] at hs; exact hs
    have htk : tle (tk a) X := by
      unfold tk tkN tkP tkG
      rw [if_pos hc, if_pos hc, if_pos hc]
      exact tle_0
    refine ⟨X, ?_, tle.refl, htk⟩
    unfold iFin at hs'
    cases hF : aF a with
    | nil => rw [hF] at hs'; cases hs'
    | cons f t =>
      cases t with
      | nil => rw [hF] at hs'; cases hs'
      | cons x r =>
        rw [hF] at hs'
        dsimp only at hs'
        split at hs'
        · cases hs'
        · cases hs'
          have hb : bsr (sF a (x :: r)) = bsr a := by unfold bsr; rw [hF]; rfl
          refine ⟨⟨by rw [hb]; exact h1, by rw [hb]; exact h2⟩, h3, fun g hg => h4 g ?_⟩
          rw [hF, List.dropLast_cons_of_ne_nil (List.cons_ne_nil _ _)]
          exact List.mem_cons_of_mem _ hg
  · obtain ⟨q, t, hF⟩ := cur_F hc
    obtain ⟨k, hk, hfr, hE, h8, -⟩ := stp_frm hs hc hF
    obtain ⟨w1, w2, -⟩ := itm_W hc
    obtain ⟨k0, k1, k2, k3⟩ := w1 k hk
    by_cases ht : t = []
    · subst ht
      have hb : bsr a = (cur a).length := by unfold bsr; rw [hF]; rfl
      have hb' : bsr a' = (cur a).length - k := by
        unfold bsr
        rcases hfr with hfr | ⟨i, -, hfr, -⟩ <;> rw [hfr]
        · show ((cur a).drop k).length = _; exact List.length_drop
        · show ((cur a).drop k).length = _; exact List.length_drop
      have hx := txE_W (a := a)
      refine ⟨tta X (tta (tk a) (txE a)), ⟨⟨?_, ?_⟩, fun x hx => ?_, fun f hf => ?_⟩, tle_l, tle_l.trans tle_r⟩
      · rw [tw1_a, tw1_a, hb', h8]
        have : tw1 (tk a) = Wn (tkN a) := rfl
        omega
      · rw [tw2_a, tw2_a, hb', h8]
        have : tw2 (tk a) = 8 * (tkP a).length + 5 * tkG a := rfl
        omega
      · rcases hE with hE | ⟨y, hE, hy⟩
        · rw [hE] at hx; exact (h3 x hx).trans tle_l
        · rw [hE] at hx
          rcases List.mem_append.mp hx with hx | hx
          · exact (h3 x hx).trans tle_l
          · rw [List.mem_singleton] at hx
            subst hx
            have : txE a = al x.2.2.length (md x.2.1) x.2.2 := by unfold txE; rw [hy]
            rw [← this]
            exact tle_r.trans tle_r
      · rcases hfr with hfr | ⟨i, hi, hfr, h4', hph⟩
        · rw [hfr] at hf; cases hf
        · rw [hfr] at hf
          have hf' : f = (((aE a).getD i ([], false, [])).2.2, i + 1, (aO a).length) := by
            have : f ∈ [(((aE a).getD i ([], false, [])).2.2, i + 1, (aO a).length)] := hf
            exact List.mem_singleton.mp this
          rw [hf', h4']
          have hm := h3 ((aE a).getD i ([], false, [])) (getD_mem hi)
          have e1 : aN a 4 = md ((aE a).getD i ([], false, [])).2.1 := by
            rcases hph with ⟨y, z⟩ | ⟨y, z⟩ <;> rw [y, z] <;> rfl
          rw [e1]
          exact hm.trans tle_l
    · have hl : 1 < (aF a).length := by rw [hF, List.length_cons]; have := List.length_pos_iff.mpr ht; omega
      obtain ⟨⟨-, -, -, -, -, -, -, -, -, -, p4, -⟩, -, -⟩ := id hG
      have hp := tk_ps hl (p4 hl)
      have hph' := stp_ph hG hs hc hl
      have hm : (cur a, q) ∈ (aF a).dropLast := by
        rw [hF, List.dropLast_cons_of_ne_nil ht]
        exact List.mem_cons_self
      have hcur := h4 _ hm
      obtain ⟨s1, s2, s3⟩ := al_step (m := aN a 4) hc
      have hb' : bsr a' = bsr a := by
        unfold bsr
        rw [hF]
        cases t with
        | nil => exact absurd rfl ht
        | cons x r =>
          rcases hfr with hfr | ⟨i, -, hfr, -⟩ <;> rw [hfr] <;> rfl
      have hcd : tle (al ((cur a).drop k).length (aN a 4) ((cur a).drop k)) X := (s3 k (by rw [← hp.2.1]; exact hk)).trans hcur
      have hdl : ∀ g ∈ (((cur a).drop k, q) :: t).dropLast, tle (al g.1.length (aN a 4) g.1) X := by
        intro g hg
        rw [List.dropLast_cons_of_ne_nil ht] at hg
        rcases List.mem_cons.mp hg with rfl | hg
        · exact hcd
        · refine h4 g ?_
          rw [hF, List.dropLast_cons_of_ne_nil ht]
          exact List.mem_cons_of_mem _ hg
      refine ⟨X, ⟨⟨by rw [hb', h8]; exact h1, by rw [hb', h8]; exact h2⟩, fun x hx => ?_, fun f hf => ?_⟩, tle.refl, by rw [hp.1]; exact s1.trans hcur⟩
      · rcases hE with hE | ⟨y, hE, hy⟩
        · rw [hE] at hx; exact h3 x hx
        · rw [hE] at hx
          rcases List.mem_append.mp hx with hx | hx
          · exact h3 x hx
          · rw [List.mem_singleton] at hx
            subst hx
            exact (s2 x (by rw [← hp.2.2]; exact hy)).trans hcur
      · rw [hph']
        rcases hfr with hfr | ⟨i, hi, hfr, h4', hph⟩
        · rw [hfr] at hf; exact hdl f hf
        · rw [hfr, List.dropLast_cons_of_ne_nil (List.cons_ne_nil _ _)] at hf
          rcases List.mem_cons.mp hf with rfl | hf
          · have hm := h3 ((aE a).getD i ([], false, [])) (getD_mem hi)
            have e1 : aN a 4 = md ((aE a).getD i ([], false, [])).2.1 := by
              rcases hph with ⟨y, z⟩ | ⟨y, z⟩ <;> rw [y, z] <;> rfl
            rw [e1]
            exact hm
          · exact hdl f hf
theorem GT_a0 {l : List Int} : GT (a0 l) tt0 := ⟨⟨by show 0 + l.length ≤ l.length; omega, by show 8 * 0 + 5 * 0 + l.length ≤ l.length; omega⟩, fun x hx => (by cases hx), fun f hf => (by cases hf)⟩
theorem GT_hd {l : List Int} {st k : Nat} : GT (adv (sN (a0 l) 5 st) k) tt0 := ⟨⟨by show 0 + (l.drop k).length ≤ l.length; rw [List.length_drop]; omega, by show 8 * 0 + 5 * 0 + (l.drop k).length ≤ l.length; rw [List.length_drop]; omega⟩, fun x hx => (by cases hx), fun f hf => (by cases hf)⟩
end Kw8
