/-! ===== the class's reader: values, public literals, outside ===== -/
/-- the same but for the reader's place and what it read last -/
def FRs (σ τ : IS) : Prop := τ.2 = σ.2 ∧ (∀ o j : Nat, ¬ (o = 2 ∧ (j = 2 ∨ (7 ≤ j ∧ j ≤ 11))) → τ.1 o j = σ.1 o j) ∧ rng τ
theorem FRs.refl {σ : IS} (h : rng σ) : FRs σ σ := ⟨rfl, fun _ _ _ => rfl, h⟩
theorem FRs.pos {σ τ : IS} (h : FRs σ τ) {x : Int} : FRs σ (pf τ 2 2 x) := by
  refine ⟨h.1, fun o j hj => ?_, h.2.2.low (by decide)⟩
  rw [pf_1, if_neg (by omega)]
  exact h.2.1 o j hj
theorem FRs.fld {σ τ : IS} (h : FRs σ τ) {i : Nat} {x : Int} (hi : 7 ≤ i ∧ i ≤ 11) (hx : -2000000 ≤ x ∧ x ≤ 2000000) : FRs σ (pf τ 2 i x) := by
  refine ⟨h.1, fun o j hj => ?_, h.2.2.fld hx⟩
  rw [pf_1, if_neg (by omega)]
  exact h.2.1 o j hj
theorem JS.fr {L : Nat → Nat} {σ τ : IS} {e : Nat} (h : JS L σ e) (hf : FRs σ τ) : JS L τ e := ⟨(hf.2.1 2 3 (by omega)).trans h.1, h.2.1, h.2.2.1, (hf.2.1 2 4 (by omega)).trans h.2.2.2.1, hf.2.2⟩
theorem jst.fr {e k : Nat} {σ σ' τ : IS} (hf : FRs σ σ') (h : jst e k σ' none τ) : jst e k σ none τ := by
  obtain ⟨⟨h1, h2, h3, h4⟩, h5⟩ := h
  refine ⟨⟨h1.trans hf.1, fun o j hj => ?_, h3, h4⟩, h5⟩
  rw [h2 o j hj]
  exact hf.2.1 o j (by omega)
section JVal
variable {L : Nat → Nat} {σ τ : IS} {e k : Nat} {o : Option Nat}
set_option maxRecDepth 10000 in
theorem j_checkValue {Q : IS → Prop} (hS : JS L σ e) (hk : k ≤ 50) (hch : jch L σ) (h : jst e k σ o τ)
    (h1 : ∀ p j τ', o = some p → vlp (σ.2 101) e (some p) = some j → FRs σ τ' → τ'.1 2 2 = (j : Int) → Q τ') (h0 : vlp (σ.2 101) e o = none → ∀ τ', jst e k σ none τ' → Q τ') : w_Reader_checkValue L Q τ := by
  have he : e < 1000000 := by have := hS.2.1; have := hS.2.2.1; omega
  unfold w_Reader_checkValue
  cases o with
  | none =>
    obtain ⟨hb, h5⟩ := h
    obtain ⟨p, hj, hpk⟩ := hb.jt hS hk
    refine sp_Reader_peek hj (sp_Reader_atQuote hj ?_)
    rw [if_b1]
    by_cases c : isQt (lk (τ.2 101) e p) = true
    · rw [if_pos c, hj.1]
      have hlt : p < e := by
        by_cases z : p < e
        · exact z
        · unfold lk at c
          rw [if_neg z] at c
          exact absurd c (by decide)
      refine ⟨⟨by omega, by omega⟩, ?_⟩
      refine WL_ind (fun _ ρ => ρ = pf τ 2 2 ((p + 1 : Nat) : Int)) (fun _ _ => 0) ?_ _ _ (by rw [show ((p : Int) + 1) = ((p + 1 : Nat) : Int) by omega])
      rintro s ρ rfl K hI
      try dsimp only
      rw [if_neg (fun z => by rw [pf_nk (by decide), h5] at z; exact absurd z.2 (by decide))]
      exact h0 rfl _ ⟨hb.pos (by omega), by rw [pf_nk (by decide)]; exact h5⟩
    · rw [if_neg c]
      refine sp_Reader_fail ?_
      rw [flt_bad h5]
      exact h0 rfl _ ⟨hb, h5⟩
  | some p =>
    obtain ⟨hp, rfl⟩ := h
    have hj := hS.jt hp rfl
    refine sp_Reader_peek hj (sp_Reader_atQuote hj ?_)
    rw [if_b1, pf_2, pf_eq, pf_pf]
    have hv : vlp (σ.2 101) e (some p) = if isQt (lk (σ.2 101) e p) = true then vlg (σ.2 101) e (σ.2 101 p) (e + 1) (p + 1) else none := rfl
    by_cases c : isQt (lk (σ.2 101) e p) = true
    · rw [if_pos c]
      rw [if_pos c] at hv
      have hlt : p < e := by
        by_cases z : p < e
        · exact z
        · unfold lk at c
          rw [if_neg z] at c
          exact absurd c (by decide)
      have hl : lk (σ.2 101) e p = σ.2 101 p := by unfold lk; rw [if_pos hlt]
      have hq1 : σ.2 101 p ≠ -1 := by
        intro z
        rw [hl, z] at c
        exact absurd c (by decide)
      rw [hl]
      refine ⟨⟨by omega, by omega⟩, ?_⟩
      refine WL_ind (fun s ρ => (∃ i t : Nat, s = (t : Int) ∧ t + (p + 1) ≤ i ∧ i ≤ e ∧ FRs σ ρ ∧ ρ.1 2 2 = (i : Int) ∧ vlg (σ.2 101) e (σ.2 101 p) (e + 1) (p + 1) = vlg (σ.2 101) e (σ.2 101 p) (e + 1) i) ∨ (jst e k σ none ρ ∧ vlg (σ.2 101) e (σ.2 101 p) (e + 1) (p + 1) = none)) (fun s ρ => if ρ.1 2 4 = 0 then ((e : Int) + 2 - s).toNat else 0) ?_ _ _ (Or.inl ⟨p + 1, 0, rfl, by omega, by omega, (FRs.refl hS.2.2.2.2).pos, by rw [pf_eq]; omega, rfl⟩)
      rintro s ρ hI0 K hI
      try dsimp only
      rcases hI0 with hI0 | hI0
      · obtain ⟨i, t, hst, hti, hie, hf, hpos, hs⟩ := hI0
        subst hst
        have h4 : ρ.1 2 4 = 0 := (hS.fr hf).2.2.2.1
        have hSρ := hS.fr hf
        rw [if_pos ⟨by omega, h4⟩]
        have hjρ : JT L ρ e i := ⟨hpos, hSρ.1, hSρ.2.1, hSρ.2.2.1, by omega⟩
        refine sp_Reader_peek hjρ ?_
        rw [hf.1, hpos]
        have hstep : vlg (σ.2 101) e (σ.2 101 p) (e + 1) i = (if i < e then (if σ.2 101 i = σ.2 101 p then some (i + 1) else if σ.2 101 i = 60 then none else if σ.2 101 i = 38 then (match rfp (σ.2 101) e (some i) with
          | none => none
          | some m => vlg (σ.2 101) e (σ.2 101 p) e m) else vlg (σ.2 101) e (σ.2 101 p) e (i + 1)) else none) := rfl
        have hbadf : vlg (σ.2 101) e (σ.2 101 p) (e + 1) (p + 1) = none → w_Reader_fail L 5 (fun σ22 => inR ((t : Int) + 1) ∧ K ((t : Int) + 1) σ22) ρ := by
          intro hno
          refine sp_Reader_fail ⟨⟨by omega, by omega⟩, hI _ _ (Or.inr ⟨?_, hno⟩) ?_⟩
          · refine jst.fr hf ?_
            exact flt_none hSρ hie (pf_self hpos).symm
          · have hz : (flt ρ 5).1 2 4 = 5 := by unfold flt; rw [if_pos h4, pf_eq]
            rw [if_neg (by rw [hz]; decide), if_pos h4]
            omega
        by_cases c1 : i < e
        · have hli : lk (σ.2 101) e i = σ.2 101 i := by unfold lk; rw [if_pos c1]
          rw [hli]
          rw [if_pos c1] at hstep
          by_cases c2 : σ.2 101 i = σ.2 101 p
          · rw [if_pos c2]
            rw [if_pos c2] at hstep
            refine ⟨⟨by omega, by omega⟩, h1 p (i + 1) _ rfl ?_ hf.pos (by rw [pf_eq]; omega)⟩
            rw [hv, hs, hstep]
          · rw [if_neg c2]
            rw [if_neg c2] at hstep
            unfold WJ
            try dsimp only
            by_cases c3 : σ.2 101 i = 60
            · rw [if_neg (by omega)]
              rw [if_pos c3] at hstep
              exact hbadf (by rw [hs, hstep])
            · rw [if_neg c3] at hstep
              by_cases c5 : σ.2 101 i = -1
              · rw [if_neg (by omega)]
                rw [if_neg (by omega)] at hstep
                -- no character is -1, but the place may hold anything: the class fails
                exact absurd c5 (hch_ne hch (by have := hS.2.1; omega))
              · rw [if_pos ⟨c5, c3⟩]
                by_cases c4 : σ.2 101 i = 38
                · rw [if_pos c4]
                  rw [if_pos c4] at hstep
                  have hρ38 : ρ.2 101 i = 38 := by rw [hf.1]; exact c4
                  refine j_readReference (k := k) hSρ hk (by intro q hq; rw [hf.1]; exact hch q hq) c1 hρ38 (pf_self hpos).symm (fun j hex k0 hr h35 hh hk0 τ' hτ => ?_) (fun j hr h35 τ' hτ => ?_) (fun hr τ' hτ => ?_)
                  · rw [hf.1] at hr
                    have hlt2 := rfp_lt hr
                    rw [hr] at hstep
                    refine ⟨⟨by omega, by omega⟩, hI _ _ (Or.inl ⟨j, t + 1, by omega, by omega, by omega, ?_, by rw [hτ.2, pf_eq], ?_⟩) ?_⟩
                    · rw [hτ.2]
                      refine (hf.fld (by omega) ?_).pos
                      have hn := rfp_num hr (by rw [← hf.1]; exact h35) hex (by rw [← hf.1]; exact hh) k0 hk0
                      refine clmp_in (numl_pos (b := if hex = true then 16 else 10) (by cases hex <;> decide) _ (fun ch hcm => ?_))
                      unfold sl at hcm
                      obtain ⟨q, hq2, rfl⟩ := List.mem_map.mp hcm
                      have hq3 := List.mem_range.mp hq2
                      rw [hf.1]
                      have := sk_all (p := hxP hex) (T := σ.2 101) (e := e) (i := k0) (k0 + q) (by omega) (by omega)
                      unfold hxP at this
                      cases hex
                      · exact dg_hex this
                      · exact this
                    · rw [hs, hstep]
                      exact vlg_fuel _ _ _ (by omega) (by omega)
                    · rw [if_pos (by rw [hτ.2, pf_nk (by decide), pf_nk (by decide)]; exact h4), if_pos h4]
                      omega
                  · rw [hf.1] at hr
                    have hlt2 := rfp_lt hr
                    rw [hr] at hstep
                    refine ⟨⟨by omega, by omega⟩, hI _ _ (Or.inl ⟨j, t + 1, by omega, by omega, by omega, ?_, by rw [hτ.2, pf_eq], ?_⟩) ?_⟩
                    · rw [hτ.2]
                      exact (((hf.fld (by omega) (by omega)).fld (by omega) (by omega)).fld (by omega) (by omega)).pos
                    · rw [hs, hstep]
                      exact vlg_fuel _ _ _ (by omega) (by omega)
                    · rw [if_pos (by rw [hτ.2, pf_nk (by decide), pf_nk (by decide), pf_nk (by decide), pf_nk (by decide)]; exact h4), if_pos h4]
                      omega
                  · rw [hf.1] at hr
                    rw [hr] at hstep
                    refine ⟨⟨by omega, by omega⟩, hI _ _ (Or.inr ⟨jst.fr hf hτ, by rw [hs, hstep]⟩) ?_⟩
                    rw [if_neg (by rw [hτ.2]; decide), if_pos h4]
                    omega
                · rw [if_neg c4]
                  rw [if_neg c4] at hstep
                  refine ⟨⟨by omega, by omega⟩, ⟨by omega, by omega⟩, hI _ _ (Or.inl ⟨i + 1, t + 1, by omega, by omega, by omega, hf.pos, by rw [pf_eq]; omega, ?_⟩) ?_⟩
                  · rw [hs, hstep]
                    exact vlg_fuel _ _ _ (by omega) (by omega)
                  · rw [if_pos (by rw [pf_nk (by decide)]; exact h4), if_pos h4]
                    omega
        · have hli : lk (σ.2 101) e i = -1 := by unfold lk; rw [if_neg c1]
          rw [hli, if_neg (fun z => hq1 z.symm)]
          rw [if_neg c1] at hstep
          unfold WJ
          try dsimp only
          rw [if_neg (fun z => z.1 rfl)]
          exact hbadf (by rw [hs, hstep])
      · have hb := hI0.1
        have hn := hI0.2
        rw [if_neg (fun z => by rw [hb.2] at z; exact absurd z.2 (by decide))]
        exact h0 (by rw [hv, hn]) _ hb
    · rw [if_neg c]
      rw [if_neg c] at hv
      refine sp_Reader_fail ?_
      exact h0 hv _ (flt_none hS hp rfl)
end JVal
