/-! ===== the class's check of an entity's text ===== -/
section JEt2
variable {L : Nat → Nat} {σ τ : IS} {e k : Nat} {o : Option Nat}
set_option maxRecDepth 10000 in
theorem j_checkEntityText {Q : IS → Prop} (hS : JS L σ e) (hk : k ≤ 50) (hch : jch L σ) (h : jst e k σ o τ)
    (h1 : ∀ p j τ', o = some p → etx (σ.2 101) e (some p) = some j → FRs σ τ' → τ'.1 2 2 = (j : Int) → τ'.1 2 10 = (p : Int) + 1 → τ'.1 2 11 = (j : Int) - 1 - ((p : Int) + 1) → Q τ') (h0 : etx (σ.2 101) e o = none → ∀ τ', jst e k σ none τ' → Q τ') : w_Reader_checkEntityText L Q τ := by
  have he : e < 1000000 := by have := hS.2.1; have := hS.2.2.1; omega
  have hL1 := hS.2.1
  unfold w_Reader_checkEntityText
  refine j_readLiteral hS hk h (fun p j ho hl ρ hρ => ?_) (fun hl ρ hρ => ?_)
  · subst ho
    have hlt := ltl_lt hl
    have hTj := ltl_q hl
    have hρ2 := hρ.2
    have f10 : ρ.1 2 10 = (p : Int) + 1 := by rw [hρ2, pf_nk (by decide), pf_nk (by decide), pf_eq]
    have f11 : ρ.1 2 11 = (j : Int) - 1 - ((p : Int) + 1) := by rw [hρ2, pf_nk (by decide), pf_eq]
    have f2 : ρ.1 2 2 = (j : Int) := by rw [hρ2, pf_eq]
    have hf : FRs σ ρ := by
      rw [hρ2]
      exact (((FRs.refl hS.2.2.2.2).fld (by omega) (by omega)).fld (by omega) (by omega)).pos
    have hqt : isQt (lk (σ.2 101) e p) = true := by
      have h' : (if isQt (lk (σ.2 101) e p) = true then (if sk (fun c => !(c == σ.2 101 p)) (σ.2 101) e (p + 1) < e then some (sk (fun c => !(c == σ.2 101 p)) (σ.2 101) e (p + 1) + 1) else none) else none) = some j := hl
      by_cases hc : isQt (lk (σ.2 101) e p) = true
      · exact hc
      · rw [if_neg hc] at h'; cases h'
    have hsk : sk (fun c => !(c == σ.2 101 p)) (σ.2 101) e (p + 1) = j - 1 := by
      have h' : (if isQt (lk (σ.2 101) e p) = true then (if sk (fun c => !(c == σ.2 101 p)) (σ.2 101) e (p + 1) < e then some (sk (fun c => !(c == σ.2 101 p)) (σ.2 101) e (p + 1) + 1) else none) else none) = some j := hl
      rw [if_pos hqt] at h'
      split at h'
      · have := Option.some.inj h'; omega
      · cases h'
    have hnoq : ∀ i, p + 1 ≤ i → i < j - 1 → σ.2 101 i ≠ σ.2 101 p := by
      intro i g1 g2 z
      have := sk_all (p := fun c => !(c == σ.2 101 p)) (T := σ.2 101) (e := e) (i := p + 1) i g1 (by omega)
      rw [z] at this
      simp at this
    have hlp : lk (σ.2 101) e p = σ.2 101 p := by unfold lk; rw [if_pos hlt.1]
    have hq34 : σ.2 101 p = 34 ∨ σ.2 101 p = 39 := by rw [hlp] at hqt; simpa [isQt] using hqt
    have hx : etx (σ.2 101) e (some p) = etg (σ.2 101) e (σ.2 101 p) (e + 1) (p + 1) := by
      show (if isQt (lk (σ.2 101) e p) = true then _ else none) = _
      rw [if_pos hqt]
    rw [f10, f11, f2]
    refine WL_ind (fun s ρ' => (∃ i t : Nat, s = (t : Int) ∧ t + (p + 1) ≤ i ∧ i ≤ j - 1 ∧ FRs σ ρ' ∧ ρ'.1 2 2 = (i : Int) ∧ ρ'.1 2 10 = (p : Int) + 1 ∧ ρ'.1 2 11 = (j : Int) - 1 - ((p : Int) + 1) ∧ etg (σ.2 101) e (σ.2 101 p) (e + 1) (p + 1) = etg (σ.2 101) e (σ.2 101 p) (e + 1) i) ∨ (jst e k σ none ρ' ∧ etx (σ.2 101) e (some p) = none)) (fun s ρ' => if ρ'.1 2 4 = 0 then ((e : Int) + 2 - s).toNat else 0) ?_ _ _ (Or.inl ⟨p + 1, 0, rfl, by omega, by omega, hf.pos, by rw [pf_eq]; omega, by rw [pf_nk (by decide)]; exact f10, by rw [pf_nk (by decide)]; exact f11, rfl⟩)
    rintro s ρ' hI0 K hI
    try dsimp only
    refine ⟨fun _ => ⟨by omega, by omega⟩, ?_⟩
    rcases hI0 with hI0 | hI0
    · obtain ⟨i, t, hst, hti, hij, hf', hpos, e10, e11, hs⟩ := hI0
      subst hst
      have h4 : ρ'.1 2 4 = 0 := (hS.fr hf').2.2.2.1
      have hSρ := hS.fr hf'
      rw [hpos, h4]
      rw [h4] at hI
      have hstep : etg (σ.2 101) e (σ.2 101 p) (e + 1) i = (if i < e then (if σ.2 101 i = σ.2 101 p then some (i + 1) else if σ.2 101 i = 38 then (match rfp (σ.2 101) e (some i) with
          | none => none
          | some m => etg (σ.2 101) e (σ.2 101 p) e m) else if σ.2 101 i = 37 then (match pcp (σ.2 101) e i with
          | none => none
          | some m => etg (σ.2 101) e (σ.2 101 p) e m) else etg (σ.2 101) e (σ.2 101 p) e (i + 1)) else none) := rfl
      by_cases c : (t : Int) < (j : Int) - 1 - ((p : Int) + 1) ∧ ((i : Int) < (p : Int) + 1 + ((j : Int) - 1 - ((p : Int) + 1)) ∧ (0 : Int) = 0)
      · rw [if_pos c, hf'.1, show Int.toNat (i : Int) = i by omega]
        have hil : i < j - 1 := by omega
        rw [if_pos (by omega), if_neg (hnoq i (by omega) hil)] at hstep
        refine ⟨⟨by omega, by omega⟩, ?_⟩
        unfold WJ
        try dsimp only
        -- a step on
        have hgo : ∀ (m : Nat) (ρ1 : IS), i < m → (∀ q, i < q → q < m → σ.2 101 q ≠ 34 ∧ σ.2 101 q ≠ 39) → m ≤ e → FRs σ ρ1 → ρ1.1 2 2 = (m : Int) → ρ1.1 2 10 = (p : Int) + 1 → ρ1.1 2 11 = (j : Int) - 1 - ((p : Int) + 1) → etg (σ.2 101) e (σ.2 101 p) (e + 1) i = etg (σ.2 101) e (σ.2 101 p) e m → inR ((t : Int) + 1) ∧ K ((t : Int) + 1) ρ1 := by
          intro m ρ1 him hnq hme hf1 hp1 hA hB hst
          have hmj : m ≤ j - 1 := by
            by_cases z : m ≤ j - 1
            · exact z
            · exfalso
              have := hnq (j - 1) hil (by omega)
              rw [hTj] at this
              rcases hq34 with y | y
              · exact this.1 y
              · exact this.2 y
          refine ⟨⟨by omega, by omega⟩, hI _ _ (Or.inl ⟨m, t + 1, by omega, by omega, hmj, hf1, hp1, hA, hB, ?_⟩) ?_⟩
          · rw [hs, hst]
            exact etg_fuel _ _ _ (by omega) (by omega)
          · rw [if_pos (hS.fr hf1).2.2.2.1, if_pos rfl]
            omega
        have hno : ∀ ρ1, etg (σ.2 101) e (σ.2 101 p) (e + 1) i = none → jst e k ρ' none ρ1 → inR ((t : Int) + 1) ∧ K ((t : Int) + 1) ρ1 := by
          intro ρ1 hst hb
          refine ⟨⟨by omega, by omega⟩, hI _ _ (Or.inr ⟨jst.fr hf' hb, by rw [hx, hs, hst]⟩) ?_⟩
          rw [if_neg (by rw [hb.2]; decide), if_pos rfl]
          omega
        by_cases c4 : σ.2 101 i = 38
        · rw [if_pos c4]
          rw [if_pos c4] at hstep
          have hρ38 : ρ'.2 101 i = 38 := by rw [hf'.1]; exact c4
          refine j_readReference (k := k) hSρ hk (by intro q hq; rw [hf'.1]; exact hch q hq) (show i < e by omega) hρ38 (pf_self hpos).symm (fun m hex k0 hr h35 hh hk0 τ' hτ => ?_) (fun m hr h35 τ' hτ => ?_) (fun hr τ' hτ => ?_)
          · rw [hf'.1] at hr
            have hlt2 := rfp_lt hr
            have hnq := rfp_noq hr
            rw [hr] at hstep
            refine hgo m τ' hlt2.2.1 (fun q a b => ⟨(hnq q (by omega) b).1, (hnq q (by omega) b).2.1⟩) hlt2.2.2.1 ?_ (by rw [hτ.2, pf_eq]) (by rw [hτ.2, pf_nk (by decide), pf_nk (by decide)]; exact e10) (by rw [hτ.2, pf_nk (by decide), pf_nk (by decide)]; exact e11) hstep
            rw [hτ.2]
            refine (hf'.fld (by omega) ?_).pos
            have hn := rfp_num hr (by rw [← hf'.1]; exact h35) hex (by rw [← hf'.1]; exact hh) k0 hk0
            refine clmp_in (numl_pos (b := if hex = true then 16 else 10) (by cases hex <;> decide) _ (fun ch hcm => ?_))
            unfold sl at hcm
            obtain ⟨q, hq2, rfl⟩ := List.mem_map.mp hcm
            have hq3 := List.mem_range.mp hq2
            rw [hf'.1]
            have := sk_all (p := hxP hex) (T := σ.2 101) (e := e) (i := k0) (k0 + q) (by omega) (by omega)
            unfold hxP at this
            cases hex
            · exact dg_hex this
            · exact this
          · rw [hf'.1] at hr
            have hlt2 := rfp_lt hr
            have hnq := rfp_noq hr
            rw [hr] at hstep
            refine hgo m τ' hlt2.2.1 (fun q a b => ⟨(hnq q (by omega) b).1, (hnq q (by omega) b).2.1⟩) hlt2.2.2.1 ?_ (by rw [hτ.2, pf_eq]) (by rw [hτ.2, pf_nk (by decide), pf_nk (by decide), pf_nk (by decide), pf_nk (by decide)]; exact e10) (by rw [hτ.2, pf_nk (by decide), pf_nk (by decide), pf_nk (by decide), pf_nk (by decide)]; exact e11) hstep
            rw [hτ.2]
            exact (((hf'.fld (by omega) (by omega)).fld (by omega) (by omega)).fld (by omega) (by omega)).pos
          · rw [hf'.1] at hr
            rw [hr] at hstep
            exact hno τ' hstep hτ
        · rw [if_neg c4]
          rw [if_neg c4] at hstep
          refine ⟨⟨by omega, by omega⟩, ?_⟩
          by_cases c5 : σ.2 101 i = 37
          · rw [if_pos c5]
            rw [if_pos c5] at hstep
            refine j_readName (k := k) hSρ hk (o := some (i + 1)) ⟨by omega, by rw [show ((i + 1 : Nat) : Int) = (i : Int) + 1 by omega]⟩ (fun v τ1 hτ1 _ _ => j_need hSρ hk ti_1060 (by decide) hτ1 (fun τ2 hτ2 => ?_))
            rw [hf'.1] at hτ2
            have hτ2' : jst e k ρ' (pcp (σ.2 101) e i) τ2 := hτ2
            cases hp : pcp (σ.2 101) e i with
            | none =>
              rw [hp] at hstep hτ2'
              exact hno τ2 hstep hτ2'
            | some m =>
              rw [hp] at hstep hτ2'
              have hpl := pcp_lt hp
              refine hgo m τ2 (by omega) (fun q a b => ⟨(hpl.2.2 q a b).1, (hpl.2.2 q a b).2.1⟩) hpl.2.1 ?_ (by rw [hτ2'.2, pf_eq]) (by rw [hτ2'.2, pf_nk (by decide)]; exact e10) (by rw [hτ2'.2, pf_nk (by decide)]; exact e11) hstep
              rw [hτ2'.2]
              exact hf'.pos
          · rw [if_neg c5]
            rw [if_neg c5] at hstep
            exact hgo (i + 1) _ (by omega) (fun q a b => by omega) (by omega) hf'.pos (by rw [pf_eq]; omega) (by rw [pf_nk (by decide)]; exact e10) (by rw [pf_nk (by decide)]; exact e11) hstep
      · rw [if_neg c]
        have ei : i = j - 1 := by omega
        rw [if_pos (by omega), if_pos (by rw [ei]; exact hTj)] at hstep
        refine h1 p j _ rfl ?_ hf'.pos pf_eq (by rw [pf_nk (by decide)]; exact e10) (by rw [pf_nk (by decide)]; exact e11)
        rw [hx, hs, hstep, show i + 1 = j by omega]
    · have hb := hI0.1
      rw [if_neg (fun z => by rw [hb.2] at z; exact absurd z.2.2 (by decide))]
      exact h0 hI0.2 _ ⟨hb.1.pos (by omega), by rw [pf_nk (by decide)]; exact hb.2⟩
  · have hno : etx (σ.2 101) e o = none := by
      cases o with
      | none => rfl
      | some p => exact etx_none hl
    refine WL_ind (fun _ ρ' => ρ' = pf ρ 2 2 (ρ.1 2 10)) (fun _ _ => 0) ?_ _ _ rfl
    rintro s ρ' hρe K hI
    try dsimp only
    have r1 := hρ.1.2.2.2 10 (by omega) (by omega)
    have r2 := hρ.1.2.2.2 11 (by omega) (by omega)
    refine ⟨fun _ => ⟨by omega, by omega⟩, ?_⟩
    have h5 : ρ'.1 2 4 = 5 := by rw [hρe, pf_nk (by decide)]; exact hρ.2
    rw [if_neg (fun z => by rw [h5] at z; exact absurd z.2.2 (by decide)), hρe, pf_pf, pf_self rfl]
    exact h0 hno _ hρ
end JEt2
