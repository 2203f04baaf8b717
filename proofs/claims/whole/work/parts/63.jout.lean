/-! ===== the class's reader: public literals, what is outside ===== -/
section JOut
variable {L : Nat → Nat} {σ τ : IS} {e k : Nat} {o : Option Nat}
theorem plt_of {T : Nat → Int} {p j : Nat} (hl : ltl T e (some p) = some j) : plt T e (some p) = if sk isPb T (j - 1) (p + 1) = j - 1 then some j else none := by
  show (match ltl T e (some p) with
    | none => none
    | some k => if sk isPb T (k - 1) (p + 1) = k - 1 then some k else none) = _
  rw [hl]
theorem plt_none {T : Nat → Int} (hl : ltl T e o = none) : plt T e o = none := by
  cases o with
  | none => rfl
  | some p =>
    show (match ltl T e (some p) with
      | none => none
      | some k => if sk isPb T (k - 1) (p + 1) = k - 1 then some k else none) = _
    rw [hl]
set_option maxRecDepth 10000 in
theorem j_readPublicLiteral {Q : IS → Prop} (hS : JS L σ e) (hk : k ≤ 50) (hch : jch L σ) (h : jst e k σ o τ)
    (h1 : ∀ p j τ', o = some p → plt (σ.2 101) e (some p) = some j → FRs σ τ' → τ'.1 2 2 = (j : Int) → Q τ') (h0 : plt (σ.2 101) e o = none → ∀ τ', jst e k σ none τ' → Q τ') : w_Reader_readPublicLiteral L Q τ := by
  have he : e < 1000000 := by have := hS.2.1; have := hS.2.2.1; omega
  unfold w_Reader_readPublicLiteral
  -- a bad state leaves the loop at once
  have hbad : ∀ ρ : IS, plt (σ.2 101) e o = none → jst e k σ none ρ → ∀ s : Int, WL (fun (K3 : Int → IS → Prop) (s5 : Int) (σ6 : IS) => inR ((σ6.1 2 10) + (σ6.1 2 11)) ∧ if s5 < ((σ6.1 2 10) + (σ6.1 2 11)) ∧ ((σ6.1 2 4) = 0) then inL L 101 s5 ∧ WJ (fun (s9 : Unit) (σ10 : IS) => inR (s5 + 1) ∧ K3 (s5 + 1) σ10) (fun J7 => if ¬ (σ6.2 101 (Int.toNat s5)) = 32 ∧ (¬ (σ6.2 101 (Int.toNat s5)) = 10) then w_Reader_isLetter L (σ6.2 101 (Int.toNat s5)) (fun v13 σ12 => if v13 = 0 then w_Reader_isDigit L (σ6.2 101 (Int.toNat s5)) (fun v16 σ15 => if v16 = 0 then ((¬ 127 < (σ6.2 101 (Int.toNat s5)) → ((0 : Int) ≤ (σ6.2 101 (Int.toNat s5)) ∧ (σ6.2 101 (Int.toNat s5)) < 65536))) ∧ if 127 < (σ6.2 101 (Int.toNat s5)) ∨ ((tF 1061 (σ6.2 101 (Int.toNat s5))) < 0) then w_Reader_fail L 5 (fun σ19 => J7 () σ19) σ15 else J7 () σ15 else J7 () σ15) σ12 else J7 () σ12) σ6 else J7 () σ6) else Q σ6) s ρ := by
    intro ρ hp hb s
    refine WL_ind (fun _ ρ' => ρ' = ρ) (fun _ _ => 0) ?_ s ρ rfl
    rintro s2 ρ2 rfl K hI
    try dsimp only
    have r1 := hb.1.2.2.2 10 (by omega) (by omega)
    have r2 := hb.1.2.2.2 11 (by omega) (by omega)
    refine ⟨⟨by omega, by omega⟩, ?_⟩
    rw [if_neg (fun z => by rw [hb.2] at z; exact absurd z.2 (by decide))]
    exact h0 hp _ hb
  refine j_readLiteral hS hk h (fun p j ho hl ρ hρ => ?_) (fun hl ρ hρ => ?_)
  · subst ho
    have hlt := ltl_lt hl
    have hpl := plt_of hl
    have hρ2 := hρ.2
    have f10 : ρ.1 2 10 = (p : Int) + 1 := by rw [hρ2, pf_nk (by decide), pf_nk (by decide), pf_eq]
    have f11 : ρ.1 2 11 = (j : Int) - 1 - ((p : Int) + 1) := by rw [hρ2, pf_nk (by decide), pf_eq]
    have f2 : ρ.1 2 2 = (j : Int) := by rw [hρ2, pf_eq]
    have f4 : ρ.1 2 4 = 0 := by rw [hρ2, pf_nk (by decide), pf_nk (by decide), pf_nk (by decide)]; exact hS.2.2.2.1
    have fr : ρ.2 = σ.2 := by rw [hρ2]; rfl
    have hf : FRs σ ρ := by
      rw [hρ2]
      exact (((FRs.refl hS.2.2.2.2).fld (by omega) (by omega)).fld (by omega) (by omega)).pos
    rw [f10]
    refine WL_ind (fun s ρ' => (ρ' = ρ ∧ ∃ i : Nat, s = (i : Int) ∧ p + 1 ≤ i ∧ i ≤ j - 1 ∧ sk isPb (σ.2 101) (j - 1) (p + 1) = sk isPb (σ.2 101) (j - 1) i) ∨ (jst e k σ none ρ' ∧ plt (σ.2 101) e (some p) = none)) (fun s ρ' => if ρ'.1 2 4 = 0 then ((j : Int) + 1 - s).toNat else 0) ?_ _ ρ (Or.inl ⟨rfl, p + 1, by omega, by omega, by omega, rfl⟩)
    rintro s ρ' hI0 K hI
    try dsimp only
    rcases hI0 with hI0 | hI0
    · obtain ⟨hρe, i, hsi, hi1, hi2, hs⟩ := hI0
      subst hsi
      rw [hρe, f10, f11, f4, fr]
      rw [hρe, f4] at hI
      refine ⟨⟨by omega, by omega⟩, ?_⟩
      by_cases c : (i : Int) < (p : Int) + 1 + ((j : Int) - 1 - ((p : Int) + 1)) ∧ (0 : Int) = 0
      · rw [if_pos c, show Int.toNat (i : Int) = i by omega]
        have hL1 := hS.2.1
        have hc := hch i (by omega)
        refine ⟨⟨by omega, by omega⟩, ?_⟩
        unfold WJ
        try dsimp only
        have hT : isPb (σ.2 101 i) = true → inR ((i : Int) + 1) ∧ K ((i : Int) + 1) ρ := by
          intro hp
          refine ⟨⟨by omega, by omega⟩, hI _ _ (Or.inl ⟨rfl, i + 1, by omega, by omega, by omega, by rw [hs, sk_go (by omega) hp]⟩) ?_⟩
          rw [if_pos f4, if_pos rfl]
          omega
        have hF : isPb (σ.2 101 i) = false → w_Reader_fail L 5 (fun σ19 => inR ((i : Int) + 1) ∧ K ((i : Int) + 1) σ19) ρ := by
          intro hp
          have hno : plt (σ.2 101) e (some p) = none := by
            rw [hpl, hs, sk_stop hp, if_neg (by omega)]
          refine sp_Reader_fail ⟨⟨by omega, by omega⟩, hI _ _ (Or.inr ⟨?_, hno⟩) ?_⟩
          · exact jst.fr hf (flt_none (hS.fr hf) hlt.2.2 (pf_self f2).symm)
          · have hz : (flt ρ 5).1 2 4 = 5 := by unfold flt; rw [if_pos f4, pf_eq]
            rw [if_neg (by rw [hz]; decide), if_pos rfl]
            omega
        generalize hcd : σ.2 101 i = cc at *
        by_cases g0 : ¬ cc = 32 ∧ ¬ cc = 10
        · rw [if_pos g0]
          refine sp_Reader_isLetter ?_
          rw [if_b1]
          by_cases g1 : isLt cc = true
          · rw [if_pos g1]
            exact hT (by simp [isPb, g1])
          · rw [if_neg g1]
            refine sp_Reader_isDigit ?_
            rw [if_b1]
            by_cases g2 : isDg cc = true
            · rw [if_pos g2]
              exact hT (by simp [isPb, g2])
            · rw [if_neg g2]
              refine ⟨fun _ => ⟨by omega, by omega⟩, ?_⟩
              have g3 := tF_neg (s := 1061) (c := cc) ⟨by omega, by omega⟩
              rw [ti_1061] at g3
              by_cases g4 : 127 < cc ∨ tF 1061 cc < 0
              · rw [if_pos g4]
                refine hF ?_
                rcases g4 with g4 | g4
                · have g5 : ¬ cc < 128 := by omega
                  simp [isPb, g0, g1, g2, g5]
                · have g5 : ¬ cc ∈ pbL := g3.mp g4
                  simp [isPb, g0, g1, g2, g5]
              · rw [if_neg g4]
                refine hT ?_
                have g5 : cc ∈ pbL := Classical.byContradiction (fun z => g4 (Or.inr (g3.mpr z)))
                have g6 : cc < 128 := by omega
                simp [isPb, g5, g6]
        · rw [if_neg g0]
          refine hT ?_
          have g1 : cc = 32 ∨ cc = 10 := by omega
          rcases g1 with g1 | g1 <;> simp [isPb, g1]
      · rw [if_neg c]
        have ei : i = j - 1 := by omega
        refine h1 p j ρ rfl ?_ hf f2
        rw [hpl, hs, ei, sk_end (Nat.le_refl _), if_pos rfl]
    · have hb := hI0.1
      have r1 := hb.1.2.2.2 10 (by omega) (by omega)
      have r2 := hb.1.2.2.2 11 (by omega) (by omega)
      refine ⟨⟨by omega, by omega⟩, ?_⟩
      rw [if_neg (fun z => by rw [hb.2] at z; exact absurd z.2 (by decide))]
      exact h0 hI0.2 _ hb
  · exact hbad ρ (plt_none hl) hρ _
/-- what readOutside reads; alone: the literal behind the public one may be missing -/
def outJ (T : Nat → Int) (e : Nat) (alone : Bool) (o : Option Nat) : Option Nat := match o with
  | none => none
  | some p => if mt T e p [83, 89, 83, 84, 69, 77] = true then ltl T e (spc T e (some (p + 6))) else match plt T e (spc T e (wd T e [80, 85, 66, 76, 73, 67] (some p))) with
    | none => none
    | some j => if sk isSp T e j ≠ j ∧ isQt (lk T e (sk isSp T e j)) = true then ltl T e (some (sk isSp T e j)) else if alone = true then some (sk isSp T e j) else none
theorem outJ_outs {T : Nat → Int} : outJ T e false o = outs T e o := by
  cases o with
  | none => rfl
  | some p =>
    unfold outs
    have hw : wd T e [83, 89, 83, 84, 69, 77] (some p) = if mt T e p [83, 89, 83, 84, 69, 77] = true then some (p + 6) else none := rfl
    show (if mt T e p [83, 89, 83, 84, 69, 77] = true then ltl T e (spc T e (some (p + 6))) else match plt T e (spc T e (wd T e [80, 85, 66, 76, 73, 67] (some p))) with
      | none => none
      | some j => if sk isSp T e j ≠ j ∧ isQt (lk T e (sk isSp T e j)) = true then ltl T e (some (sk isSp T e j)) else if (false : Bool) = true then some (sk isSp T e j) else none) = _
    rw [hw]
    by_cases c : mt T e p [83, 89, 83, 84, 69, 77] = true
    · rw [if_pos c, if_pos c]
    · rw [if_neg c, if_neg c]
      dsimp only
      cases hp : plt T e (spc T e (wd T e [80, 85, 66, 76, 73, 67] (some p))) with
      | none => rfl
      | some j =>
        dsimp only
        have hs : spc T e (some j) = if sk isSp T e j = j then none else some (sk isSp T e j) := rfl
        rw [hs]
        by_cases c1 : sk isSp T e j = j
        · rw [if_neg (fun z => z.1 c1), if_neg (by decide), if_pos c1]
          rfl
        · rw [if_neg c1]
          by_cases c2 : isQt (lk T e (sk isSp T e j)) = true
          · rw [if_pos ⟨c1, c2⟩]
          · rw [if_neg (fun z => c2 z.2), if_neg (by decide)]
            show none = (if isQt (lk T e (sk isSp T e j)) = true then _ else none)
            rw [if_neg c2]
end JOut
