/-! ===== the class's reader: SYSTEM and PUBLIC ===== -/
section JOut2
variable {L : Nat → Nat} {σ τ : IS} {e k : Nat} {o : Option Nat}
theorem FRs.trans {σ ρ τ : IS} (h1 : FRs σ ρ) (h2 : FRs ρ τ) : FRs σ τ := ⟨h2.1.trans h1.1, fun o j hj => (h2.2.1 o j hj).trans (h1.2.1 o j hj), h2.2.2⟩
/-- a literal behind some place, for a state that is known but for what was read last -/
theorem j_litEnd {Q : IS → Prop} (hS : JS L σ e) (hk : k ≤ 50) {ρ : IS} (h : jst e k σ o ρ)
    (h1 : ∀ j τ', ltl (σ.2 101) e o = some j → FRs σ τ' → τ'.1 2 2 = (j : Int) → Q τ') (h0 : ltl (σ.2 101) e o = none → ∀ τ', jst e k σ none τ' → Q τ') : w_Reader_readLiteral L Q ρ := by
  have he : e < 1000000 := by have := hS.2.1; have := hS.2.2.1; omega
  refine j_readLiteral hS hk h (fun p j ho hl τ' hτ => ?_) h0
  have hlt := ltl_lt hl
  refine h1 j τ' (by rw [ho]; exact hl) ?_ (by rw [hτ.2, pf_eq])
  rw [hτ.2]
  exact (((FRs.refl hS.2.2.2.2).fld (by omega) (by omega)).fld (by omega) (by omega)).pos
set_option maxRecDepth 10000 in
theorem j_readOutside {Q : IS → Prop} (hS : JS L σ e) (hk : k ≤ 50) (hch : jch L σ) (alone : Bool) {a1 : Int} (ha : a1 = b1 alone) (h : jst e k σ o τ)
    (h1 : ∀ j τ', outJ (σ.2 101) e alone o = some j → FRs σ τ' → τ'.1 2 2 = (j : Int) → Q τ') (h0 : outJ (σ.2 101) e alone o = none → ∀ τ', jst e k σ none τ' → Q τ') : w_Reader_readOutside L a1 Q τ := by
  have he : e < 1000000 := by have := hS.2.1; have := hS.2.2.1; omega
  unfold w_Reader_readOutside
  -- behind a public literal, in a bad state
  have hbt : outJ (σ.2 101) e alone o = none → ∀ ρ, jst e k σ none ρ → w_Reader_skipSpace L (fun v11 σ10 => WJ (fun (s14 : Unit) (σ15 : IS) => Q σ15) (fun J12 => WJ (fun (s18 : Unit) (σ19 : IS) => if a1 = 0 then w_Reader_fail L 5 (fun σ21 => J12 () σ21) σ19 else J12 () σ19) (fun J16 => if v11 = 0 then J16 () σ10 else w_Reader_atQuote L (fun v25 σ24 => if v25 = 0 then J16 () σ24 else w_Reader_readLiteral L (fun σ27 => J12 () σ27) σ24) σ10))) ρ := by
    intro hno ρ hρ
    have hend : ∀ ρ', jst e k σ none ρ' → (if a1 = 0 then w_Reader_fail L 5 (fun σ21 => Q σ21) ρ' else Q ρ') := by
      intro ρ' hρ'
      split
      · exact j_fail hS hρ' (fun τ' hτ => h0 hno τ' hτ)
      · exact h0 hno ρ' hρ'
    refine j_skipSpace hS hk hρ (fun v ρ1 hρ1 _ _ => ?_)
    unfold WJ
    try dsimp only
    split
    · exact hend ρ1 hρ1
    · obtain ⟨q, hj, hqk⟩ := hρ1.1.jt hS hk
      refine sp_Reader_atQuote hj ?_
      split
      · exact hend ρ1 hρ1
      · exact j_litEnd hS hk hρ1 (fun j τ' hl => by cases hl) (fun _ τ' hτ => h0 hno τ' hτ)
  refine j_skip hS hk ti_1062 (by decide) h (fun v τ1 hτ1 _ hv => ?_)
  cases o with
  | none =>
    have hno : outJ (σ.2 101) e alone none = none := rfl
    split
    · refine j_need hS hk ti_1063 (by decide) hτ1 (fun τ2 hτ2 => j_needSpace hS hk hτ2 (fun τ3 hτ3 => ?_))
      exact j_readPublicLiteral hS hk hch hτ3 (fun p j τ' ho => by cases ho) (fun _ τ4 hτ4 => hbt hno τ4 hτ4)
    · refine j_needSpace hS hk hτ1 (fun τ2 hτ2 => j_litEnd hS hk hτ2 (fun j τ' hl => by cases hl) (fun _ τ' hτ => h0 hno τ' hτ))
  | some p =>
    have hv' := hv p rfl
    have hsk : skp (σ.2 101) e [83, 89, 83, 84, 69, 77] (some p) = if mt (σ.2 101) e p [83, 89, 83, 84, 69, 77] = true then some (p + 6) else some p := rfl
    have hdef : outJ (σ.2 101) e alone (some p) = (if mt (σ.2 101) e p [83, 89, 83, 84, 69, 77] = true then ltl (σ.2 101) e (spc (σ.2 101) e (some (p + 6))) else match plt (σ.2 101) e (spc (σ.2 101) e (wd (σ.2 101) e [80, 85, 66, 76, 73, 67] (some p))) with
      | none => none
      | some j => if sk isSp (σ.2 101) e j ≠ j ∧ isQt (lk (σ.2 101) e (sk isSp (σ.2 101) e j)) = true then ltl (σ.2 101) e (some (sk isSp (σ.2 101) e j)) else if alone = true then some (sk isSp (σ.2 101) e j) else none) := rfl
    rw [hv', if_b1]
    by_cases c : mt (σ.2 101) e p [83, 89, 83, 84, 69, 77] = true
    · rw [if_pos c]
      rw [hsk, if_pos c] at hτ1
      rw [if_pos c] at hdef
      exact j_needSpace hS hk hτ1 (fun τ2 hτ2 => j_litEnd hS hk hτ2 (fun j τ' hl hf hp => h1 j τ' (by rw [hdef]; exact hl) hf hp) (fun hl τ' hτ => h0 (by rw [hdef]; exact hl) τ' hτ))
    · rw [if_neg c]
      rw [hsk, if_neg c] at hτ1
      rw [if_neg c] at hdef
      refine j_need hS hk ti_1063 (by decide) hτ1 (fun τ2 hτ2 => j_needSpace hS hk hτ2 (fun τ3 hτ3 => ?_))
      refine j_readPublicLiteral hS hk hch hτ3 (fun q j ρ ho hpl hf hpos => ?_) (fun hpl ρ hρ => ?_)
      · rw [ho, hpl] at hdef
        dsimp only at hdef
        have hje : j ≤ e := plt_le (T := σ.2 101) (o := some q) j hpl
        have hSρ := hS.fr hf
        have hsl := sk_le (p := isSp) (T := σ.2 101) hje
        refine j_skipSpace (k := k) hSρ hk (o := some j) ⟨hje, (pf_self hpos).symm⟩ (fun v2 ρ1 hρ1 _ hv2 => ?_)
        have hv2' := hv2 j rfl
        rw [hf.1] at hv2' hρ1
        have hρ1e : ρ1 = pf ρ 2 2 ((sk isSp (σ.2 101) e j : Nat) : Int) := hρ1.2
        have hend : ∀ w : Int, outJ (σ.2 101) e alone (some p) = (if alone = true then some (sk isSp (σ.2 101) e j) else none) → (if a1 = 0 then w_Reader_fail L 5 (fun σ21 => Q σ21) ρ1 else Q ρ1) := by
          intro _ hd
          cases alone with
          | false =>
            rw [if_pos (by rw [ha]; rfl)]
            exact j_fail hSρ hρ1 (fun τ' hτ => h0 (by rw [hd]; rfl) τ' (jst.fr hf hτ))
          | true =>
            rw [if_neg (by rw [ha]; decide)]
            exact h1 _ ρ1 (by rw [hd]; rfl) (by rw [hρ1e]; exact hf.pos) (by rw [hρ1e, pf_eq])
        unfold WJ
        try dsimp only
        rw [hv2']
        by_cases c1 : sk isSp (σ.2 101) e j = j
        · rw [if_pos c1, if_pos rfl]
          rw [if_neg (fun z => z.1 c1)] at hdef
          exact hend 0 hdef
        · rw [if_neg c1, if_neg (by decide)]
          have hj1 : JT L ρ1 e (sk isSp (σ.2 101) e j) := hSρ.jt hsl.2 hρ1e
          refine sp_Reader_atQuote hj1 ?_
          have hρr : ρ1.2 = σ.2 := by rw [hρ1e]; exact hf.1
          rw [if_b1, hρr]
          by_cases c2 : isQt (lk (σ.2 101) e (sk isSp (σ.2 101) e j)) = true
          · rw [if_pos c2]
            rw [if_pos ⟨c1, c2⟩] at hdef
            refine j_litEnd hSρ hk hρ1 (fun j2 τ' hl hf2 hp2 => ?_) (fun hl τ' hτ => ?_)
            · rw [hf.1] at hl
              exact h1 j2 τ' (by rw [hdef]; exact hl) (hf.trans hf2) hp2
            · rw [hf.1] at hl
              exact h0 (by rw [hdef]; exact hl) τ' (jst.fr hf hτ)
          · rw [if_neg c2]
            rw [if_neg (fun z => c2 z.2)] at hdef
            exact hend 0 hdef
      · rw [hpl] at hdef
        exact hbt hdef ρ hρ
end JOut2
