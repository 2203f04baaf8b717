/-! ===== the class forgets ===== -/
section JFg
variable {L : Nat → Nat} {rm nd : Nat} {σ : IS} {Q : IS → Prop}
theorem sp_Store_forget (hI : SI L σ) (hl : SL L) (h12 : σ.1 1 12 = 19) (h19 : 19 ≤ jw σ) (hbg : 0 ≤ σ.1 1 2 ∧ σ.1 1 2 ≤ σ.1 1 3) (hw : ∀ i, i < 19 → σ.2 102 i + σ.2 103 i ≤ σ.1 1 2)
    (hq : ∀ σ', (∀ o k, ¬ (o = 1 ∧ (k = 3 ∨ k = 4 ∨ k = 6 ∨ k = 14)) → σ'.1 o k = σ.1 o k) → (∀ r, r ≠ 106 → σ'.2 r = σ.2 r) → (σ'.1 1 3 = σ.1 1 2 ∧ σ'.1 1 4 = 0 ∧ σ'.1 1 6 = 0 ∧ σ'.1 1 14 = 19) → SI L σ' → Q σ') : w_Store_forget L Q σ := by
  obtain ⟨⟨i1, i2, i3, i4⟩, i5, i6, i7⟩ := id hI
  obtain ⟨l1, l2, l3, l4, l5, l6, l7, l8⟩ := id hl
  have hjw : σ.1 1 14 = (jw σ : Int) := by unfold jw; omega
  unfold w_Store_forget
  refine ⟨⟨by omega, by omega⟩, ?_⟩
  refine WL_ind (fun z ρ => ∃ w : Nat, z = (w : Int) - 1 ∧ 19 ≤ w ∧ w ≤ jw σ ∧ ρ.1 = σ.1 ∧ (∀ r, r ≠ 106 → ρ.2 r = σ.2 r) ∧ ∀ b : Nat, b < L 106 → ρ.2 106 b = lastB (slt L σ) b w) (fun z _ => (z + 1).toNat) ?_ _ σ ⟨jw σ, by rw [hjw], h19, Nat.le_refl _, rfl, fun _ _ => rfl, fun b hb => by rw [i6 b hb]; rfl⟩
  rintro z ρ ⟨w, rfl, hw1, hw2, hf, hr, h6⟩ K hK
  try dsimp only
  rw [hf]
  by_cases c : (w : Int) - 1 < σ.1 1 12
  · rw [if_pos c]
    have hw19 : w = 19 := by omega
    subst hw19
    have g4 : ∀ o k, ¬ (o = 1 ∧ (k = 3 ∨ k = 4 ∨ k = 6 ∨ k = 14)) → (pf (pf (pf (pf ρ 1 14 (σ.1 1 12)) 1 3 (σ.1 1 2)) 1 4 0) 1 6 0).1 o k = σ.1 o k := fun o k hk => by
      rw [pf_1, if_neg (by omega), pf_1, if_neg (by omega), pf_1, if_neg (by omega), pf_1, if_neg (by omega), hf]
    have e3 : (pf (pf (pf (pf ρ 1 14 (σ.1 1 12)) 1 3 (σ.1 1 2)) 1 4 0) 1 6 0).1 1 3 = σ.1 1 2 := by rw [pf_nk (by decide), pf_nk (by decide), pf_eq]
    have e14 : (pf (pf (pf (pf ρ 1 14 (σ.1 1 12)) 1 3 (σ.1 1 2)) 1 4 0) 1 6 0).1 1 14 = 19 := by rw [pf_nk (by decide), pf_nk (by decide), pf_nk (by decide), pf_eq, h12]
    have er : ∀ r, r ≠ 106 → (pf (pf (pf (pf ρ 1 14 (σ.1 1 12)) 1 3 (σ.1 1 2)) 1 4 0) 1 6 0).2 r = σ.2 r := fun r h => hr r h
    generalize hφ : pf (pf (pf (pf ρ 1 14 (σ.1 1 12)) 1 3 (σ.1 1 2)) 1 4 0) 1 6 0 = φ at *
    have ews : ∀ v, wst φ v = wst σ v := fun v => by unfold wst wfr wsz; rw [er 101 (by decide), er 102 (by decide), er 103 (by decide)]
    have esl : slt L φ = slt L σ := by funext v; unfold slt; rw [er 104 (by decide)]
    refine hq φ g4 er ⟨e3, by rw [← hφ, pf_nk (by decide), pf_eq], by rw [← hφ, pf_eq], e14⟩ ⟨⟨by omega, by omega, by omega, by omega⟩, fun v hv => ?_, fun b hb => ?_, fun v u hv hu huv => ?_⟩
    · have h5 := i5 v (by omega)
      rw [er 102 (by decide), er 103 (by decide), er 104 (by decide), er 105 (by decide), ews, esl, e3]
      exact ⟨h5.1, h5.2.1, hw v (by omega), h5.2.2.2.1, h5.2.2.2.2⟩
    · rw [e14, esl, show ((19 : Int)).toNat = 19 from rfl, ← hφ]
      exact h6 b hb
    · rw [ews, ews] at huv
      exact i7 v u (by omega) (by omega) huv
  · rw [if_neg c]
    obtain ⟨v, rfl⟩ : ∃ v : Nat, w = v + 1 := ⟨w - 1, by omega⟩
    have hv : ((v + 1 : Nat) : Int) - 1 = (v : Int) := by omega
    rw [hv] at c ⊢
    rw [show Int.toNat (v : Int) = v by omega, hr 104 (by decide), hr 105 (by decide)]
    have hs := slt_in hl (σ.2 104 v)
    have h5 := (i5 v (by omega)).2.2.2.2
    refine ⟨⟨by omega, by omega⟩, ⟨by omega, by omega⟩, ⟨by omega, by omega⟩, ⟨hs.1, hs.2⟩, ⟨by omega, by omega⟩, ?_⟩
    refine hK _ _ ⟨v, by omega, by omega, by omega, by show ρ.1 = σ.1; exact hf, fun r h => ?_, fun b hb => ?_⟩ (by omega)
    · funext j; rw [pr_2, if_neg (fun y => h y.1)]; rw [hr r h]
    · rw [pr_2]
      have hsl : slt L σ v = ia (σ.2 104 v) ((L 106 : Int) - 1) := rfl
      by_cases cb : b = (ia (σ.2 104 v) ((L 106 : Int) - 1)).toNat
      · rw [if_pos ⟨rfl, cb⟩, h5, hsl]
        congr 1
        omega
      · rw [if_neg (fun y => cb y.2), h6 b hb]
        show (if slt L σ v = (b : Int) then (v : Int) else lastB (slt L σ) b v) = _
        rw [if_neg (fun y => cb (by rw [← hsl, y]; omega))]
end JFg
