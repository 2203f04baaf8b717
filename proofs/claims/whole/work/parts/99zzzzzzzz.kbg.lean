/-! ===== the reference begins a text ===== -/
/-- as it begins: nothing was read -/
def KB (rm nd o : Nat) (σ : IS) : Prop := (σ.1 16 2 = (o : Int) ∧ σ.1 16 0 = (rm : Int) ∧ σ.1 16 1 = (nd : Int)) ∧ σ.1 16 3 = 0 ∧ (∀ k, k = 14 ∨ k = 15 ∨ k = 19 ∨ k = 20 ∨ k = 21 ∨ k = 22 ∨ k = 26 ∨ k = 32 ∨ k = 34 ∨ k = 40 ∨ k = 47 ∨ k = 56 ∨ k = 58 ∨ k = 64 ∨ k = 66 → σ.1 16 k = 0) ∧ (∀ k, k = 2 ∨ k = 7 ∨ k = 14 ∨ k = 16 ∨ k = 20 → σ.1 o k = 0) ∧ σ.1 o 17 = -1 ∧ (∀ k, k < 23 → σ.2 (rfo o 18) k = 0) ∧ ∀ k, k < 6 → σ.2 (rfo o 19) k = 0
/-- the strings -/
def KBk (σ : IS) (bk : List Str) : Prop := (BK σ ∧ σ.1 13 6 = (bk.length : Int) ∧ σ.1 13 1 = ((bk.map List.length).sum : Int) ∧ ∀ i, i < bk.length → bstr σ i = bk.getD i []) ∧ bk.Nodup
section Kbg
variable {L : Nat → Nat} {rm nd o : Nat} {σ : IS} {bk : List Str} {Q : IS → Prop} {R : Int → IS → Prop}
theorem KBk.dep {τ : IS} (h : KBk σ bk) (hf : τ.1 13 1 = σ.1 13 1 ∧ τ.1 13 6 = σ.1 13 6) (hr : ∀ r, 211 ≤ r → r ≤ 215 → τ.2 r = σ.2 r) : KBk τ bk := by
  obtain ⟨⟨h1, h2, h3, h4⟩, h5⟩ := h
  have eb : ∀ s, bstr τ s = bstr σ s := fun s => by unfold bstr bst bln; rw [hr 212 (by omega) (by omega), hr 213 (by omega) (by omega), hr 214 (by omega) (by omega)]
  refine ⟨⟨?_, by rw [hf.2]; exact h2, by rw [hf.1]; exact h3, fun i hi => by rw [eb]; exact h4 i hi⟩, h5⟩
  unfold BK at h1 ⊢
  rw [hf.1, hf.2, hr 211 (by omega) (by omega), hr 213 (by omega) (by omega), hr 214 (by omega) (by omega), hr 215 (by omega) (by omega)]
  simp only [eb]
  exact h1
theorem sp_K_bclear (hl : BL L) (hq : ∀ ρ, KBk ρ [] → (∀ p k, ¬ (p = 13 ∧ (k = 1 ∨ k = 6)) → ρ.1 p k = σ.1 p k) → (∀ r, r ≠ 211 → ρ.2 r = σ.2 r) → Q ρ) : w_KBook_clear L Q σ := by
  unfold w_KBook_clear
  obtain ⟨M, hM⟩ : ∃ M : Nat, M = 8192 := ⟨_, rfl⟩
  refine WL_ind (fun s ρ => ∃ k : Nat, s = (k : Int) ∧ k ≤ M ∧ ρ.1 = (pf (pf σ 13 1 0) 13 6 0).1 ∧ (∀ r, r ≠ 211 → ρ.2 r = σ.2 r) ∧ ∀ j, j < k → ρ.2 211 j = -1) (fun s _ => ((M : Int) - s).toNat) ?_ _ _ ⟨0, rfl, by omega, rfl, fun _ _ => rfl, fun j hj => absurd hj (Nat.not_lt_zero _)⟩
  rintro s ρ ⟨k, rfl, hk, hf, hr, hz⟩ K hI
  try dsimp only
  have h211 := hl.1
  cases Nat.lt_or_ge k M with
  | inl c =>
    rw [if_pos (by omega), show Int.toNat (k : Int) = k from rfl]
    refine ⟨⟨by omega, by omega⟩, ⟨by omega, by omega⟩, hI _ _ ⟨k + 1, by omega, by omega, hf, fun r hr' => ?_, fun j hj => ?_⟩ (by omega)⟩
    · funext x
      rw [pr_2, if_neg (fun z => hr' z.1)]
      exact congrFun (hr r hr') x
    · rw [pr_2]
      by_cases cj : j = k
      · rw [if_pos ⟨rfl, cj⟩]
      · rw [if_neg (fun z => cj z.2)]; exact hz j (by omega)
  | inr c =>
    rw [if_neg (by omega)]
    have e6 : ρ.1 13 6 = 0 := by rw [hf, pf_eq]
    have e1 : ρ.1 13 1 = 0 := by rw [hf, pf_nk (by decide), pf_eq]
    have hBK : BK ρ := by
      unfold BK
      refine ⟨by omega, ?_, ?_, ?_, ?_⟩
      · intro s hs
        rw [e6] at hs
        exact absurd hs (by omega)
      · intro b hb
        rw [hz b (by omega), e6]
        exact ⟨Int.le_refl _, by decide⟩
      · intro s t hs
        rw [e6] at hs
        exact absurd hs (by omega)
      · intro s hs
        rw [e6] at hs
        exact absurd hs (by omega)
    refine hq ρ ⟨⟨hBK, e6, e1, fun i hi => absurd hi (Nat.not_lt_zero _)⟩, List.nodup_nil⟩ (fun p k' z => ?_) hr
    · rw [hf, pf_1, if_neg (fun y => z ⟨y.1, Or.inr y.2⟩), pf_1, if_neg (fun y => z ⟨y.1, Or.inl y.2⟩)]
/-- a document is cleared -/
theorem sp_K_dclear (ho : o = 14 ∨ o = 15) (hl : BL L) (h18 : L (rfo o 18) = 23) (h19 : L (rfo o 19) = 6) (hb : σ.1 o 22 ≠ 0 → KBk σ bk)
    (hq : ∀ ρ bk', ((σ.1 o 22 = 0 ∧ bk' = []) ∨ (σ.1 o 22 ≠ 0 ∧ bk' = bk)) → KBk ρ bk' → (∀ k, k = 2 ∨ k = 7 ∨ k = 14 ∨ k = 16 ∨ k = 20 → ρ.1 o k = 0) → ρ.1 o 17 = -1 → (∀ k, k < 23 → ρ.2 (rfo o 18) k = 0) → (∀ k, k < 6 → ρ.2 (rfo o 19) k = 0) → (∀ p k, ¬ (p = 13 ∧ (k = 1 ∨ k = 6)) → ¬ (p = o ∧ (k = 2 ∨ k = 7 ∨ k = 14 ∨ k = 16 ∨ k = 17 ∨ k = 20 ∨ k = 21)) → ρ.1 p k = σ.1 p k) → (∀ r, r ≠ 211 → r ≠ rfo o 18 → r ≠ rfo o 19 → ρ.2 r = σ.2 r) → Q ρ) : w_KDoc_clear L o Q σ := by
  have r1 := rf_1 ho
  unfold w_KDoc_clear
  refine WJ_of (fun _ ρ => ∃ bk', ((σ.1 o 22 = 0 ∧ bk' = []) ∨ (σ.1 o 22 ≠ 0 ∧ bk' = bk)) ∧ KBk ρ bk' ∧ (∀ p k, ¬ (p = 13 ∧ (k = 1 ∨ k = 6)) → ρ.1 p k = σ.1 p k) ∧ (∀ r, r ≠ 211 → ρ.2 r = σ.2 r)) (fun J hJ => ?_) ?_
  · by_cases c : σ.1 o 22 = 0
    · rw [if_pos c]
      exact sp_K_bclear hl (fun ρ y1 y2 y3 => hJ _ _ ⟨[], Or.inl ⟨c, rfl⟩, y1, y2, y3⟩)
    · rw [if_neg c]
      exact hJ _ _ ⟨bk, Or.inr ⟨c, rfl⟩, hb c, fun _ _ _ => rfl, fun _ _ => rfl⟩
  · rintro _ ρ0 ⟨bk', hcs, hbk, hf0, hr0⟩
    try dsimp only
    generalize hρ1 : pf (pf (pf (pf (pf (pf (pf ρ0 o 2 0) o 7 0) o 14 0) o 16 0) o 17 (-1)) o 20 0) o 21 0 = ρ1
    have g1 : ∀ p k, ρ1.1 p k = if p = o ∧ (k = 2 ∨ k = 7 ∨ k = 14 ∨ k = 16 ∨ k = 20 ∨ k = 21) then 0 else if p = o ∧ k = 17 then -1 else ρ0.1 p k := by
      intro p k
      rw [← hρ1, pf_1, pf_1, pf_1, pf_1, pf_1, pf_1, pf_1]
      by_cases cp : p = o
      · by_cases k21 : k = 21
        · rw [if_pos ⟨cp, k21⟩, if_pos ⟨cp, by omega⟩]
        · rw [if_neg (fun z => k21 z.2)]
          by_cases k20 : k = 20
          · rw [if_pos ⟨cp, k20⟩, if_pos ⟨cp, by omega⟩]
          · rw [if_neg (fun z => k20 z.2)]
            by_cases k17 : k = 17
            · rw [if_pos ⟨cp, k17⟩, if_neg (by omega), if_pos ⟨cp, k17⟩]
            · rw [if_neg (fun z => k17 z.2)]
              by_cases k16 : k = 16
              · rw [if_pos ⟨cp, k16⟩, if_pos ⟨cp, by omega⟩]
              · rw [if_neg (fun z => k16 z.2)]
                by_cases k14 : k = 14
                · rw [if_pos ⟨cp, k14⟩, if_pos ⟨cp, by omega⟩]
                · rw [if_neg (fun z => k14 z.2)]
                  by_cases k7 : k = 7
                  · rw [if_pos ⟨cp, k7⟩, if_pos ⟨cp, by omega⟩]
                  · rw [if_neg (fun z => k7 z.2)]
                    by_cases k2 : k = 2
                    · rw [if_pos ⟨cp, k2⟩, if_pos ⟨cp, by omega⟩]
                    · rw [if_neg (fun z => k2 z.2), if_neg (by omega), if_neg (fun z => k17 z.2)]
      · rw [if_neg (fun z => cp z.1), if_neg (fun z => cp z.1), if_neg (fun z => cp z.1), if_neg (fun z => cp z.1), if_neg (fun z => cp z.1), if_neg (fun z => cp z.1), if_neg (fun z => cp z.1), if_neg (fun z => cp z.1), if_neg (fun z => cp z.1)]
    have g2 : ρ1.2 = ρ0.2 := by rw [← hρ1]; rfl
    refine WL_ind (fun s ρ => ∃ k : Nat, s = (k : Int) ∧ k ≤ 23 ∧ ρ.1 = ρ1.1 ∧ (∀ r, r ≠ rfo o 18 → ρ.2 r = ρ1.2 r) ∧ ∀ j, j < k → ρ.2 (rfo o 18) j = 0) (fun s _ => (23 - s).toNat) ?_ _ _ ⟨0, rfl, by omega, rfl, fun _ _ => rfl, fun j hj => absurd hj (Nat.not_lt_zero _)⟩
    rintro s ρ ⟨k, rfl, hk, hf, hr, hz⟩ K hI
    try dsimp only
    by_cases c : k < 23
    · rw [if_pos (by omega), show Int.toNat (k : Int) = k from rfl]
      refine ⟨⟨by omega, by omega⟩, ⟨by omega, by omega⟩, hI _ _ ⟨k + 1, by omega, by omega, hf, fun r hr' => ?_, fun j hj => ?_⟩ (by omega)⟩
      · funext x
        rw [pr_2, if_neg (fun z => hr' z.1)]
        exact congrFun (hr r hr') x
      · rw [pr_2]
        by_cases cj : j = k
        · rw [if_pos ⟨rfl, cj⟩]
        · rw [if_neg (fun z => cj z.2)]; exact hz j (by omega)
    · rw [if_neg (by omega)]
      refine WL_ind (fun s τ => ∃ k : Nat, s = (k : Int) ∧ k ≤ 6 ∧ τ.1 = ρ.1 ∧ (∀ r, r ≠ rfo o 19 → τ.2 r = ρ.2 r) ∧ ∀ j, j < k → τ.2 (rfo o 19) j = 0) (fun s _ => (6 - s).toNat) ?_ _ _ ⟨0, rfl, by omega, rfl, fun _ _ => rfl, fun j hj => absurd hj (Nat.not_lt_zero _)⟩
      rintro s τ ⟨k', rfl, hk', hf', hr', hz'⟩ K' hI'
      try dsimp only
      by_cases c' : k' < 6
      · rw [if_pos (by omega), show Int.toNat (k' : Int) = k' from rfl]
        refine ⟨⟨by omega, by omega⟩, ⟨by omega, by omega⟩, hI' _ _ ⟨k' + 1, by omega, by omega, hf', fun r hr'' => ?_, fun j hj => ?_⟩ (by omega)⟩
        · funext x
          rw [pr_2, if_neg (fun z => hr'' z.1)]
          exact congrFun (hr' r hr'') x
        · rw [pr_2]
          by_cases cj : j = k'
          · rw [if_pos ⟨rfl, cj⟩]
          · rw [if_neg (fun z => cj z.2)]; exact hz' j (by omega)
      · rw [if_neg (by omega)]
        have hfr : ∀ p k, τ.1 p k = ρ1.1 p k := fun p k => by rw [hf', hf]
        refine hq τ bk' hcs (hbk.dep ⟨by rw [hfr, g1, if_neg (by omega), if_neg (by omega)], by rw [hfr, g1, if_neg (by omega), if_neg (by omega)]⟩ (fun r y1 y2 => by rw [hr' r (by omega), hr r (by omega), g2])) (fun k y => by rw [hfr, g1, if_pos ⟨rfl, by omega⟩]) (by rw [hfr, g1, if_neg (by omega), if_pos ⟨rfl, rfl⟩]) (fun k y => by rw [hr' _ (by omega)]; exact hz k (by omega)) (fun k y => hz' k (by omega)) (fun p k y1 y2 => ?_) (fun r y1 y2 y3 => by rw [hr' r y3, hr r y2, g2, hr0 r y1])
        rw [hfr, g1, if_neg (fun z => y2 ⟨z.1, by omega⟩), if_neg (fun z => y2 ⟨z.1, by omega⟩)]
        exact hf0 p k y1
/-- and the reader with it -/
theorem sp_K_begin (ho : o = 14 ∨ o = 15) (hl : BL L) (h18 : L (rfo o 18) = 23) (h19 : L (rfo o 19) = 6) (hb : σ.1 o 22 ≠ 0 → KBk σ bk)
    (hq : ∀ ρ bk', ((σ.1 o 22 = 0 ∧ bk' = []) ∨ (σ.1 o 22 ≠ 0 ∧ bk' = bk)) → KBk ρ bk' → KB rm nd o ρ → ρ.1 16 6 = 0 → ρ.1 16 4 = -1 → (∀ p k, p ≠ 13 → p ≠ 16 → p ≠ o → ρ.1 p k = σ.1 p k) → (∀ k, k = 7 ∨ k = 8 → ρ.1 16 k = σ.1 16 k) → (∀ k, k = 22 → ρ.1 o k = σ.1 o k) → (∀ r, r ≠ 211 → r ≠ rfo o 18 → r ≠ rfo o 19 → ρ.2 r = σ.2 r) → Q ρ) : w_KReader_begin L o (rm : Int) (nd : Int) Q σ := by
  unfold w_KReader_begin
  refine ⟨by unfold dyD; rcases ho with y | y <;> rw [y] <;> decide, ?_⟩
  rw [show Int.toNat ((o : Nat) : Int) = o from rfl]
  generalize hσ0 : pf (pf (pf σ 16 2 ((o : Nat) : Int)) 16 0 (rm : Int)) 16 1 (nd : Int) = σ0
  have s1 : ∀ p k, ¬ (p = 16 ∧ (k = 0 ∨ k = 1 ∨ k = 2)) → σ0.1 p k = σ.1 p k := fun p k z => by
    rw [← hσ0, pf_1, if_neg (fun y => z ⟨y.1, by omega⟩), pf_1, if_neg (fun y => z ⟨y.1, by omega⟩), pf_1, if_neg (fun y => z ⟨y.1, by omega⟩)]
  have s2 : σ0.2 = σ.2 := by rw [← hσ0]; rfl
  have t2 : σ0.1 16 2 = (o : Int) := by rw [← hσ0, pf_nk (by decide), pf_nk (by decide), pf_eq]
  have t0 : σ0.1 16 0 = (rm : Int) := by rw [← hσ0, pf_nk (by decide), pf_eq]
  have t1 : σ0.1 16 1 = (nd : Int) := by rw [← hσ0, pf_eq]
  refine sp_K_dclear (bk := bk) ho hl h18 h19 (fun c => (hb (by rw [s1 o 22 (by omega)] at c; exact c)).dep ⟨s1 13 1 (by omega), s1 13 6 (by omega)⟩ (fun r _ _ => by rw [s2])) (fun ρ bk' y1 y2 y3 y4 y5 y6 y7 y8 => ?_)
  rw [s1 o 22 (by omega)] at y1
  generalize hρ : pf (pf (pf (pf (pf (pf (pf (pf (pf (pf (pf (pf (pf (pf (pf (pf (pf (pf (pf (pf ρ 16 3 0) 16 4 (-1)) 16 6 0) 16 14 0) 16 15 0) 16 19 0) 16 20 0) 16 21 0) 16 22 0) 16 23 0) 16 24 (-1)) 16 26 0) 16 32 0) 16 34 0) 16 40 0) 16 47 0) 16 56 0) 16 58 0) 16 64 0) 16 66 0 = τ
  have w1 : ∀ p k, ¬ (p = 16 ∧ (k = 3 ∨ k = 4 ∨ k = 6 ∨ k = 14 ∨ k = 15 ∨ k = 19 ∨ k = 20 ∨ k = 21 ∨ k = 22 ∨ k = 23 ∨ k = 24 ∨ k = 26 ∨ k = 32 ∨ k = 34 ∨ k = 40 ∨ k = 47 ∨ k = 56 ∨ k = 58 ∨ k = 64 ∨ k = 66)) → τ.1 p k = ρ.1 p k := fun p k z => by
    rw [← hρ]
    iterate 20 rw [pf_1, if_neg (fun y => z ⟨y.1, by omega⟩)]
  have w2 : τ.2 = ρ.2 := by rw [← hρ]; rfl
  have w3 : ∀ k, (k = 3 ∨ k = 6 ∨ k = 14 ∨ k = 15 ∨ k = 19 ∨ k = 20 ∨ k = 21 ∨ k = 22 ∨ k = 23 ∨ k = 26 ∨ k = 32 ∨ k = 34 ∨ k = 40 ∨ k = 47 ∨ k = 56 ∨ k = 58 ∨ k = 64 ∨ k = 66) → τ.1 16 k = 0 := fun k z => by
    rw [← hρ]
    rcases z with z | z | z | z | z | z | z | z | z | z | z | z | z | z | z | z | z | z <;> subst z <;> rfl
  have w4 : τ.1 16 4 = -1 := by rw [← hρ]; rfl
  refine hq τ bk' y1 (y2.dep ⟨w1 13 1 (by omega), w1 13 6 (by omega)⟩ (fun r _ _ => by rw [w2])) ⟨⟨?_, ?_, ?_⟩, w3 3 (by omega), fun k z => w3 k (by omega), fun k z => ?_, ?_, fun k z => ?_, fun k z => ?_⟩ (w3 6 (by omega)) w4 (fun p k z1 z2 z3 => ?_) (fun k z => ?_) (fun k z => ?_) (fun r z1 z2 z3 => ?_)
  · rw [w1 16 2 (by omega), y7 16 2 (by omega) (by omega)]; exact t2
  · rw [w1 16 0 (by omega), y7 16 0 (by omega) (by omega)]; exact t0
  · rw [w1 16 1 (by omega), y7 16 1 (by omega) (by omega)]; exact t1
  · rw [w1 o k (by omega)]; exact y3 k z
  · rw [w1 o 17 (by omega)]; exact y4
  · rw [w2]; exact y5 k z
  · rw [w2]; exact y6 k z
  · rw [w1 p k (by omega), y7 p k (by omega) (by omega), s1 p k (by omega)]
  · rw [w1 16 k (by omega), y7 16 k (by omega) (by omega), s1 16 k (by omega)]
  · rw [w1 o k (by omega), y7 o k (by omega) (by omega), s1 o k (by omega)]
  · rw [w2, y8 r z1 z2 z3, s2]
end Kbg
