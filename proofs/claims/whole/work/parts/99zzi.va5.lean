/-! ===== counts, marks and stamp change: the rest is as it was ===== -/
section VCs
variable {L : Nat → Nat} {σ τ υ : IS}
theorem VC.refl (hm : ∀ w, σ.2 155 w ≤ σ.1 1 16) : VC σ σ := ⟨fun _ _ _ => rfl, fun _ _ _ => rfl, Int.le_refl _, hm⟩
theorem VC.trans (h1 : VC σ τ) (h2 : VC τ υ) : VC σ υ := ⟨fun o k y => (h2.1 o k y).trans (h1.1 o k y), fun r y1 y2 => (h2.2.1 r y1 y2).trans (h1.2.1 r y1 y2), Int.le_trans h1.2.2.1 h2.2.2.1, h2.2.2.2⟩
theorem VC.prE {k : Nat} {x : Int} (h : VC σ τ) : VC σ (pr τ 149 k x) := ⟨h.1, fun r y1 y2 => by
  rw [← h.2.1 r y1 y2]
  funext j
  rw [pr_2, if_neg (fun z => y1 z.1)], h.2.2.1, fun w => by
  rw [pr_2, if_neg (by omega)]
  exact h.2.2.2 w⟩
theorem VC.jwE (h : VC σ τ) : jw τ = jw σ := by unfold jw; rw [h.1 1 14 (by omega)]
theorem VC.wstE (h : VC σ τ) (w : Nat) : wst τ w = wst σ w := by
  unfold wst wfr wsz
  rw [h.2.1 101 (by decide) (by decide), h.2.1 102 (by decide) (by decide), h.2.1 103 (by decide) (by decide)]
theorem VC.si (h : VC σ τ) (hS : SI L σ) : SI L τ := (SI_of hS (σ' := τ) (h.1 1 14 (by omega)) (by rw [h.1 1 3 (by omega)]; have := hS.1; omega) (fun r y1 y2 => h.2.1 r (by omega) (by omega)) (fun i _ => by rw [h.2.1 101 (by decide) (by decide)])).1
theorem VC.jn {x : Int} {s : Str} (h : VC σ τ) (hj : Jn σ x s) : Jn τ x s := by
  obtain ⟨w, h1, h2, h3⟩ := hj
  exact ⟨w, h1, by rw [h.jwE]; exact h2, by rw [h.wstE]; exact h3⟩
end VCs
