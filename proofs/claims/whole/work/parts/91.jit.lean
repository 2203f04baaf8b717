/-! ===== the class goes on by items ===== -/
def rem (a : AS) : Nat := ((aF a).map (fun f => f.1.length)).sum
/-- a state with a fault -/
def JBd (L : Nat → Nat) (rm nd : Nat) (σ : IS) (f : Nat) (pl : Int) : Prop := JZ L rm nd σ ∧ σ.1 2 4 = (f : Int) ∧ f ≠ 0 ∧ σ.1 2 5 = pl ∧ ∀ r, r = 114 ∨ r = 115 ∨ r = 125 ∨ r = 126 ∨ r = 127 → ∀ w, jw σ ≤ w → w < L 155 → σ.2 r w = 0
section JIt
variable {L : Nat → Nat} {rm nd : Nat} {σ τ : IS} {a : AS}
theorem RJ.at (hln : JLn L rm nd) (h : RJ L rm nd σ a) : ∃ (p : Nat) (g : Nat × Nat) (t : List Frm), aF a = (cur a, g) :: t ∧ σ.1 2 2 = (p : Int) ∧ JS L σ (p + (cur a).length) ∧ SHT (gd (cur a)) (σ.2 101) (cur a).length p ∧ p + (cur a).length ≤ jtp σ ∧ jp (p + (cur a).length) 0 σ (some p) σ := by
  obtain ⟨hZ, hF, -, -, -, -, -, -, -, -, -, h4, -⟩ := h
  have hl := hF.2.1
  cases hf : aF a with
  | nil => rw [hf] at hl; simp at hl
  | cons f t =>
    obtain ⟨l, g⟩ := f
    have hc : cur a = l := by unfold cur; rw [hf]
    rw [hf] at hF
    obtain ⟨p, hjt, has, hp⟩ := hF.jt hln hZ
    rw [hc]
    have hJS : JS L σ (p + l.length) := ⟨hjt.2.1, hjt.2.2.1, hjt.2.2.2.1, h4, hZ.2.2.2.2.2.1⟩
    exact ⟨p, g, t, rfl, hjt.1, hJS, sht_sl has, hp, jp.start' hJS (by omega) hjt.1⟩
theorem adv_F {g : Nat × Nat} {t : List Frm} {k : Nat} (h : aF a = (cur a, g) :: t) : adv a k = sF a (((cur a).drop k, g) :: t) := by
  unfold adv
  rw [h]
theorem adv_bsy {k : Nat} : bsy (adv a k) = bsy a := by
  unfold bsy adv
  cases hf : aF a with
  | nil => rw [hf]
  | cons f t =>
    show ((f.1.drop k, f.2) :: t).map (fun f => f.2.1) = (f :: t).map (fun f => f.2.1)
    rfl
theorem adv_other {k : Nat} : aE (adv a k) = aE a ∧ aN (adv a k) = aN a ∧ aR (adv a k) = aR a ∧ aD (adv a k) = aD a ∧ aA (adv a k) = aA a ∧ aT (adv a k) = aT a ∧ aL (adv a k) = aL a ∧ aB (adv a k) = aB a ∧ aS (adv a k) = aS a ∧ aO (adv a k) = aO a := by
  unfold adv
  cases hf : aF a with
  | nil => exact ⟨rfl, rfl, rfl, rfl, rfl, rfl, rfl, rfl, rfl, rfl⟩
  | cons f t => exact ⟨rfl, rfl, rfl, rfl, rfl, rfl, rfl, rfl, rfl, rfl⟩
/-- the reader alone went on -/
theorem RJ.go {k : Nat} (hln : JLn L rm nd) (h : RJ L rm nd σ a) (hk : k ≤ (cur a).length) (hτ : ∀ o j, ¬ (o = 2 ∧ (j = 2 ∨ (7 ≤ j ∧ j ≤ 11))) → ¬ (o = 1 ∧ j = 13) → τ.1 o j = σ.1 o j) (hr : τ.2 = σ.2) (hp : τ.1 2 2 = σ.1 2 2 + (k : Int)) (hg : rng τ) : RJ L rm nd τ (adv a k) ∧ sgr σ τ := by
  obtain ⟨p, g, t, hF, -⟩ := h.at hln
  obtain ⟨hZ, h1, h2, h3, h4, h5, h6, h7, h8, h9, h10, h11, h12⟩ := h
  have hS := SI_of hZ.1 (σ' := τ) (hτ 1 14 (by omega) (by omega)) (by rw [hτ 1 3 (by omega) (by omega)]; have := hZ.1.1; omega) (fun r _ _ => by rw [hr]) (fun i _ => by rw [hr])
  have hag : ∀ (F : Nat → Nat → Bool) (R : Nat → Bool), (∀ o j, F o j = true → ¬ (o = 2 ∧ (j = 2 ∨ (7 ≤ j ∧ j ≤ 11))) ∧ ¬ (o = 1 ∧ j = 13)) → ag F R σ τ := fun F R hFF => ⟨fun o j hj => hτ o j (hFF o j hj).1 (hFF o j hj).2, fun r _ => by rw [hr]⟩
  have hZ' : JZ L rm nd τ := hZ.dep hS.1 hS.2 (jch_row hZ.2.1 (by rw [hr])) hg (hag _ _ (fun o j hj => by simp [fZ] at hj; omega))
  obtain ⟨o1, o2, o3, o4, o5, o6, o7, o8, o9, o10⟩ := adv_other (a := a) (k := k)
  refine ⟨⟨hZ', ?_, ?_, ?_, ?_, ?_, ?_, ?_, ?_, ?_, ?_, ?_, ?_⟩, hS.2⟩
  · rw [o10, adv_F hF]
    show JFr τ (((cur a).drop k, g) :: t) (aO a)
    rw [hF] at h1
    exact h1.adv hk hS.2 (hτ 3 12 (by omega) (by omega)) (hτ 2 3 (by omega) (by omega)) (fun r _ _ => by rw [hr]) hp
  · rw [o1, adv_bsy]
    exact h2.dep hS.2 hS.1 hln.1 (hag _ _ (fun o j hj => by simp [fEn] at hj; omega))
  · rw [o2]
    exact h3.dep (hag _ _ (fun o j hj => by simp [fNu] at hj; omega))
  · rw [o3]
    exact h4.dep hS.2 (hag _ _ (fun o j hj => by simp [fRo] at hj; omega))
  · rw [o4]
    exact h5.dep hS.2 hS.1 hln.1 (hag _ _ (fun o j hj => by simp [fEd] at hj; omega))
  · rw [o5]
    exact h6.dep hS.2 hS.1 hln.1 (hag _ _ (fun o j hj => by simp [fAd] at hj; omega))
  · rw [o6]
    exact h7.dep hS.2 hS.1 hln.1 (hag _ _ (fun o j hj => by simp [fNt] at hj; omega))
  · rw [o7, o10]
    exact h8.dep hS.2 (hag _ _ (fun o j hj => by simp [fEl] at hj; omega))
  · rw [o8]
    exact h9.dep hS.2 (hag _ _ (fun o j hj => by simp [fAt] at hj; omega))
  · rw [o9]
    exact h10.dep hS.2 (hag _ _ (fun o j hj => by simp [fSt] at hj; omega))
  · rw [hτ 2 4 (by omega) (by omega)]; exact h11
  · rw [hτ 2 6 (by omega) (by omega), o2]; exact h12
theorem jp.cells {e k p : Nat} (h : jp e k σ (some p) τ) : (∀ o j, ¬ (o = 2 ∧ (j = 2 ∨ (7 ≤ j ∧ j ≤ 11))) → ¬ (o = 1 ∧ j = 13) → τ.1 o j = σ.1 o j) ∧ τ.2 = σ.2 ∧ rng τ ∧ τ.1 2 2 = (p : Int) := by
  obtain ⟨x, h⟩ := h
  refine ⟨fun o j h1 h2 => ?_, h.2.1.1, h.2.1.2.2, h.2.2⟩
  rw [h.2.1.2.1 o j h1, pf_1, if_neg h2]
/-- the reader found the item written so, k further -/
theorem RJ.rd {k p : Nat} {e : Nat} (hln : JLn L rm nd) (h : RJ L rm nd σ a) (hp : σ.1 2 2 = (p : Int)) (hk : k ≤ (cur a).length) (hj : jp e 0 σ (some (p + k)) τ) : RJ L rm nd τ (adv a k) ∧ sgr σ τ := by
  obtain ⟨c1, c2, c3, c4⟩ := hj.cells
  exact h.go hln hk c1 c2 (by rw [c4, hp]; omega) c3
theorem RJ.zer (h : RJ L rm nd σ a) : ∀ r, r = 114 ∨ r = 115 ∨ r = 125 ∨ r = 126 ∨ r = 127 → ∀ w, jw σ ≤ w → w < L 155 → σ.2 r w = 0 := by
  obtain ⟨-, -, h2, -, -, h5, h6, h7, -⟩ := h
  rintro r (rfl | rfl | rfl | rfl | rfl) w h1 h3
  · exact h2.2.2.1.2.1 w h1 h3
  · exact h2.2.2.2.2.1 w h1 h3
  · exact h5.2.2.2.1 w h1 h3
  · exact h6.2.2.1.2.1 w h1 h3
  · exact h7.2.2.1 w h1 h3
theorem RJ.bad {e : Nat} (h : RJ L rm nd σ a) (hj : jp e 0 σ none τ) : JBd L rm nd τ 5 (σ.1 2 5) := by
  obtain ⟨x, hj⟩ := hj
  have hZ := h.1
  have hb := hj.1
  have hS0 := SI_pf (o := 1) (k := 13) (x := x) hZ.1 (by omega)
  have hZ0 : JZ L rm nd (pf σ 1 13 x) := hZ.dep hS0.1 hS0.2 hZ.2.1 (rng_of hZ.2.2.2.2.2.1 (fun i _ _ => pf_no (by decide))) (ag.refl.pf rfl)
  have hZ1 := hZ0.jb hb
  refine ⟨hZ1.1, hj.2, by decide, ?_, fun r hr w h1 h2 => ?_⟩
  · rw [hb.2.1 2 5 (by omega), pf_no (by decide)]
  · rw [hb.1]
    have : jw τ = jw σ := by unfold jw; rw [hb.2.1 1 14 (by omega), pf_nk (by decide)]
    exact h.zer r hr w (by omega) h2
/-- a fault of another number -/
theorem RJ.ft {n : Nat} (h : RJ L rm nd σ a) (hn : n ≠ 0) : JBd L rm nd (flt σ (n : Int)) n (σ.1 2 5) := by
  have h4 : σ.1 2 4 = 0 := h.2.2.2.2.2.2.2.2.2.2.2.1
  have hj : jw (flt σ (n : Int)) = jw σ := by rw [flt_val h4]; unfold jw; rw [pf_no (by decide)]
  refine ⟨h.1.ft, by rw [flt_val h4, pf_eq], hn, by rw [flt_val h4, pf_nk (by decide)], fun r hr w h1 h2 => ?_⟩
  rw [flt_val h4, pf_2]
  exact h.zer r hr w (by omega) h2
end JIt
