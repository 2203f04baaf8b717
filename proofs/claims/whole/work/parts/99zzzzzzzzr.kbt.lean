/-! ===== the reference: bytes ===== -/
/-- the bytes that it was fed -/
def KFd (σ : IS) (B : List Int) : Prop := σ.1 12 3 = (B.length : Int) ∧ B.length ≤ 65536 ∧ (∀ i, i < B.length → σ.2 165 i = nb (B.getD i 0)) ∧ ∀ b ∈ B, 0 ≤ b ∧ b ≤ 255
/-- the bytes that it wrote -/
def KPr (σ : IS) (P : List Int) : Prop := σ.1 12 9 = (P.length : Int) ∧ P.length ≤ 262144 ∧ ∀ i, i < P.length → σ.2 244 i = nb (P.getD i 0)
/-- only bytes have changed -/
def BXk (σ τ : IS) : Prop := (∀ p k, ¬ (p = 12 ∧ (k = 3 ∨ k = 11)) → τ.1 p k = σ.1 p k) ∧ τ.1 12 11 = 0 ∧ ∀ r, r ≠ 165 → τ.2 r = σ.2 r
section Kbt
variable {L : Nat → Nat} {σ : IS} {B P : List Int} {R : Int → IS → Prop}
theorem BXk.up : BXk σ (pf σ 12 11 0) := ⟨fun p k z => by rw [pf_1, if_neg (fun y => z ⟨y.1, by omega⟩)], by rw [pf_eq], fun _ _ => rfl⟩
theorem KFd.up (h : KFd σ B) : KFd (pf σ 12 11 0) B := ⟨by rw [pf_nk (by decide)]; exact h.1, h.2⟩
theorem sp_K_change {i b : Int} (hL : L 165 = 65536) (h : KFd σ B) (hq : ∀ τ, BXk σ τ → (0 ≤ i ∧ i < (B.length : Int) ∧ 0 ≤ b ∧ b ≤ 255 → KFd τ (B.set i.toNat b) → R (B.getD i.toNat 0) τ) ∧ (¬ (0 ≤ i ∧ i < (B.length : Int) ∧ 0 ≤ b ∧ b ≤ 255) → KFd τ B → R (-1) τ)) : w_K_change L i b R σ := by
  obtain ⟨h1, h2, h3, h4⟩ := id h
  unfold w_K_change
  rw [h1]
  by_cases c : 0 ≤ i ∧ i < (B.length : Int) ∧ 0 ≤ b ∧ b ≤ 255
  · rw [if_pos (by omega)]
    have hi : i.toNat < B.length := by omega
    have hg : B.getD i.toNat 0 ∈ B := by
      rw [List.getD_eq_getElem?_getD, List.getElem?_eq_getElem hi]
      exact List.getElem_mem hi
    rw [h3 _ hi, ia_nb (h4 _ hg)]
    refine ⟨⟨by omega, by omega⟩, ⟨by omega, by omega⟩, (hq (pr (pf σ 12 11 0) 165 i.toNat (nb b)) ⟨(BXk.up (σ := σ)).1, (BXk.up (σ := σ)).2.1, fun r a => ?_⟩).1 c ⟨?_, by rw [List.length_set]; exact h2, fun j hj => ?_, fun x hx => ?_⟩⟩
    · funext j
      rw [pr_2, if_neg (fun z => a z.1)]
      rfl
    · rw [List.length_set]; exact h.up.1
    · rw [List.length_set] at hj
      rw [pr_2, List.getD_eq_getElem?_getD, List.getElem?_set]
      by_cases y : j = i.toNat
      · rw [if_pos ⟨rfl, y⟩, if_pos y.symm, if_pos hi]
        rfl
      · rw [if_neg (fun z => y z.2), if_neg (fun z => y z.symm), ← List.getD_eq_getElem?_getD]
        exact h3 j hj
    · rcases List.mem_or_eq_of_mem_set hx with y | y
      · exact h4 x y
      · rw [y]; exact ⟨c.2.2.1, c.2.2.2⟩
  · rw [if_neg (by omega)]
    exact (hq _ BXk.up).2 c h.up
theorem sp_K_out {i : Int} (hL : L 244 = 262144) (hP : KPr σ P) (hq : R (if 0 ≤ i ∧ i < (P.length : Int) then ia (P.getD i.toNat 0) 255 else -1) (pf σ 12 11 0)) : w_K_out L i R σ := by
  obtain ⟨p4, pl, pr'⟩ := hP
  unfold w_K_out
  rw [p4]
  refine ⟨fun y1 y2 => ⟨by omega, by omega⟩, ?_⟩
  by_cases c : 0 ≤ i ∧ i < (P.length : Int)
  · rw [if_pos c] at hq
    have hi : i.toNat < P.length := by omega
    rw [if_neg (by omega), if_pos c.2, pr' _ hi, ia_nb2]
    exact hq
  · rw [if_neg c] at hq
    by_cases y : i < 0
    · rw [if_pos y]; exact hq
    · rw [if_neg y, if_neg (by omega)]; exact hq
end Kbt
