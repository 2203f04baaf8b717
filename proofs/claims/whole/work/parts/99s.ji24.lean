/-! ===== items of the class: one definition of an attribute list ===== -/
section JI24
variable {L : Nat → Nat} {rm nd : Nat} {ρ σ τ : IS} {B : AS}
theorem adv_adv {i k : Nat} : adv (adv B i) k = adv B (i + k) := by
  cases hf : aF B with
  | nil =>
    have e : ∀ k, adv B k = B := fun k => by unfold adv; rw [hf]
    rw [e, e, e]
  | cons f t =>
    obtain ⟨l, g⟩ := f
    have e1 : adv B i = sF B ((l.drop i, g) :: t) := adv_of hf
    have e2 : aF (sF B ((l.drop i, g) :: t)) = (l.drop i, g) :: t := rfl
    rw [e1, adv_of e2, adv_of hf, List.drop_drop]
    rfl
/-- the picture without the names behind b, at another place -/
theorem AP.pl {P : Int} {b y k p : Nat} {ls : List Str} (hln : JLn L rm nd) (h : AP L rm nd (adv B y) P b ls ρ) (hP : P = ((p + y : Nat) : Int)) (hk : k ≤ (cur (adv B y)).length) (h2 : ρ.1 2 2 = ((p + (y + k) : Nat) : Int)) : RJ L rm nd (pf ρ 4 16 (b : Int)) (adv B (y + k)) := by
  have hg : rng (pf ρ 4 16 (b : Int)) := rng_of h.1.1.2.2.2.2.2.1 (fun j h1 h2 => by rw [pf_nk (show ¬ j = 2 by omega)])
  have := h.1.go (k := k) (τ := pf ρ 4 16 (b : Int)) hln hk (fun o j x1 x2 => by rw [pf_1 (σ := pf ρ 4 16 (b : Int)), if_neg (by omega)]) rfl (by rw [pf_eq, pf_no (by decide), h2, hP]; omega) hg
  rw [adv_adv] at this
  exact this.1
end JI24
