/-! ===== the validator: words of a value (12 and 21) ===== -/
/-- what the pieces of a value come to, acc: the piece so far -/
def pct (cf : Str → Nat) : List Int → List Int → Nat
  | acc, [] => if acc = [] then 0 else cf acc
  | acc, c :: r => if c = 32 then (if acc = [] then 0 else cf acc) + pct cf [] r else pct cf (acc ++ [c]) r
theorem pct_le {cf : Str → Nat} (h : ∀ s, cf s ≤ 1) : ∀ (l acc : List Int), pct cf acc l ≤ l.length + 1 := by
  intro l
  induction l with
  | nil => intro acc; unfold pct; have := h acc; split <;> omega
  | cons c r ih =>
    intro acc
    have h1 := h acc
    have h2 := ih []
    have h3 := ih (acc ++ [c])
    unfold pct
    rw [List.length_cons]
    split
    · split <;> omega
    · omega
theorem pct_half {cf : Str → Nat} (h : ∀ s, cf s ≤ 1) : ∀ (l acc : List Int), 2 * pct cf acc l ≤ l.length + (if acc = [] then 1 else 2) := by
  intro l
  induction l with
  | nil => intro acc; unfold pct; have := h acc; split <;> omega
  | cons c r ih =>
    intro acc
    have h1 := h acc
    have h2 := ih []
    have h3 := ih (acc ++ [c])
    rw [if_pos rfl] at h2
    rw [if_neg (by simp)] at h3
    unfold pct
    rw [List.length_cons]
    split
    · split <;> omega
    · split <;> omega
/-- what one piece counts: of identities seen, for a type -/
def cfw (seen : List Str) (ty : Nat) (s : Str) : Nat := if ty = 4 ∨ ty = 5 then 1 else if s ∈ seen then 0 else 1
theorem cfw_le {seen : List Str} {ty : Nat} (s : Str) : cfw seen ty s ≤ 1 := by
  unfold cfw
  repeat' split
  all_goals omega
/-- the count that words of a type go to -/
def kw (ty : Nat) : Nat := if ty = 4 ∨ ty = 5 then 21 else 12
/-- as before but for one count and what Store.find leaves -/
def VXc (ρ ρ' : IS) (k0 : Nat) (x : Int) : Prop := (∀ o k, ¬ (o = 1 ∧ k = 13) → ρ'.1 o k = ρ.1 o k) ∧ (∀ r, r ≠ 149 → ρ'.2 r = ρ.2 r) ∧ ∀ k, ρ'.2 149 k = ρ.2 149 k + if k = k0 then x else 0
section VXs
variable {L : Nat → Nat} {ρ ρ1 ρ2 : IS} {Q : IS → Prop}
theorem VXc.refl {k0 : Nat} : VXc ρ ρ k0 0 := ⟨fun _ _ _ => rfl, fun _ _ => rfl, fun k => by split <;> simp⟩
theorem VXc.si {k0 : Nat} {x : Int} (h : VXc ρ ρ1 k0 x) (hS : SI L ρ) : SI L ρ1 := (SI_of hS (σ' := ρ1) (h.1 1 14 (by omega)) (by rw [h.1 1 3 (by omega)]; have := hS.1; omega) (fun r y1 y2 => h.2.1 r (by omega)) (fun i _ => by rw [h.2.1 101 (by decide)])).1
theorem VXc.wstE {k0 : Nat} {x : Int} (h : VXc ρ ρ1 k0 x) (w : Nat) : wst ρ1 w = wst ρ w := by
  unfold wst wfr wsz
  rw [h.2.1 101 (by decide), h.2.1 102 (by decide), h.2.1 103 (by decide)]
theorem VXc.add {k0 : Nat} {x y z : Int} (h : VXc ρ ρ1 k0 x) (hy : y = ρ1.2 149 k0 + z) : VXc ρ (pr ρ1 149 k0 y) k0 (x + z) := ⟨h.1, fun r hr => by
  rw [← h.2.1 r hr]
  funext j
  rw [pr_2, if_neg (fun q => hr q.1)], fun k => by
  rw [pr_2]
  by_cases c : k = k0
  · rw [if_pos ⟨rfl, c⟩, if_pos c, hy, c, h.2.2 k0, if_pos rfl]; omega
  · rw [if_neg (fun q => c q.2), h.2.2 k, if_neg c, if_neg c]⟩
theorem VXc.p13 {k0 : Nat} {x y : Int} (h : VXc ρ ρ1 k0 x) : VXc ρ (pf ρ1 1 13 y) k0 x := ⟨fun o k c => by rw [pf_1, if_neg c]; exact h.1 o k c, h.2.1, h.2.2⟩
end VXs
