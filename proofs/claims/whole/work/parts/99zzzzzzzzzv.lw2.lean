/-! ===== one call of each, side by side ===== -/
section Pr
variable {L : Nat → Nat} {rm nd S : Nat} {σ τ : IS} {a : AS} {d : DOC} {F P : List Int}
theorem NX.db (hL : LLs L rm nd) (h : NX L rm nd S σ d F P) : DBn d ∧ ∀ a, d = .inr a → aN a 0 ≤ rm := DBn_of (fun a ha => (h.2.2 a ha).1) hL.1.2.1.2.2.2.1
theorem pr_fault (h : NX L rm nd S σ d F P) : w_J_fault L (fun v τ => w_K_fault L (fun v' υ => v' = v ∧ NX L rm nd S υ d F P) τ) σ := sp_J_fault h.1.2.1 (sp_K_fault h.2.1.1 ⟨rfl, h.k0⟩)
theorem pr_place (h : NX L rm nd S σ d F P) : w_J_place L (fun v τ => w_K_place L (fun v' υ => v' = v ∧ NX L rm nd S υ d F P) τ) σ := sp_J_place h.1.2.1 (sp_K_place h.2.1.1 ⟨rfl, h.k0⟩)
theorem pr_elements (h : NX L rm nd S σ d F P) : w_J_elements L (fun v τ => w_K_elements L (fun v' υ => v' = v ∧ NX L rm nd S υ d F P) τ) σ := sp_J_elements h.1.2.1 (sp_K_elements h.2.1.1 ⟨rfl, h.k0⟩)
theorem pr_characters (h : NX L rm nd S σ d F P) : w_J_characters L (fun v τ => w_K_characters L (fun v' υ => v' = v ∧ NX L rm nd S υ d F P) τ) σ := sp_J_characters h.1.2.1 (sp_K_characters h.2.1.1 ⟨rfl, h.k0⟩)
theorem pr_counted (h : NX L rm nd S σ d F P) : w_J_counted L (fun v τ => w_K_counted L (fun v' υ => v' = v ∧ NX L rm nd S υ d F P) τ) σ := sp_J_counted h.1.2.1 (sp_K_counted h.2.1.1 ⟨rfl, h.k0⟩)
theorem pr_violations {k : Int} (hL : LLs L rm nd) (h : NX L rm nd S σ d F P) : w_J_violations L k (fun v τ => w_K_violations L k (fun v' υ => v' = v ∧ NX L rm nd S υ d F P) τ) σ := sp_J_violations h.1.2.1 hL.2.2.1.2.1 (sp_K_violations hL.2.2.2.2.2.1 h.2.1.1 ⟨rfl, h.k0⟩)
theorem pr_spaces {k : Int} (hL : LLs L rm nd) (h : NX L rm nd S σ d F P) : w_J_spaces L k (fun v τ => w_K_spaces L k (fun v' υ => v' = v ∧ NX L rm nd S υ d F P) τ) σ := sp_J_spaces h.1.2.1 hL.2.2.2.1.2.2 (sp_K_spaces hL.2.2.2.2.2.1 h.2.1.1 ⟨rfl, h.k0⟩)
theorem pr_attributes {e : Int} (hL : LLs L rm nd) (h : NX L rm nd S σ d F P) : w_J_attributes L e (fun v τ => w_K_attributes L e (fun v' υ => v' = v ∧ NX L rm nd S υ d F P) τ) σ := sp_J_attributes hL.1 h.1.2.1 (sp_K_attributes hL.2.2.2.2.2.1 (h.db hL).1 h.2.1.1 ⟨rfl, h.k0⟩)
theorem pr_parent {e : Int} (hL : LLs L rm nd) (h : NX L rm nd S σ d F P) : w_J_parent L e (fun v τ => w_K_parent L e (fun v' υ => v' = v ∧ NX L rm nd S υ d F P) τ) σ := sp_J_parent hL.1 h.1.2.1 (sp_K_parent hL.2.2.2.2.2.1 (h.db hL).1 h.2.1.1 ⟨rfl, h.k0⟩)
theorem pr_name {e i : Int} (hL : LLs L rm nd) (h : NX L rm nd S σ d F P) : w_J_name L e i (fun v τ => w_K_name L e i (fun v' υ => v' = v ∧ NX L rm nd S υ d F P) τ) σ := sp_J_name hL.1 h.1.1.1 h.1.2.1 (sp_K_name hL.2.2.2.2.2.1 (h.db hL).1 h.2.1.1 ⟨rfl, h.k0⟩)
theorem pr_attribute {e x w i : Int} (hL : LLs L rm nd) (h : NX L rm nd S σ d F P) : w_J_attribute L e x w i (fun v τ => w_K_attribute L e x w i (fun v' υ => v' = v ∧ NX L rm nd S υ d F P) τ) σ := sp_J_attribute hL.1 h.1.1.1 h.1.2.1 (sp_K_attribute hL.2.2.2.2.2.1 (h.db hL).1 h.2.1.1 (h.db hL).2 ⟨rfl, h.k0⟩)
theorem pr_out {i : Int} (hL : LLs L rm nd) (h : NX L rm nd S σ d F P) : w_J_out L i (fun v τ => w_K_out L i (fun v' υ => v' = v ∧ NX L rm nd S υ d F P) τ) σ := sp_J_out hL.2.2.2.2.1.1 h.1.2.2.2 (sp_K_out hL.2.2.2.2.2.2.2.1.1.1 h.2.1.2.2.1 ⟨rfl, h.k0⟩)
theorem IK.bx (h : IK rm nd σ d F P) (hx : BX σ τ) : IK rm nd τ d F P := h.dep (fun o k y1 y2 => hx.1 o k (by omega)) (fun r y1 y2 => hx.2 r (by omega))
theorem pr_change {i b : Int} (hL : LLs L rm nd) (h : NX L rm nd S σ d F P) : w_J_change L i b (fun v τ => w_K_change L i b (fun v' υ => v' = v ∧ ∃ F', NX L rm nd S υ d F' P) τ) σ := by
  refine sp_J_change hL.2.2.2.2.2.2.2.2.2.1 h.1.2.2.1 (fun τ bx => ⟨fun c hF => ?_, fun c hF => ?_⟩)
  · have k1 := h.2.1.bx bx
    refine sp_K_change hL.2.2.2.2.2.2.2.2.2.2.1 k1.2.1 (fun υ bk => ⟨fun _ hK => ⟨rfl, _, (h.1.bx bx hF).by bk.by_, k1.by bk.by_ hK, h.2.2⟩, fun c2 _ => absurd c c2⟩)
  · have k1 := h.2.1.bx bx
    refine sp_K_change hL.2.2.2.2.2.2.2.2.2.2.1 k1.2.1 (fun υ bk => ⟨fun c2 _ => absurd c2 c, fun _ hK => ⟨rfl, _, (h.1.bx bx hF).by bk.by_, k1.by bk.by_ hK, h.2.2⟩⟩)
theorem pr_back (hL : LLs L rm nd) (h : NX L rm nd S σ d F P) : w_J_back L (fun v τ => w_K_back L (fun v' υ => v' = v ∧ ∃ F', NX L rm nd S υ d F' P) τ) σ := by
  refine sp_J_back hL.2.2.2.2.1.1 hL.2.2.2.2.2.2.2.2.2.1 h.1.2.2.2 h.1.2.2.1 (fun τ bx => ⟨fun c hF => ?_, fun c hF => ?_⟩)
  · have k1 := h.2.1.bx bx
    refine sp_K_back hL.2.2.2.2.2.2.2.1.1.1 hL.2.2.2.2.2.2.2.2.2.2.1 k1.2.2.1 k1.2.1 (fun υ bk => ⟨fun _ hK => ⟨rfl, _, (h.1.bx bx hF).by bk.by_, k1.by bk.by_ hK, h.2.2⟩, fun c2 _ => absurd c c2⟩)
  · have k1 := h.2.1.bx bx
    refine sp_K_back hL.2.2.2.2.2.2.2.1.1.1 hL.2.2.2.2.2.2.2.2.2.2.1 k1.2.2.1 k1.2.1 (fun υ bk => ⟨fun c2 _ => absurd c2 c, fun _ hK => ⟨rfl, _, (h.1.bx bx hF).by bk.by_, k1.by bk.by_ hK, h.2.2⟩⟩)
theorem pr_steady (hL : LLs L rm nd) (h : NX L rm nd S σ d F P) : w_J_steady L (fun v τ => w_K_steady L (fun v' υ => v' = v ∧ NX L rm nd S υ d F P) τ) σ := by
  unfold w_J_steady
  obtain ⟨h1, ⟨k1, k2, k3, k4, k5, k6, k7⟩, h3⟩ := h
  refine sp_K_steady hL.2.2.2.2.2.1 hL.2.2.2.2.2.2.1 hL.2.2.2.2.2.2.2.1 hL.1.2.1.2.2.2.1 k1 h3 k7 (fun τ t1 t2 => ⟨rfl, h1.dep (fun o k y => t2.1 o k (by omega) (by omega) (by omega) (by omega) (by omega) (by omega)) (fun r y1 y2 => t2.2.2.2 r (by omega) (by omega) (by omega) (by omega)), ⟨t1, ?_, ?_, ?_, ?_, ?_, ?_⟩, h3⟩)
  · obtain ⟨f1, f2, f3, f4⟩ := k2
    exact ⟨by rw [t2.1 12 3 (by decide) (by decide) (by decide) (by decide) (by decide) (by decide)]; exact f1, f2, by rw [t2.2.2.2 165 (by omega) (by omega) (by omega) (by omega)]; exact f3, f4⟩
  · obtain ⟨p1, p2, p3⟩ := k3
    exact ⟨by rw [t2.1 12 9 (by decide) (by decide) (by decide) (by decide) (by decide) (by decide)]; exact p1, p2, by rw [t2.2.2.2 244 (by omega) (by omega) (by omega) (by omega)]; exact p3⟩
  · rw [t2.1 12 0 (by decide) (by decide) (by decide) (by decide) (by decide) (by decide)]; exact k4
  · rw [t2.1 12 1 (by decide) (by decide) (by decide) (by decide) (by decide) (by decide)]; exact k5
  · rw [t2.1 14 22 (by decide) (by decide) (by decide) (by decide) (by decide) (by decide)]; exact k6
  · rw [t2.2.1]; exact k7
theorem pr_canonical (hL : LLs L rm nd) (h : NX L rm nd S σ d F P) : w_J_canonical L (fun v τ => w_K_canonical L (fun v' υ => v' = v ∧ ∃ P', NX L rm nd S υ d F P') τ) σ := by
  obtain ⟨⟨j1, j2, j3, j4⟩, hk, h3⟩ := h
  refine sp_J_canonical hL.1 hL.2.1 hL.2.2.1 hL.2.2.2.1 hL.2.2.2.2.1 j1 j2 j4 (fun τ q1 q2 q3 q4 => ?_)
  have hIJ : IJ L rm nd S τ d F ((anW d).2.getD P) := ⟨q2, q3, by obtain ⟨f1, f2, f3, f4⟩ := j3; exact ⟨by rw [q1.1 0 1 (by decide)]; exact f1, f2, by rw [q1.2 100 (by omega)]; exact f3, f4⟩, q4⟩
  have hIK : IK rm nd τ d F P := hk.dep (fun o k y1 y2 => q1.1 o k (by omega)) (fun r y1 y2 => q1.2 r (by omega))
  obtain ⟨k1, k2, k3, k4, k5, k6, k7⟩ := hIK
  refine sp_K_canonical hL.2.2.2.2.2.1 hL.2.2.2.2.2.2.2.1 k1 h3 k3 (fun υ c1 c2 c3 => ⟨rfl, _, hIJ.dep (fun o k y => c1.1 o k (by omega) (by omega)) (fun r y1 y2 => c1.2.2 r (by omega)), ⟨c2, ?_, c3, ?_, ?_, ?_, ?_⟩, h3⟩)
  · obtain ⟨f1, f2, f3, f4⟩ := k2
    exact ⟨by rw [c1.1 12 3 (by decide) (by omega)]; exact f1, f2, by rw [c1.2.2 165 (by omega)]; exact f3, f4⟩
  · rw [c1.1 12 0 (by decide) (by omega)]; exact k4
  · rw [c1.1 12 1 (by decide) (by omega)]; exact k5
  · rw [c1.1 14 22 (by decide) (by omega)]; exact k6
  · rw [c1.1 15 22 (by decide) (by omega)]; exact k7
/-- what judge of the class keeps -/
def mkJ (i : Nat) : Bool := decide (i = 11 ∨ (12 ≤ i ∧ i ≤ 17) ∨ i = 162 ∨ i = 163 ∨ (165 ≤ i ∧ i ≤ 247))
theorem mkJ_M : FMk 5846006549323611670279438130408673275630323763071 mkJ := fun i hi => by
  have hlt : i < 250 := Classical.byContradiction (fun z => by
    have : (5846006549323611670279438130408673275630323763071 : Nat) < 2 ^ i := Nat.lt_of_lt_of_le (show _ < 2 ^ 250 by decide) (Nat.pow_le_pow_right (by omega) (by omega))
    rw [Nat.testBit_lt_two_pow this] at hi
    cases hi)
  have key : ∀ j, j < 250 → (5846006549323611670279438130408673275630323763071 : Nat).testBit j = true → mkJ j = false := by decide +kernel
  exact key i hlt hi
theorem mkJ_t {i : Nat} (h : i = 11 ∨ (12 ≤ i ∧ i ≤ 17) ∨ i = 162 ∨ i = 163 ∨ (165 ≤ i ∧ i ≤ 247)) : mkJ i = true := decide_eq_true h
/-- the lengths for one call of judge: where the text begins and ends, how far the stamp may be -/
def LJ (L : Nat → Nat) (x y S : Nat) : Nat → Nat := fun r => if r = 997 then x else if r = 998 then x + y else if r = 999 then S else L r
theorem LJ_le {x y : Nat} : LE L (LJ L x y S) := fun r hr => by unfold LJ; rw [if_neg (by omega), if_neg (by omega), if_neg (by omega)]
theorem LJ_b {x y : Nat} (hL : ∀ r, L r < 1073741824) (hx : x ≤ 256) (hy : y ≤ 65536) (hS : S ≤ 1000000000) : ∀ r, LJ L x y S r < 1073741824 := fun r => by
  unfold LJ
  split
  · omega
  · split
    · omega
    · split
      · omega
      · exact hL r
theorem KLn.ext {L' : Nat → Nat} {o : Nat} (h : ∀ r, r < 900 → L' r = L r) (ho : ∀ k, rfo o k < 900) (hK : KLn L o rm nd) : KLn L' o rm nd := by
  unfold KLn BL at hK ⊢
  obtain ⟨⟨a1, a2, a3, a4, a5⟩, q1, q2, q3, q4, q5, q6, q7, q8, q9, q10, q11, q12, q13, q14, q15, q16, q17, q18, q19, q20⟩ := hK
  refine ⟨⟨?_, ?_, ?_, ?_, ?_⟩, q1, q2, ?_, fun r y1 y2 => ?_, fun r y1 y2 => ?_, fun r y1 y2 => ?_, ?_, fun r y1 y2 => ?_, fun r y1 y2 => ?_, fun r y1 y2 => ?_, ?_, fun r y1 y2 => ?_, fun r y1 y2 => ?_, ?_, fun k y1 y2 => ?_, ?_, ?_, ?_, ?_, ?_⟩
  all_goals first | (rw [h _ (by omega)]; solve | assumption | exact q4 r y1 y2 | exact q5 r y1 y2 | exact q6 r y1 y2 | exact q8 r y1 y2 | exact q9 r y1 y2 | exact q10 r y1 y2 | exact q12 r y1 y2 | exact q13 r y1 y2) | (rw [h _ (ho _)]; solve | assumption | exact q15 k y1 y2) | skip
  refine ⟨fun k y1 y2 => ?_, ?_⟩
  · rw [h _ (ho _), h _ (ho _)]; exact q17.1 k y1 y2
  · rw [h _ (ho _)]; exact q17.2
end Pr
