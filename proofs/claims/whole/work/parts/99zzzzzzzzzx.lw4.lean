/-! ===== feed and end, side by side ===== -/
section Pf
variable {L L' : Nat → Nat} {rm nd S : Nat} {σ τ : IS} {d : DOC} {F P : List Int}
theorem pr_feed {a b c g e : Int} (hL : LLs L rm nd) (h : NX L rm nd S σ d F P) (hl : F.length + 20 ≤ 65536) : w_J_take L a (w_J_take L b (w_J_take L c (w_J_take L g (w_J_take L e (w_K_feed L a b c g e (fun υ => υ.1 12 11 = 0 ∧ ∃ F', NX L rm nd S υ d F' P)))))) σ := by
  have h100 := hL.2.2.2.2.2.2.2.2.2.1
  have n4 : ∀ v, (by4 v).length = 4 := fun v => rfl
  refine sp_J_take h100 h.1.2.2.1 (by omega) (fun τ1 x1 q1 => ?_)
  refine sp_J_take h100 q1 (by rw [List.length_append, n4]; omega) (fun τ2 x2 q2 => ?_)
  refine sp_J_take h100 q2 (by rw [List.length_append, List.length_append, n4, n4]; omega) (fun τ3 x3 q3 => ?_)
  refine sp_J_take h100 q3 (by rw [List.length_append, List.length_append, List.length_append, n4, n4, n4]; omega) (fun τ4 x4 q4 => ?_)
  refine sp_J_take h100 q4 (by rw [List.length_append, List.length_append, List.length_append, List.length_append, n4, n4, n4, n4]; omega) (fun τ5 x5 q5 => ?_)
  have bx := (((x1.trans x2).trans x3).trans x4).trans x5
  have k1 := h.2.1.bx bx
  exact sp_K_feed hL.2.2.2.2.2.2.2.2.2.2.1 k1.2.1 (fun υ y => ⟨fun z => absurd hl (by omega), fun _ y2 y3 => ⟨y2, _, (h.1.bx bx q5).by y, k1.by y y3, h.2.2⟩⟩)
theorem pr_feedT {a b c g e : Int} (hL : LLs L rm nd) (h : NX L rm nd S σ d F P) (hl : ¬ F.length + 20 ≤ 65536) : w_K_feed L a b c g e (fun υ => υ.1 12 11 = 1 ∧ ∃ F', NX L rm nd S υ d F' P) σ :=
  sp_K_feed hL.2.2.2.2.2.2.2.2.2.2.1 h.2.1.2.1 (fun υ y => ⟨fun _ y2 y3 => ⟨y2, _, h.1.by y, h.2.1.by y y3, h.2.2⟩, fun z => absurd z hl⟩)
theorem JFd.take {n : Int} (h : JFd σ F) (h0 : 0 ≤ n) (h1 : n ≤ (F.length : Int)) : JFd (pf σ 0 1 n) (F.take n.toNat) := by
  obtain ⟨f1, f2, f3, f4⟩ := h
  have hl : (F.take n.toNat).length = n.toNat := by rw [List.length_take]; omega
  refine ⟨by rw [pf_eq, hl]; omega, by omega, fun i hi => ?_, fun b hb => f4 b (List.mem_of_mem_take hb)⟩
  rw [hl] at hi
  rw [pf_2, f3 i (by omega), List.getD_eq_getElem?_getD, List.getD_eq_getElem?_getD, List.getElem?_take_of_lt hi]
theorem pr_end {n : Int} (h : NX L rm nd S σ d F P) (h0 : 0 ≤ n) (h1 : n ≤ (F.length : Int)) : w_K_end L n (fun v υ => v = (F.length : Int) ∧ υ.1 12 11 = 0 ∧ ∃ F', NX L rm nd S υ d F' P) (pf σ 0 1 n) := by
  have bx : BX σ (pf σ 0 1 n) := ⟨fun o k y => by rw [pf_1, if_neg y], fun _ _ => rfl⟩
  have k1 := h.2.1.bx bx
  exact sp_K_end k1.2.1 (fun υ y => ⟨fun z => absurd ⟨h0, h1⟩ z, fun _ y2 y3 => ⟨rfl, y2, _, (h.1.bx bx (h.1.2.2.1.take h0 h1)).by y, k1.by y y3, h.2.2⟩⟩)
theorem pr_endT {n : Int} (h : NX L rm nd S σ d F P) (h0 : ¬ (0 ≤ n ∧ n ≤ (F.length : Int))) : w_K_end L n (fun _ υ => υ.1 12 11 = 1 ∧ ∃ F', NX L rm nd S υ d F' P) σ :=
  sp_K_end h.2.1.2.1 (fun υ y => ⟨fun _ y2 y3 => ⟨y2, _, h.1.by y, h.2.1.by y y3, h.2.2⟩, fun z => absurd z h0⟩)
end Pf
