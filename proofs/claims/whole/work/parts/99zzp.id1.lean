/-! ===== the validator: identities (11) and how often a default came ===== -/
/-- only the validator's own cells, marks and the stamp have changed -/
def VW (σ σ' : IS) : Prop := (∀ o k, ¬ (o = 1 ∧ k = 16) → ¬ (o = 8 ∧ k = 13) → σ'.1 o k = σ.1 o k) ∧ (∀ r, ¬ (149 ≤ r ∧ r ≤ 155) → σ'.2 r = σ.2 r) ∧ σ.1 1 16 ≤ σ'.1 1 16 ∧ ∀ w, σ'.2 155 w ≤ σ'.1 1 16
section VWs
variable {L : Nat → Nat} {σ τ υ : IS}
theorem VC.vw (h : VC σ τ) : VW σ τ := ⟨fun o k y _ => h.1 o k y, fun r y => h.2.1 r (by omega) (by omega), h.2.2.1, h.2.2.2⟩
theorem VW.trans (h1 : VW σ τ) (h2 : VW τ υ) : VW σ υ := ⟨fun o k y z => (h2.1 o k y z).trans (h1.1 o k y z), fun r y => (h2.2.1 r y).trans (h1.2.1 r y), Int.le_trans h1.2.2.1 h2.2.2.1, h2.2.2.2⟩
theorem VW.jwE (h : VW σ τ) : jw τ = jw σ := by unfold jw; rw [h.1 1 14 (by omega) (by omega)]
theorem VW.wstE (h : VW σ τ) (w : Nat) : wst τ w = wst σ w := by
  unfold wst wfr wsz
  rw [h.2.1 101 (by omega), h.2.1 102 (by omega), h.2.1 103 (by omega)]
theorem VW.si (h : VW σ τ) (hS : SI L σ) : SI L τ := (SI_of hS (σ' := τ) (h.1 1 14 (by omega) (by omega)) (by rw [h.1 1 3 (by omega) (by omega)]; have := hS.1; omega) (fun r y1 y2 => h.2.1 r (by omega)) (fun i _ => by rw [h.2.1 101 (by omega)])).1
theorem VW.jn {x : Int} {s : Str} (h : VW σ τ) (hj : Jn σ x s) : Jn τ x s := by
  obtain ⟨w, h1, h2, h3⟩ := hj
  exact ⟨w, h1, by rw [h.jwE]; exact h2, by rw [h.wstE]; exact h3⟩
end VWs
/-- the attributes of an element: number, and whether it came by default -/
def seg (x : Elm) : List (Nat × Bool) := (List.range x.2.2.2.1).map (fun i => (x.2.2.1 + i, decide (x.2.2.2.2.1 ≤ i)))
def segs (el : List Elm) : List (Nat × Bool) := el.flatMap seg
/-- identities seen, how many came again, how often a declaration's default came -/
abbrev IDs : Type := List Str × Nat × (Nat → Nat)
def idt (ad : List ADc) (at_ : List Att) (q : IDs) (z : Nat × Bool) : IDs := match (at_.getD z.1 atD).2.2 with
  | none => q
  | some d => (if (ad.getD d adD).2.2.1 = 1 then (at_.getD z.1 atD).2.1 :: q.1 else q.1, (if (ad.getD d adD).2.2.1 = 1 ∧ (at_.getD z.1 atD).2.1 ∈ q.1 then q.2.1 + 1 else q.2.1), fun j => if z.2 = true ∧ j = d then q.2.2 j + 1 else q.2.2 j)
def ids (ad : List ADc) (at_ : List Att) (l : List (Nat × Bool)) : IDs := l.foldl (idt ad at_) ([], 0, fun _ => 0)
theorem ids_s {ad : List ADc} {at_ : List Att} {l : List (Nat × Bool)} {z : Nat × Bool} : ids ad at_ (l ++ [z]) = idt ad at_ (ids ad at_ l) z := by
  unfold ids
  rw [List.foldl_append]
  rfl
theorem ids_le {ad : List ADc} {at_ : List Att} : ∀ (l : List (Nat × Bool)) (q : IDs) (m : Nat), q.2.1 ≤ m → (∀ j, q.2.2 j ≤ m) → (l.foldl (idt ad at_) q).2.1 ≤ m + l.length ∧ ∀ j, (l.foldl (idt ad at_) q).2.2 j ≤ m + l.length := by
  intro l
  induction l with
  | nil => intro q m h1 h2; exact ⟨h1, h2⟩
  | cons z l ih =>
    intro q m h1 h2
    rw [List.foldl_cons, List.length_cons]
    have h3 : (idt ad at_ q z).2.1 ≤ m + 1 ∧ ∀ j, (idt ad at_ q z).2.2 j ≤ m + 1 := by
      unfold idt
      split
      · exact ⟨by omega, fun j => by have := h2 j; omega⟩
      · refine ⟨?_, fun j => ?_⟩
        · dsimp only; split <;> omega
        · have := h2 j; dsimp only; split <;> omega
    have h4 := ih _ _ h3.1 h3.2
    exact ⟨by omega, fun j => by have := h4.2 j; omega⟩
theorem seg_len {x : Elm} : (seg x).length = x.2.2.2.1 := by unfold seg; rw [List.length_map, List.length_range]
theorem seg_take {x : Elm} {i : Nat} (h : i < x.2.2.2.1) : (seg x).take (i + 1) = (seg x).take i ++ [(x.2.2.1 + i, decide (x.2.2.2.2.1 ≤ i))] := by
  rw [List.take_succ, List.getElem?_eq_getElem (by rw [seg_len]; exact h)]
  unfold seg
  simp
theorem segs_take {el : List Elm} {e : Nat} (h : e < el.length) : segs (el.take (e + 1)) = segs (el.take e) ++ seg (el.getD e elD) := by
  unfold segs
  rw [List.take_succ, List.flatMap_append, List.getElem?_eq_getElem h, List.getD_eq_getElem?_getD, List.getElem?_eq_getElem h]
  simp
theorem segs_len {el : List Elm} {m : Nat} (h : ∀ x ∈ el, x.2.2.2.1 ≤ m) : (segs el).length ≤ el.length * m := by
  induction el with
  | nil => exact Nat.zero_le _
  | cons x el ih =>
    have h1 := ih (fun y hy => h y (List.mem_cons_of_mem _ hy))
    have h2 := h x List.mem_cons_self
    unfold segs at h1 ⊢
    rw [List.flatMap_cons, List.length_append, List.length_cons, Nat.succ_mul, seg_len]
    omega
