/-! ===== items of the class: attribute lists (1): how much a value makes ===== -/
section JI29
variable {rm : Nat} {en : List Ent} {bus : List Nat} {und : Bool}
/-- what a step makes comes from letters gone through -/
theorem vst_mk {s s' : VS} (h : vst rm en bus und s = .inr s') (hs : s.1 ≠ []) : s.2.1 ≤ s'.2.1 ∧ s.2.2.1 ≤ s'.2.2.1 ∧ s'.2.2.2.length + s'.2.2.1 + vln s'.1 + s.2.1 ≤ s.2.2.2.length + s.2.2.1 + vln s.1 + s'.2.1 := by
  obtain ⟨stk, c, m, o⟩ := s
  cases stk with
  | nil => exact absurd rfl hs
  | cons z st =>
    obtain ⟨l, w⟩ := z
    cases l with
    | nil =>
      have h' : (Sum.inr (st, c, m, o) : Nat ⊕ VS) = .inr s' := h
      cases h'
      dsimp only
      unfold vln
      simp only [List.map_cons, List.sum_cons, List.length_nil]
      omega
    | cons x r =>
      rw [vst_cons] at h
      split at h
      · cases h
      · split at h
        · cases h
          dsimp only
          unfold vln
          simp only [List.map_cons, List.sum_cons, List.length_cons, List.length_append, List.length_nil]
          omega
        · split at h
          · cases h
          · rename_i j hj
            have hp := rfp_pos (l := x :: r) hj
            rw [List.length_cons] at hp
            have hdl : ((x :: r).drop j).length = r.length + 1 - j := by rw [List.length_drop, List.length_cons]
            split at h
            · cases h
              dsimp only
              unfold vln
              simp only [List.map_cons, List.sum_cons, hdl, List.length_cons, List.length_append, List.length_nil]
              omega
            · split at h
              · cases h
              · split at h
                · split at h
                  · cases h
                  · cases h
                    dsimp only
                    unfold vln
                    simp only [List.map_cons, List.sum_cons, hdl, List.length_cons]
                    omega
                · split at h
                  · cases h
                  · split at h
                    · cases h
                    · cases h
                      dsimp only
                      unfold vln
                      simp only [List.map_cons, List.sum_cons, hdl, List.length_cons]
                      omega
theorem vrn_mk : ∀ (n : Nat) (s : VS) {c m : Nat} {o : List Int}, vrn rm en bus und n s = .inr (c, m, o) → s.2.1 ≤ c ∧ s.2.2.1 ≤ m ∧ o.length + m + s.2.1 ≤ s.2.2.2.length + s.2.2.1 + vln s.1 + c := by
  intro n
  induction n with
  | zero => intro s c m o h; cases h
  | succ n ih =>
    intro s c m o h
    have h' : (match s.1 with
      | [] => (.inr s.2 : Nat ⊕ (Nat × Nat × List Int))
      | _ :: _ => match vst rm en bus und s with
        | .inl f => .inl f
        | .inr s' => vrn rm en bus und n s') = .inr (c, m, o) := h
    cases hs : s.1 with
    | nil =>
      rw [hs] at h'
      dsimp only at h'
      have h2 : s.2 = (c, m, o) := Sum.inr.inj h'
      rw [h2]
      dsimp only
      omega
    | cons z st =>
      rw [hs] at h'
      dsimp only at h'
      cases hv : vst rm en bus und s with
      | inl f => rw [hv] at h'; cases h'
      | inr s' =>
        rw [hv] at h'
        dsimp only at h'
        have h1 := vst_mk hv (by rw [hs]; exact List.cons_ne_nil _ _)
        have h2 := ih s' h'
        rw [hs] at h1
        omega
end JI29
section JI29b
variable {rm : Nat} {a : AS}
theorem val_mk {l o : List Int} {c m c' m' : Nat} (h : val rm a l c m = .inr (c', m', o)) : c ≤ c' ∧ m ≤ m' ∧ o.length + m' + c ≤ l.length + m + c' := by
  have h1 := vrn_mk _ _ h
  have e : vln [(l, 0)] = l.length := by unfold vln; simp
  dsimp only at h1
  rw [e, List.length_nil] at h1
  omega
end JI29b
