/-! ===== items of the class: what attribute lists want of the pure side ===== -/
section JI20
variable {L : Nat → Nat} {rm nd : Nat} {σ τ : IS}
/-- a text that lies in the store stays where it is -/
theorem SHT.gr {l : List Int} {p : Nat} (hT : SHT (gd l) (σ.2 101) l.length p) (hp : p + l.length ≤ jtp σ) (g : sgr σ τ) : SHT (gd l) (τ.2 101) l.length p := fun i hi => by rw [g.2.2.2.1 (p + i) (by omega)]; exact hT i hi
theorem drop_sl {l : List Int} {k : Nat} : l.drop k = sl (gd l) k (l.length - k) := by
  have h := congrArg (List.drop k) (sl_gd (l := l))
  rw [sl_drop2, Nat.zero_add] at h
  exact h.symm
theorem sl_join {f : Nat → Int} {i n m : Nat} : sl f i (n + m) = sl f i n ++ sl f (i + n) m := by
  induction m with
  | zero => rw [sl_zero, List.append_nil]; rfl
  | succ m ih => rw [show n + (m + 1) = n + m + 1 by omega, sl_succ, ih, sl_succ, List.append_assoc, Nat.add_assoc]
theorem drop_cut {l : List Int} {k n : Nat} (h1 : k ≤ n) (h2 : n ≤ l.length) : l.drop k = sl (gd l) k (n - k) ++ l.drop n := by
  rw [drop_sl, drop_sl (k := n), show l.length - k = (n - k) + (l.length - n) by omega, sl_join, show k + (n - k) = n by omega]
/-- a value's text: quote, letters, quote, the rest -/
theorem vlp_cut {l : List Int} {v j : Nat} (h : vlp (gd l) l.length (some v) = some j) : l.drop v = gd l v :: (sl (gd l) (v + 1) (j - 1 - (v + 1)) ++ gd l v :: l.drop j) ∧ isQt (gd l v) = true ∧ vlg (gd (sl (gd l) (v + 1) (j - 1 - (v + 1)) ++ gd l v :: l.drop j)) (sl (gd l) (v + 1) (j - 1 - (v + 1)) ++ gd l v :: l.drop j).length (gd l v) ((sl (gd l) (v + 1) (j - 1 - (v + 1)) ++ gd l v :: l.drop j).length + 1) 0 = some ((sl (gd l) (v + 1) (j - 1 - (v + 1))).length + 1) := by
  have hg := vlp_gt h
  have h' : (if isQt (lk (gd l) l.length v) = true then vlg (gd l) l.length (gd l v) (l.length + 1) (v + 1) else none) = some j := h
  have hlk : lk (gd l) l.length v = gd l v := by unfold lk; rw [if_pos hg.2.2]
  rw [hlk] at h'
  by_cases c : isQt (gd l v) = true
  · rw [if_pos c] at h'
    have hv := vlg_le _ _ _ h'
    have e1 : l.drop (j - 1) = gd l v :: l.drop j := by
      rw [drop_cut (n := j) (by omega) (by omega), show j - (j - 1) = 0 + 1 by omega, sl_cons2, sl_zero, hv.2.2]
      rfl
    have e2 : l.drop (v + 1) = sl (gd l) (v + 1) (j - 1 - (v + 1)) ++ gd l v :: l.drop j := by
      rw [drop_cut (n := j - 1) (by omega) (by omega), e1]
    have e3 : l.drop v = gd l v :: l.drop (v + 1) := by
      rw [drop_cut (k := v) (n := v + 1) (by omega) (by omega), show v + 1 - v = 0 + 1 by omega, sl_cons2, sl_zero]
      rfl
    refine ⟨by rw [e3, e2], c, ?_⟩
    have h2 := vlg_at (l := l) (q := gd l v) (n := l.length + 1) (k := v + 1) (by omega) (by omega)
    rw [h', e2] at h2
    obtain ⟨z, hz, hzj⟩ := mvo_eq_some.mp h2.symm
    rw [hz, sl_len2]
    congr 1
    omega
  · rw [if_neg c] at h'
    cases h'
theorem dst_mem {s : Str} : ∀ {l : List Str}, s ∈ dst l ↔ spt s = true ∧ s ∈ l := by
  intro l
  induction l with
  | nil => simp [dst]
  | cons x r ih =>
    show s ∈ (if spt x = true ∧ ¬ x ∈ r then x :: dst r else dst r) ↔ _
    by_cases c : spt x = true ∧ ¬ x ∈ r
    · rw [if_pos c, List.mem_cons, ih, List.mem_cons]
      constructor
      · rintro (rfl | h)
        · exact ⟨c.1, Or.inl rfl⟩
        · exact ⟨h.1, Or.inr h.2⟩
      · rintro ⟨h1, h2 | h2⟩
        · exact Or.inl h2
        · exact Or.inr ⟨h1, h2⟩
    · rw [if_neg c, ih, List.mem_cons]
      constructor
      · rintro ⟨h1, h2⟩
        exact ⟨h1, Or.inr h2⟩
      · rintro ⟨h1, h2 | h2⟩
        · subst h2
          refine ⟨h1, ?_⟩
          by_cases c2 : s ∈ r
          · exact c2
          · exact absurd ⟨h1, c2⟩ c
        · exact ⟨h1, h2⟩
theorem dst_nd : ∀ {l : List Str}, (dst l).Nodup := by
  intro l
  induction l with
  | nil => exact List.nodup_nil
  | cons x r ih =>
    show (if spt x = true ∧ ¬ x ∈ r then x :: dst r else dst r).Nodup
    by_cases c : spt x = true ∧ ¬ x ∈ r
    · rw [if_pos c, List.nodup_cons]
      exact ⟨fun z => c.2 (dst_mem.mp z).2, ih⟩
    · rw [if_neg c]; exact ih
theorem nodup_sub : ∀ {l l' : List Str}, l.Nodup → (∀ x ∈ l, x ∈ l') → l.length ≤ l'.length := by
  intro l
  induction l with
  | nil => intro l' _ _; exact Nat.zero_le _
  | cons x r ih =>
    intro l' hnd hsub
    rw [List.nodup_cons] at hnd
    have hx : x ∈ l' := hsub x List.mem_cons_self
    have h1 := ih (l' := l'.erase x) hnd.2 (fun y hy => by
      have hy' := hsub y (List.mem_cons_of_mem _ hy)
      have hne : y ≠ x := fun z => hnd.1 (by rw [← z]; exact hy)
      exact (List.mem_erase_of_ne hne).mpr hy')
    rw [List.length_erase_of_mem hx] at h1
    have := List.length_pos_of_mem hx
    rw [List.length_cons]
    omega
/-- some names more: as many more as there are new ones -/
theorem dst_le {l l' m : List Str} (h : ∀ s ∈ l', spt s = true → s ∈ l ∨ s ∈ m) : (dst l').length ≤ (dst l).length + m.length := by
  have := nodup_sub (l := dst l') (l' := dst l ++ m) dst_nd (fun x hx => by
    have h1 := dst_mem.mp hx
    rcases h x h1.2 h1.1 with h2 | h2
    · exact List.mem_append.mpr (Or.inl (dst_mem.mpr ⟨h1.1, h2⟩))
    · exact List.mem_append.mpr (Or.inr h2))
  rw [List.length_append] at this
  exact this
end JI20
