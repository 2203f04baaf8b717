/-! ===== the validator: declared attributes (13 to 19) ===== -/
/-- what the counts of declarations want of the tables -/
def VD (L : Nat → Nat) (σ : IS) (ed : List EDc) (ad : List ADc) (nt : List Str) : Prop := SI L σ ∧ SL L ∧ JEd L σ ed ∧ JAd L σ ad ∧ JNt L σ nt ∧ ((∀ r, 118 ≤ r → r ≤ 123 → ad.length ≤ L r) ∧ ed.length ≤ L 116 ∧ L 149 = 23 ∧ L 125 = L 102 ∧ L 126 = L 102 ∧ L 127 = L 102) ∧ (σ.1 4 16 ≤ (L 124 : Int) ∧ 0 < L 124 ∧ L 124 < 1000000 ∧ ad.length < 1000000 ∧ ed.length < 1000000 ∧ L 124 * ad.length ≤ 700000000)
section VDs
variable {L : Nat → Nat} {σ τ : IS} {ed : List EDc} {ad : List ADc} {nt : List Str}
theorem ctA_le (hl : ∀ d, (ad.getD d adD).2.2.2.2.2.length ≤ L 124) (h0 : 0 < L 124) (k d : Nat) : ctA ed ad nt k d ≤ L 124 := by
  have h1 := hl d
  have h2 := nok_le (nt := nt) (l := (ad.getD d adD).2.2.2.2.2) (ad.getD d adD).2.2.2.2.2.length
  have h3 := rpk_le (l := (ad.getD d adD).2.2.2.2.2) (ad.getD d adD).2.2.2.2.2.length
  unfold ctA
  repeat' split
  all_goals omega
theorem VD.len (h : VD L σ ed ad nt) (d : Nat) : (ad.getD d adD).2.2.2.2.2.length ≤ L 124 := by
  obtain ⟨-, -, -, ⟨-, hA, -⟩, -, -, h16, -⟩ := h
  by_cases c : d < ad.length
  · obtain ⟨-, -, -, -, -, ⟨b, -, hb, -⟩, -⟩ := hA d c
    have hb' : (b : Int) + ((ad.getD d adD).2.2.2.2.2.length : Int) ≤ σ.1 4 16 := hb
    omega
  · rw [List.getD_eq_getElem?_getD, List.getElem?_eq_none (by omega)]
    exact Nat.zero_le _
theorem bef_s {d t : Nat} {s : Str} (hs : (ad.getD d adD).1 = s) : bef ad d t = (List.range d).any (fun j => (ad.getD j adD).1 == s && (ad.getD j adD).2.2.1 == t) := by
  unfold bef
  rw [hs]
/-- what one declaration adds at a place in its chain -/
theorem any_step {t c c' : Nat} {s : Str} (hc : (ad.getD c adD).1 = s) (hcc : c < c') (hn : ∀ k, c < k → k < c' → (ad.getD k adD).1 ≠ s) : (List.range c').any (fun j => (ad.getD j adD).1 == s && (ad.getD j adD).2.2.1 == t) = ((List.range c).any (fun j => (ad.getD j adD).1 == s && (ad.getD j adD).2.2.1 == t) || (ad.getD c adD).2.2.1 == t) := by
  rw [Bool.eq_iff_iff, Bool.or_eq_true, List.any_eq_true, List.any_eq_true]
  refine ⟨fun ⟨j, h1, h2⟩ => ?_, fun h => ?_⟩
  · rw [List.mem_range] at h1
    rw [Bool.and_eq_true] at h2
    by_cases y : j < c
    · exact Or.inl ⟨j, List.mem_range.mpr y, by rw [Bool.and_eq_true]; exact h2⟩
    · by_cases z : j = c
      · rw [← z]; exact Or.inr h2.2
      · exact absurd (by simpa using h2.1) (hn j (by omega) h1)
  · rcases h with ⟨j, h1, h2⟩ | h
    · exact ⟨j, List.mem_range.mpr (by have := List.mem_range.mp h1; omega), h2⟩
    · exact ⟨c, List.mem_range.mpr hcc, by rw [Bool.and_eq_true]; exact ⟨by simpa using hc, h⟩⟩
end VDs
