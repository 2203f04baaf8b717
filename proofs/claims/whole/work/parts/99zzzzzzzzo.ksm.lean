/-! ===== the reference: the small calls ===== -/
/-- bounds of a document -/
def DBn (d : DOC) : Prop := (elO d).length ≤ 16384 ∧ (atO d).length ≤ 16384 ∧ ∀ i, i < (elO d).length → ((elO d).getD i elD).2.2.1 + ((elO d).getD i elD).2.2.2.1 ≤ (atO d).length
section Ksm
variable {L : Nat → Nat} {rm nd : Nat} {σ : IS} {d : DOC} {Q : Int → IS → Prop}
theorem KBk.st {bk : List Str} {v : Int} {s : Str} (h : KBk σ bk) (hv : Kn bk v s) : ∃ (i b : Nat), v = (i : Int) ∧ i < 50000 ∧ σ.2 213 i = (b : Int) ∧ σ.2 214 i = (s.length : Int) ∧ b + s.length ≤ 170000 ∧ (∀ k, k < s.length → σ.2 212 (b + k) = s.getD k 0) ∧ ((b + s.length : Nat) : Int) ≤ σ.1 13 1 := by
  obtain ⟨⟨b1', b2, b3, b4⟩, -⟩ := h
  have hl := hv.lt
  obtain ⟨i, rfl⟩ : ∃ i : Nat, v = (i : Int) := ⟨v.toNat, by omega⟩
  have hi : i < bk.length := by omega
  have hs : bk.getD i [] = s := by
    have := hv.2
    rw [List.getD_eq_getElem?_getD]
    rw [show Int.toNat (i : Int) = i from rfl] at this
    rw [this]
    rfl
  have hb := b4 i hi
  rw [hs] at hb
  obtain ⟨q1, q2, -⟩ := b1'
  have q3 := q2 i (by omega)
  have e1 : bln σ i = s.length := by
    rw [← hb]
    unfold bstr
    rw [sl_ln]
  have e2 : (σ.2 214 i).toNat = s.length := e1
  refine ⟨i, (σ.2 213 i).toNat, rfl, by omega, by omega, by omega, by omega, fun k hk => ?_, by omega⟩
  have : s[k]? = some (σ.2 212 (bst σ i + k)) := by
    conv => lhs; rw [← hb]
    unfold bstr
    exact sl_get (by omega)
  rw [List.getD_eq_getElem?_getD, this]
  rfl
theorem KDc.up {τ : IS} (h : KDc σ d) (hf : ∀ p k, ¬ (p = 12 ∧ k = 11) → τ.1 p k = σ.1 p k) (hr : τ.2 = σ.2) : KDc τ d := by
  cases d with
  | inl fp =>
    obtain ⟨h1, h2, h3⟩ := h
    exact ⟨by rw [hf 12 6 (by omega)]; exact h1, by rw [hf 12 12 (by omega)]; exact h2, by rw [hf 12 13 (by omega)]; exact h3⟩
  | inr a =>
    obtain ⟨⟨h1, h2, h3⟩, h4⟩ := h
    exact ⟨⟨by rw [hf 12 6 (by omega)]; exact h1, by rw [hf 12 12 (by omega)]; exact h2, by rw [hf 12 13 (by omega)]; exact h3⟩, h4.k12 (fun p k hp => hf p k (fun z => hp z.1)) hr⟩
theorem sp_K_fault (h : KDc σ d) (hq : Q (anF d) (pf σ 12 11 0)) : w_K_fault L Q σ := by
  unfold w_K_fault
  cases d with
  | inl fp => rw [h.2.1]; exact hq
  | inr a => rw [h.1.2.1]; exact hq
theorem sp_K_place (h : KDc σ d) (hq : Q (anP d) (pf σ 12 11 0)) : w_K_place L Q σ := by
  unfold w_K_place
  cases d with
  | inl fp => rw [h.2.2]; exact hq
  | inr a => rw [h.1.2.2]; exact hq
theorem sp_K_elements (h : KDc σ d) (hq : Q (anE d) (pf σ 12 11 0)) : w_K_elements L Q σ := by
  unfold w_K_elements
  cases d with
  | inl fp => rw [h.1, if_pos rfl]; exact hq
  | inr a =>
    obtain ⟨bk, pl, -, h2, -⟩ := h.2
    rw [h.1.1, if_neg (by decide), h2.1]; exact hq
theorem sp_K_counted (h : KDc σ d) (hq : Q (anK d) (pf σ 12 11 0)) : w_K_counted L Q σ := by
  unfold w_K_counted
  cases d with
  | inl fp => rw [h.1, if_pos rfl]; exact hq
  | inr a =>
    obtain ⟨bk, pl, -, -, -, -, -, -, -, -, h9, -⟩ := h.2
    rw [h.1.1, if_neg (by decide), h9]; exact hq
theorem sp_K_characters (h : KDc σ d) (hq : Q (anC d) (pf σ 12 11 0)) : w_K_characters L Q σ := by
  unfold w_K_characters
  cases d with
  | inl fp => rw [h.1, if_pos rfl]; exact hq
  | inr a =>
    obtain ⟨bk, pl, -, -, -, ⟨G, -, -, -, -, ⟨h5, -⟩, -⟩, -⟩ := h.2
    rw [h.1.1, if_neg (by decide), h5]; exact hq
theorem sp_K_violations {k : Int} (hL : KLn L 14 rm nd) (h : KDc σ d) (hq : Q (anV d k) (pf σ 12 11 0)) : w_K_violations L k Q σ := by
  have l18 : L (rfo 14 18) = 23 := by obtain ⟨-, -, -, -, -, -, -, -, -, -, -, -, -, -, -, -, -, -, -, x, -⟩ := hL; exact x
  unfold w_K_violations
  refine ⟨fun _ z1 z2 => ⟨by omega, by rw [l18]; omega⟩, ?_⟩
  cases d with
  | inl fp => rw [h.1, if_pos rfl]; exact hq
  | inr a =>
    obtain ⟨bk, pl, -, -, -, -, -, -, h7, -⟩ := h.2
    rw [h.1.1, if_neg (by decide)]
    unfold anV at hq
    dsimp only at hq
    by_cases c1 : k < 0
    · rw [if_pos c1]; rw [if_neg (by omega)] at hq; exact hq
    · rw [if_neg c1]
      by_cases c2 : k < 23
      · rw [if_pos c2, h7 k.toNat (by omega)]; rw [if_pos (by omega)] at hq; exact hq
      · rw [if_neg c2]; rw [if_neg (by omega)] at hq; exact hq
theorem sp_K_spaces {k : Int} (hL : KLn L 14 rm nd) (h : KDc σ d) (hq : Q (anS d k) (pf σ 12 11 0)) : w_K_spaces L k Q σ := by
  have l19 : L (rfo 14 19) = 6 := by obtain ⟨-, -, -, -, -, -, -, -, -, -, -, -, -, -, -, -, -, -, -, -, x⟩ := hL; exact x
  unfold w_K_spaces
  refine ⟨fun _ z1 z2 => ⟨by omega, by rw [l19]; omega⟩, ?_⟩
  cases d with
  | inl fp => rw [h.1, if_pos rfl]; exact hq
  | inr a =>
    obtain ⟨bk, pl, -, -, -, -, -, -, -, h8, -⟩ := h.2
    rw [h.1.1, if_neg (by decide)]
    unfold anS at hq
    dsimp only at hq
    by_cases c1 : k < 0
    · rw [if_pos c1]; rw [if_neg (by omega)] at hq; exact hq
    · rw [if_neg c1]
      by_cases c2 : k < 6
      · rw [if_pos c2, h8 k.toNat (by omega)]; rw [if_pos (by omega)] at hq; exact hq
      · rw [if_neg c2]; rw [if_neg (by omega)] at hq; exact hq
theorem sp_K_isElement {e : Int} (h : KDc σ d) (hq : Q (b1 (hasE d e)) σ) : w_K_isElement L e Q σ := by
  unfold w_K_isElement
  unfold hasE at hq
  cases d with
  | inl fp =>
    rw [h.1, if_pos rfl]
    rw [decide_eq_false (by show ¬ (0 ≤ e ∧ e < ((0 : Nat) : Int)); omega)] at hq
    exact hq
  | inr a =>
    obtain ⟨bk, pl, -, h2, -⟩ := h.2
    rw [h.1.1, if_neg (by decide), h2.1]
    show Q _ σ
    have e1 : elO (.inr a : DOC) = aL a := rfl
    rw [e1] at hq
    by_cases c1 : e < 0
    · rw [if_pos c1]; rw [decide_eq_false (by omega)] at hq; exact hq
    · rw [if_neg c1]
      by_cases c2 : e < ((aL a).length : Int)
      · rw [if_pos c2]; rw [decide_eq_true ⟨by omega, c2⟩] at hq; exact hq
      · rw [if_neg c2]; rw [decide_eq_false (by omega)] at hq; exact hq
end Ksm
