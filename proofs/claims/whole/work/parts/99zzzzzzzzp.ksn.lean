/-! ===== the reference: names and attributes ===== -/
section Ksn
variable {L : Nat → Nat} {rm nd : Nat} {σ : IS} {d : DOC} {Q : Int → IS → Prop}
theorem sp_K_letterOf {bk : List Str} {v i : Int} {s : Str} (hL : BL L) (h : KBk σ bk) (hv : Kn bk v s) (hq : Q (ltAt s i) σ) : w_K_letterOf L v i Q σ := by
  obtain ⟨j, b, rfl, i1, i2, i3, i4, i5, -⟩ := h.st hv
  unfold w_K_letterOf
  unfold ltAt at hq
  refine WJ_dir (WJ_dir ?_)
  by_cases c1 : i < 0
  · rw [if_pos c1]; rw [if_pos c1] at hq; exact hq
  · rw [if_neg c1]; rw [if_neg c1] at hq
    unfold w_KBook_length
    rw [show Int.toNat (j : Int) = j from rfl, i3]
    refine ⟨⟨by omega, by have := hL.2.2.2.1; omega⟩, ?_⟩
    dsimp only
    by_cases c2 : i < (s.length : Int)
    · rw [if_pos c2]; rw [if_pos c2] at hq
      obtain ⟨k, rfl⟩ : ∃ k : Nat, i = (k : Int) := ⟨i.toNat, by omega⟩
      unfold w_KBook_at
      rw [show Int.toNat (j : Int) = j from rfl, i2, show (b : Int) + (k : Int) = ((b + k : Nat) : Int) by omega, show Int.toNat ((b + k : Nat) : Int) = b + k from rfl, i5 k (by omega)]
      exact ⟨⟨by omega, by have := hL.2.2.1; omega⟩, ⟨by omega, by omega⟩, ⟨by omega, by have := hL.2.1; omega⟩, hq⟩
    · rw [if_neg c2]; rw [if_neg c2] at hq; exact hq
theorem hasE_at {e : Int} (h : hasE d e = true) (hD : KDc σ d) : ∃ a i, d = .inr a ∧ e = ((i : Nat) : Int) ∧ i < (aL a).length ∧ KDm σ a := by
  unfold hasE at h
  have h1 := of_decide_eq_true h
  cases d with
  | inl fp =>
    have : ((elO (.inl fp : DOC)).length : Int) = 0 := rfl
    omega
  | inr a => exact ⟨a, e.toNat, rfl, by omega, by have : (elO (.inr a : DOC)) = aL a := rfl; rw [this] at h1; omega, hD.2⟩
theorem sp_K_attributes {e : Int} (hL : KLn L 14 rm nd) (hb : DBn d) (h : KDc σ d) (hq : Q (anA d e) (pf σ 12 11 0)) : w_K_attributes L e Q σ := by
  have l3 : ∀ k, 3 ≤ k → k ≤ 6 → L (rfo 14 k) = 16384 := by obtain ⟨-, -, -, -, -, -, -, -, -, -, -, -, -, -, -, x, -⟩ := hL; exact x
  have h' : KDc (pf σ 12 11 0) d := h.up (fun p k z => by rw [pf_1, if_neg z]) rfl
  unfold w_K_attributes
  refine sp_K_isElement h' ?_
  unfold anA at hq
  cases hh : hasE d e with
  | false =>
    rw [hh, if_neg (by decide)] at hq
    exact ⟨fun z => absurd rfl z, by rw [if_pos (by decide)]; exact hq⟩
  | true =>
    rw [hh, if_pos rfl] at hq
    obtain ⟨a, i, rfl, rfl, hi, hm⟩ := hasE_at hh h'
    obtain ⟨bk, pl, -, h2, -⟩ := hm
    have hb1 : (aL a).length ≤ 16384 := hb.1
    refine ⟨fun _ => ⟨by omega, by rw [l3 6 (by omega) (by omega)]; omega⟩, ?_⟩
    rw [if_neg (by decide), show Int.toNat (i : Int) = i from rfl, (h2.2 i hi).2.2.2]
    exact hq
theorem sp_K_parent {e : Int} (hL : KLn L 14 rm nd) (hb : DBn d) (h : KDc σ d) (hq : Q (anR d e) (pf σ 12 11 0)) : w_K_parent L e Q σ := by
  have l3 : ∀ k, 3 ≤ k → k ≤ 6 → L (rfo 14 k) = 16384 := by obtain ⟨-, -, -, -, -, -, -, -, -, -, -, -, -, -, -, x, -⟩ := hL; exact x
  have h' : KDc (pf σ 12 11 0) d := h.up (fun p k z => by rw [pf_1, if_neg z]) rfl
  unfold w_K_parent
  refine sp_K_isElement h' ?_
  unfold anR at hq
  cases hh : hasE d e with
  | false =>
    rw [hh, if_neg (by decide)] at hq
    exact ⟨fun z => absurd rfl z, by rw [if_pos (by decide)]; exact hq⟩
  | true =>
    rw [hh, if_pos rfl] at hq
    obtain ⟨a, i, rfl, rfl, hi, hm⟩ := hasE_at hh h'
    obtain ⟨bk, pl, -, h2, -⟩ := hm
    have hb1 : (aL a).length ≤ 16384 := hb.1
    refine ⟨fun _ => ⟨by omega, by rw [l3 4 (by omega) (by omega)]; omega⟩, ?_⟩
    rw [if_neg (by decide), show Int.toNat (i : Int) = i from rfl, (h2.2 i hi).2.1]
    exact hq
theorem sp_K_name {e j : Int} (hL : KLn L 14 rm nd) (hb : DBn d) (h : KDc σ d) (hq : Q (anN d e j) (pf σ 12 11 0)) : w_K_name L e j Q σ := by
  have l3 : ∀ k, 3 ≤ k → k ≤ 6 → L (rfo 14 k) = 16384 := by obtain ⟨-, -, -, -, -, -, -, -, -, -, -, -, -, -, -, x, -⟩ := hL; exact x
  have h' : KDc (pf σ 12 11 0) d := h.up (fun p k z => by rw [pf_1, if_neg z]) rfl
  unfold w_K_name
  refine sp_K_isElement h' (WJ_dir ?_)
  unfold anN at hq
  cases hh : hasE d e with
  | false =>
    rw [hh, if_neg (by decide)] at hq
    rw [if_pos (by decide)]
    exact hq
  | true =>
    rw [hh, if_pos rfl] at hq
    obtain ⟨a, i, rfl, rfl, hi, hm⟩ := hasE_at hh h'
    obtain ⟨bk, pl, h1, h2, -⟩ := hm
    have hb1 : (aL a).length ≤ 16384 := hb.1
    rw [if_neg (by decide), show Int.toNat (i : Int) = i from rfl]
    exact ⟨⟨by omega, by rw [l3 3 (by omega) (by omega)]; omega⟩, sp_K_letterOf hL.1 h1 (h2.2 i hi).1 hq⟩
theorem sp_K_attribute {e x w j : Int} (hL : KLn L 14 rm nd) (hb : DBn d) (h : KDc σ d) (hrm : ∀ a, d = .inr a → aN a 0 ≤ rm) (hq : Q (anT d e x w j) (pf σ 12 11 0)) : w_K_attribute L e x w j Q σ := by
  have l3 : ∀ k, 3 ≤ k → k ≤ 6 → L (rfo 14 k) = 16384 := by obtain ⟨-, -, -, -, -, -, -, -, -, -, -, -, -, -, -, x, -⟩ := hL; exact x
  obtain ⟨l8, l8', l8''⟩ : (∀ k, 8 ≤ k → k ≤ 13 → L (rfo 14 k) = L (rfo 14 8)) ∧ 16500 ≤ L (rfo 14 8) ∧ L (rfo 14 8) ≤ 32768 := by obtain ⟨-, -, -, -, -, -, -, -, -, -, -, -, -, -, -, -, -, x, -⟩ := hL; exact x
  obtain ⟨lp1, lp2⟩ : rm ≤ L (rfo 14 1) ∧ L (rfo 14 1) ≤ 262144 := by obtain ⟨-, -, -, -, -, -, -, -, -, -, -, -, -, -, -, -, x, -⟩ := hL; exact x
  have h' : KDc (pf σ 12 11 0) d := h.up (fun p k z => by rw [pf_1, if_neg z]) rfl
  unfold w_K_attribute
  refine sp_K_isElement h' ?_
  unfold anT at hq
  generalize pf σ 12 11 0 = τ at *
  cases hh : hasE d e with
  | false =>
    rw [hh, if_neg (fun z => by cases z.1)] at hq
    refine ⟨fun z => absurd rfl z, ?_⟩
    rw [if_neg (fun z => z.1 rfl)]
    exact hq
  | true =>
    rw [hh] at hq
    obtain ⟨a, i, rfl, rfl, hi, hm⟩ := hasE_at hh h'
    obtain ⟨bk, pl, h1, h2, h3, -, ⟨h5, h5'⟩, h6, -⟩ := hm
    have hr := hrm a rfl
    have hb1 : (aL a).length ≤ 16384 := hb.1
    have hb2 : (aB a).length ≤ 16384 := hb.2.1
    have hb3 : ((aL a).getD i elD).2.2.1 + ((aL a).getD i elD).2.2.2.1 ≤ (aB a).length := hb.2.2 i hi
    obtain ⟨-, -, n5, n6⟩ := h2.2 i hi
    rw [show elO (.inr a : DOC) = aL a from rfl, show atO (.inr a : DOC) = aB a from rfl, show Int.toNat (i : Int) = i from rfl] at hq
    rw [show Int.toNat (i : Int) = i from rfl, n5, n6]
    refine ⟨fun _ _ => ⟨by omega, by rw [l3 6 (by omega) (by omega)]; omega⟩, ?_⟩
    by_cases c : (0 ≤ x ∧ x < (((aL a).getD i elD).2.2.2.1 : Int)) ∧ (w = 0 ∨ w = 1)
    · rw [if_pos ⟨rfl, c⟩] at hq
      rw [if_pos ⟨by decide, by omega, by omega, by omega, by omega⟩]
      obtain ⟨k, rfl⟩ : ∃ k : Nat, x = (k : Int) := ⟨x.toNat, by omega⟩
      rw [show Int.toNat (k : Int) = k from rfl] at hq
      generalize hel : (aL a).getD i elD = el at *
      obtain ⟨m1, m2, m3, -⟩ := h3.2 (el.2.2.1 + k) (by omega)
      generalize hat : (aB a).getD (el.2.2.1 + k) atD = t at *
      rw [show ((el.2.2.1 : Nat) : Int) + (k : Int) = ((el.2.2.1 + k : Nat) : Int) by omega, show Int.toNat ((el.2.2.1 + k : Nat) : Int) = el.2.2.1 + k from rfl]
      refine ⟨⟨by omega, by rw [l3 5 (by omega) (by omega)]; omega⟩, ⟨by omega, by omega⟩, ?_⟩
      by_cases c0 : w = 0
      · rw [if_pos c0]; rw [if_pos c0] at hq
        exact ⟨⟨by omega, by omega⟩, sp_K_letterOf hL.1 h1 m1 hq⟩
      · rw [if_neg c0]; rw [if_neg c0] at hq
        obtain ⟨p, p1, p2, p3⟩ := m2.at_
        rw [p1, m3]
        refine ⟨fun _ => ⟨⟨by omega, by rw [l8 10 (by omega) (by omega)]; omega⟩, fun _ => ⟨⟨by omega, by rw [l8 9 (by omega) (by omega)]; omega⟩, ⟨by omega, by omega⟩, ⟨by omega, by omega⟩⟩⟩, ?_⟩
        unfold ltAt at hq
        by_cases c1 : j < 0
        · rw [if_pos c1]; rw [if_pos c1] at hq; exact hq
        · rw [if_neg c1]; rw [if_neg c1] at hq
          by_cases c2 : j < (t.2.1.length : Int)
          · rw [if_pos c2]; rw [if_pos c2] at hq
            rw [show Int.toNat ((p : Int) + j) = p + j.toNat by omega, h5' _ (by omega), p3 j.toNat (by omega)]
            exact hq
          · rw [if_neg c2]; rw [if_neg c2] at hq; exact hq
    · rw [if_neg (fun z => c z.2)] at hq
      rw [if_neg (fun z => c ⟨⟨by omega, z.2.2.1⟩, by omega⟩)]
      exact hq
end Ksn
