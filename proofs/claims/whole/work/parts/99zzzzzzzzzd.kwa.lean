/-! ===== the reference: a document that is looked at between two calls ===== -/
/-- what is wanted of it -/
def KD4 (L : Nat → Nat) (o : Nat) (σ : IS) (bk : List Str) (pl : List Int) (ad : List ADc) (el : List Elm) (at_ : List Att) : Prop := KLn L o 0 0 ∧ KBk σ bk ∧ KEl o σ bk el ∧ KAt o σ bk pl ad at_ ∧
  (∀ i, i < el.length → ((el.getD i elD).2.1 = -1 ∨ (0 ≤ (el.getD i elD).2.1 ∧ (el.getD i elD).2.1 < (i : Int)))) ∧ (∀ i, i < el.length → (el.getD i elD).2.2.1 + (el.getD i elD).2.2.2.1 ≤ at_.length ∧ DST at_ (el.getD i elD)) ∧ at_.length ≤ L (rfo o 8) ∧ el.length ≤ 16384 ∧ pl.length ≤ L (rfo o 1) ∧ ∀ i, i < pl.length → σ.2 (rfo o 1) i = pl.getD i 0
section Kwa
variable {L : Nat → Nat} {o : Nat} {σ : IS} {bk : List Str} {pl : List Int} {R : Int → IS → Prop} {ad : List ADc} {el : List Elm} {at_ : List Att} {x y : Int} {s q : Str} {e : Int}
theorem sp_K4_says {t : Nat} (hL : KLn L o 0 0) (h : KBk σ bk) (hv : Kn bk x s) (hq : R (b1 (decide (s = ti t))) σ) : w_KBook_says L x t R σ := by
  obtain ⟨i, b, rfl, i1, i2, i3, i4, i5, -⟩ := h.st hv
  have lb := hL.1
  have hat : ∀ (k : Nat) (R' : Int → IS → Prop), k < s.length → R' (s.getD k 0) σ → w_KBook_at L (i : Int) (k : Int) R' σ := fun k R' hk hR => by
    unfold w_KBook_at
    rw [show Int.toNat (i : Int) = i from rfl, i2, show (b : Int) + (k : Int) = ((b + k : Nat) : Int) by omega, show Int.toNat ((b + k : Nat) : Int) = b + k from rfl, i5 k hk]
    exact ⟨⟨by omega, by have := lb.2.2.1; omega⟩, ⟨by omega, by omega⟩, ⟨by omega, by have := lb.2.1; omega⟩, hR⟩
  have hin : inL L 214 (i : Int) := ⟨by omega, by have := lb.2.2.2.1; omega⟩
  unfold w_KBook_says
  rw [show Int.toNat (i : Int) = i from rfl, i3, tN_i]
  refine ⟨hin, ?_⟩
  by_cases c : s.length = (ti t).length
  · rw [if_pos (by omega)]
    refine WL_ind (fun k ρ => ρ = σ ∧ ∃ n : Nat, k = (n : Int) ∧ n ≤ s.length ∧ ∀ j, j < n → s.getD j 0 = (ti t).getD j 0) (fun k _ => ((s.length : Int) - k).toNat) ?_ 0 σ ⟨rfl, 0, rfl, Nat.zero_le _, fun j hj => absurd hj (Nat.not_lt_zero j)⟩
    rintro k ρ ⟨rfl, n, rfl, n1, n2⟩ K hI
    try dsimp only
    refine ⟨hin, WJ_dir ?_⟩
    rw [i3]
    by_cases cn : n < s.length
    · rw [if_pos (by omega)]
      refine hat n _ cn ⟨⟨by omega, by omega⟩, ?_⟩
      rw [tC_g (by omega)]
      by_cases ce : s.getD n 0 = (ti t).getD n 0
      · rw [if_pos ce]
        refine ⟨⟨by omega, by omega⟩, hI _ _ ⟨rfl, n + 1, by omega, by omega, fun j hj => ?_⟩ (by omega)⟩
        by_cases cj : j = n
        · rw [cj]; exact ce
        · exact n2 j (by omega)
      · rw [if_neg ce]
        dsimp only
        rw [i3, if_neg (by omega)]
        rw [decide_eq_false (fun y => ce (by rw [y]))] at hq
        exact ⟨hin, hq⟩
    · rw [if_neg (by omega)]
      dsimp only
      rw [i3, if_pos (by omega)]
      rw [decide_eq_true (str_ext c (fun j hj => n2 j (by omega)))] at hq
      exact ⟨hin, hq⟩
  · rw [if_neg (by omega)]
    rw [decide_eq_false (fun y => c (by rw [y]))] at hq
    exact hq
theorem sp_K4_isDecl {i : Nat} (h : KD4 L o σ bk pl ad el at_) (hi : i < at_.length) (hx : x = (i : Int)) (hq : R (b1 (dcl (at_.getD i atD).1).isSome) σ) : w_KDoc_isDeclaration L o x R σ := by
  subst hx
  obtain ⟨hL, hZ, -, hA, -, -, hal, -, hpl, -⟩ := h
  obtain ⟨m1, m2, m3, m4, m5, m6⟩ := hA.2 i hi
  obtain ⟨l8, l8', l8''⟩ : (∀ k, 8 ≤ k → k ≤ 13 → L (rfo o k) = L (rfo o 8)) ∧ 16500 ≤ L (rfo o 8) ∧ L (rfo o 8) ≤ 32768 := by obtain ⟨-, -, -, -, -, -, -, -, -, -, -, -, -, -, -, -, -, x, -⟩ := hL; exact x
  have e71 : ti 1096 = sXn := by unfold sXn; rw [ti_1096, ti_1071]
  unfold w_KDoc_isDeclaration
  rw [show Int.toNat (i : Int) = i from rfl]
  refine ⟨⟨by omega, by rw [l8 12 (by omega) (by omega)]; omega⟩, fun _ => ⟨by omega, by omega⟩, ?_⟩
  rcases m5 with ⟨k1, k2⟩ | ⟨k1, k2⟩
  · have k3 := k2.1
    rw [if_neg (by omega)]
    rw [dcl_ok k1] at hq
    refine sp_K4_says hL hZ k2 ⟨b1_01 _, ?_⟩
    rw [e71]
    by_cases c : pfx (at_.getD i atD).1 = sXn
    · rw [if_pos c] at hq; rw [decide_eq_true c]; exact hq
    · rw [if_neg c] at hq; rw [decide_eq_false c]; exact hq
  · rw [if_pos (by omega)]
    rw [dcl_no k1] at hq
    refine sp_K4_says hL hZ m1 ⟨b1_01 _, ?_⟩
    rw [e71]
    by_cases c : (at_.getD i atD).1 = sXn
    · rw [if_pos c] at hq; rw [decide_eq_true c]; exact hq
    · rw [if_neg c] at hq; rw [decide_eq_false c]; exact hq
theorem sp_K4_declares {i : Nat} {y : Int} (h : KD4 L o σ bk pl ad el at_) (hi : i < at_.length) (hx : x = (i : Int)) (hy : KQ bk y q) (hq : R (b1 (decide (dcl (at_.getD i atD).1 = some q))) σ) : w_KDoc_declares L o x y R σ := by
  subst hx
  have h' := h
  obtain ⟨hL, hZ, -, hA, -, -, hal, -, hpl, -⟩ := h'
  obtain ⟨m1, m2, m3, m4, m5, m6⟩ := hA.2 i hi
  obtain ⟨l8, l8', l8''⟩ : (∀ k, 8 ≤ k → k ≤ 13 → L (rfo o k) = L (rfo o 8)) ∧ 16500 ≤ L (rfo o 8) ∧ L (rfo o 8) ≤ 32768 := by obtain ⟨-, -, -, -, -, -, -, -, -, -, -, -, -, -, -, -, -, x, -⟩ := hL; exact x
  have e71 : ti 1096 = sXn := by unfold sXn; rw [ti_1096, ti_1071]
  have hdec := fun R' hq' => sp_K4_isDecl (R := R') h hi rfl hq'
  generalize hnm : (at_.getD i atD).1 = nm at *
  unfold w_KDoc_declares
  rw [show Int.toNat (i : Int) = i from rfl]
  rcases hy with ⟨y1, y2⟩ | ⟨y1, y2⟩
  · rw [if_pos y1]
    refine ⟨⟨by omega, by omega⟩, sp_K4_says hL hZ m1 ⟨b1_01 _, ?_⟩⟩
    have he : (dcl nm = some q) ↔ nm = ti 1096 := by
      rw [e71, y2]
      refine ⟨fun z => ?_, fun z => by rw [dcl_no (by rw [z]; exact okq_XN), if_pos z]⟩
      by_cases c : okq nm
      · rw [dcl_ok c] at z
        split at z
        · exact absurd (Option.some.inj z) (lcl_ok c)
        · cases z
      · rw [dcl_no c] at z
        split at z
        · assumption
        · cases z
    rw [decide_eq_decide.mpr he] at hq
    exact hq
  · have y3 := y1.1
    rw [if_neg (by omega)]
    refine ⟨⟨by omega, by rw [l8 13 (by omega) (by omega)]; omega⟩, WJ_dir (WJ_dir ⟨fun _ => ⟨by omega, by rw [l8 12 (by omega) (by omega)]; omega⟩, ?_⟩)⟩
    have hno : ¬ dcl nm = some q → is01 (0 : Int) ∧ R 0 σ := fun z => by
      rw [decide_eq_false z] at hq
      exact ⟨Or.inl rfl, hq⟩
    by_cases c1 : lcl nm = q
    · have c1' : σ.2 (rfo o 13) i = y := by rw [c1] at m6; exact Kn.inj hZ.2 m6 y1
      rcases m5 with ⟨k1, k2⟩ | ⟨k1, k2⟩
      · have k3 := k2.1
        rw [if_pos ⟨c1', by omega⟩]
        refine hdec _ ?_
        rw [dcl_ok k1]
        by_cases c2 : pfx nm = sXn
        · rw [if_pos c2]
          rw [if_neg (show ¬ b1 (some (lcl nm)).isSome = 0 from fun z => (by cases z))]
          rw [decide_eq_true (by rw [dcl_ok k1, if_pos c2, c1])] at hq
          exact ⟨Or.inr rfl, hq⟩
        · rw [if_neg c2, if_pos (by decide)]
          exact hno (by rw [dcl_ok k1, if_neg c2]; intro z; cases z)
      · rw [if_neg (by omega)]
        refine hno ?_
        rw [dcl_no k1]
        intro z
        split at z
        · exact y2 (Option.some.inj z).symm
        · cases z
    · rw [if_neg (fun z => c1 ((Kn.eqI hZ.2 m6 y1).mp z.1))]
      refine hno (fun z => ?_)
      by_cases k1 : okq nm
      · rw [dcl_ok k1] at z
        split at z
        · exact c1 (Option.some.inj z)
        · cases z
      · rw [dcl_no k1] at z
        split at z
        · exact y2 (Option.some.inj z).symm
        · cases z
theorem sp_K4_saying (h : KD4 L o σ bk pl ad el at_) (he : -1 ≤ e ∧ e < (el.length : Int)) (hy : KQ bk y q) (h1 : q ≠ sXm) (h2 : q ≠ sXn) (hr : ∀ r, SY el at_ e q r → R r σ) : w_KDoc_saying L o e y R σ := by
  have h' := h
  obtain ⟨hL, hZ, hE, hA, hp, hd, hal, hel, hpl, -⟩ := h'
  obtain ⟨l8, l8', l8''⟩ : (∀ k, 8 ≤ k → k ≤ 13 → L (rfo o k) = L (rfo o 8)) ∧ 16500 ≤ L (rfo o 8) ∧ L (rfo o 8) ≤ 32768 := by obtain ⟨-, -, -, -, -, -, -, -, -, -, -, -, -, -, -, -, -, x, -⟩ := hL; exact x
  have l3 : ∀ k, 3 ≤ k → k ≤ 6 → L (rfo o k) = 16384 := by obtain ⟨-, -, -, -, -, -, -, -, -, -, -, -, -, -, -, x, -⟩ := hL; exact x
  unfold w_KDoc_saying
  refine WL_ind (fun k ρ => ρ = σ ∧ -1 ≤ k ∧ k < (el.length : Int) ∧ EN el at_ k q = EN el at_ e q) (fun k _ => (k + 1).toNat) ?_ _ σ ⟨rfl, he.1, he.2, rfl⟩
  rintro k ρ ⟨rfl, k1, k2, k3⟩ K hI
  try dsimp only
  by_cases c : k < 0
  · rw [if_pos c]
    refine hr _ (Or.inl ⟨rfl, ?_⟩)
    rw [← k3, show k = -1 by omega, EN_neg]
  · rw [if_neg c]
    obtain ⟨n, rfl⟩ : ∃ n : Nat, k = (n : Int) := ⟨k.toNat, by omega⟩
    have hn : n < el.length := by omega
    obtain ⟨-, n4, n5, n6⟩ := hE.2 n hn
    obtain ⟨d1, d2⟩ := hd n hn
    have hp' := hp n hn
    have hEN := EN_s (at_ := at_) hp hn
    generalize hw : el.getD n elD = w at *
    refine WL_ind (fun j τ => τ = ρ ∧ ∃ m : Nat, j = (m : Int) ∧ m ≤ w.2.2.2.1 ∧ ∀ i, i < m → dcl (at_.getD (w.2.2.1 + i) atD).1 ≠ some q) (fun j _ => ((w.2.2.2.1 : Int) - j).toNat) ?_ 0 ρ ⟨rfl, 0, rfl, Nat.zero_le _, fun i hi => absurd hi (Nat.not_lt_zero i)⟩
    rintro j τ ⟨rfl, m, rfl, m1, m2⟩ K' hI'
    try dsimp only
    rw [show Int.toNat (n : Int) = n from rfl, n6, n5]
    refine ⟨⟨by omega, by rw [l3 6 (by omega) (by omega)]; omega⟩, ?_⟩
    by_cases cm : m < w.2.2.2.1
    · rw [if_pos (by omega)]
      refine ⟨⟨by omega, by rw [l3 5 (by omega) (by omega)]; omega⟩, ⟨by omega, by omega⟩, sp_K4_declares h (i := w.2.2.1 + m) (by omega) (by omega) hy ?_⟩
      by_cases cd : dcl (at_.getD (w.2.2.1 + m) atD).1 = some q
      · rw [decide_eq_true cd, if_neg (by decide), n5]
        refine ⟨⟨by omega, by rw [l3 5 (by omega) (by omega)]; omega⟩, ⟨by omega, by omega⟩, hr _ (Or.inr ⟨w.2.2.1 + m, by omega, by omega, ?_⟩)⟩
        rw [← k3, hEN]
        exact (ent2_at d2 cm cd h1 h2).symm
      · rw [decide_eq_false cd, if_pos (by decide)]
        refine ⟨⟨by omega, by omega⟩, hI' _ _ ⟨rfl, m + 1, by omega, by omega, fun i hi => ?_⟩ (by omega)⟩
        by_cases ci : i = m
        · rw [ci]; exact cd
        · exact m2 i (by omega)
    · rw [if_neg (by omega), n4]
      refine ⟨⟨by omega, by rw [l3 4 (by omega) (by omega)]; omega⟩, hI _ _ ⟨rfl, by omega, by omega, ?_⟩ (by omega)⟩
      rw [← k3, hEN, ent2_no (fun t ht => ?_)]
      unfold ats at ht
      obtain ⟨i, i1, i2⟩ := List.mem_map.mp ht
      rw [← i2]
      exact m2 i (by have := List.mem_range.mp i1; omega)
end Kwa
