/-! ===== the reference: what names say, what prefixes mean ===== -/
section Ksy
variable {L : Nat → Nat} {rm nd o : Nat} {σ : IS} {g : KG} {Q : IS → Prop} {R : Int → IS → Prop} {ad : List ADc} {el : List Elm} {at_ : List Att} {x : Int} {s q : Str}
theorem str_ext {l m : Str} (h : l.length = m.length) (hk : ∀ k, k < l.length → l.getD k 0 = m.getD k 0) : l = m := List.ext_getElem? (fun j => by
  by_cases cj : j < l.length
  · have := hk j cj
    rw [List.getD_eq_getElem?_getD, List.getD_eq_getElem?_getD, List.getElem?_eq_getElem cj, List.getElem?_eq_getElem (by omega)] at this
    rw [List.getElem?_eq_getElem cj, List.getElem?_eq_getElem (by omega)]
    exact congrArg some this
  · rw [List.getElem?_eq_none (by omega), List.getElem?_eq_none (by omega)])
theorem tC_g {t k : Nat} (h : k < (ti t).length) : tC t (k : Int) = (ti t).getD k 0 := by
  rw [tC_i rfl h, List.getD_eq_getElem?_getD, List.getElem?_eq_getElem h]; rfl
theorem sp_K_says {t : Nat} (hL : KLn L o rm nd) (h : KZ rm nd o σ g) (hv : Kn (gB g) x s) (hq : R (b1 (decide (s = ti t))) σ) : w_KBook_says L x t R σ := by
  obtain ⟨i, b, rfl, i1, i2, i3, i4, i5, -⟩ := h.st hv
  have lb := hL.1
  have hat : ∀ (k : Nat) (R' : Int → IS → Prop), k < s.length → R' (s.getD k 0) σ → w_KBook_at L (i : Int) (k : Int) R' σ := fun k R' hk hR => by
    unfold w_KBook_at
    rw [show Int.toNat (i : Int) = i from rfl, i2, show (b : Int) + (k : Int) = ((b + k : Nat) : Int) by omega, show Int.toNat ((b + k : Nat) : Int) = b + k from rfl, i5 k hk]
    exact ⟨⟨by omega, by have := lb.2.2.1; omega⟩, ⟨by omega, by omega⟩, ⟨by omega, by have := lb.2.1; omega⟩, hR⟩
  have hin : inL L 214 (i : Int) := ⟨by omega, by have := lb.2.2.2.1; omega⟩
  unfold w_KBook_says
  rw [show Int.toNat (i : Int) = i from rfl, i3, tN_i]
  refine ⟨hin, ?_⟩
  by_cases c : s.length = (ti t).length
  · rw [if_pos (by omega)]
    refine WL_ind (fun k ρ => ρ = σ ∧ ∃ n : Nat, k = (n : Int) ∧ n ≤ s.length ∧ ∀ j, j < n → s.getD j 0 = (ti t).getD j 0) (fun k _ => ((s.length : Int) - k).toNat) ?_ 0 σ ⟨rfl, 0, rfl, Nat.zero_le _, fun j hj => absurd hj (Nat.not_lt_zero j)⟩
    rintro k ρ ⟨rfl, n, rfl, n1, n2⟩ K hI
    try dsimp only
    refine ⟨hin, WJ_dir ?_⟩
    rw [i3]
    by_cases cn : n < s.length
    · rw [if_pos (by omega)]
      refine hat n _ cn ⟨⟨by omega, by omega⟩, ?_⟩
      rw [tC_g (by omega)]
      by_cases ce : s.getD n 0 = (ti t).getD n 0
      · rw [if_pos ce]
        refine ⟨⟨by omega, by omega⟩, hI _ _ ⟨rfl, n + 1, by omega, by omega, fun j hj => ?_⟩ (by omega)⟩
        by_cases cj : j = n
        · rw [cj]; exact ce
        · exact n2 j (by omega)
      · rw [if_neg ce]
        dsimp only
        rw [i3, if_neg (by omega)]
        rw [decide_eq_false (fun y => ce (by rw [y]))] at hq
        exact ⟨hin, hq⟩
    · rw [if_neg (by omega)]
      dsimp only
      rw [i3, if_pos (by omega)]
      rw [decide_eq_true (str_ext c (fun j hj => n2 j (by omega)))] at hq
      exact ⟨hin, hq⟩
  · rw [if_neg (by omega)]
    rw [decide_eq_false (fun y => c (by rw [y]))] at hq
    exact hq
/-- what is wanted of a document that is looked at -/
def KD3 (L : Nat → Nat) (rm nd o : Nat) (σ : IS) (g : KG) (ad : List ADc) (el : List Elm) (at_ : List Att) : Prop := KLn L o rm nd ∧ KZ rm nd o σ g ∧ KEl o σ (gB g) el ∧ KAt o σ (gB g) (gP g) ad at_ ∧
  (∀ i, i < el.length → ((el.getD i elD).2.1 = -1 ∨ (0 ≤ (el.getD i elD).2.1 ∧ (el.getD i elD).2.1 < (i : Int)))) ∧ (∀ i, i < el.length → (el.getD i elD).2.2.1 + (el.getD i elD).2.2.2.1 ≤ at_.length ∧ DST at_ (el.getD i elD)) ∧ at_.length ≤ L (rfo o 8) ∧ el.length ≤ 16384 ∧ (gP g).length ≤ L (rfo o 1)
theorem sp_K_isValue {i t : Nat} (h : KD3 L rm nd o σ g ad el at_) (hi : i < at_.length) (hx : x = (i : Int)) (hq : R (b1 (decide ((at_.getD i atD).2.1 = ti t))) σ) : w_KDoc_isValue L o x t R σ := by
  subst hx
  obtain ⟨hL, hZ, -, hA, -, -, hal, -, hpl⟩ := h
  obtain ⟨m1, m2, m3, m4, m5, m6⟩ := hA.2 i hi
  obtain ⟨l8, l8', l8''⟩ : (∀ k, 8 ≤ k → k ≤ 13 → L (rfo o k) = L (rfo o 8)) ∧ 16500 ≤ L (rfo o 8) ∧ L (rfo o 8) ≤ 32768 := by obtain ⟨-, -, -, -, -, -, -, -, -, -, -, -, -, -, -, -, -, x, -⟩ := hL; exact x
  obtain ⟨lp1, lp2⟩ : rm ≤ L (rfo o 1) ∧ L (rfo o 1) ≤ 262144 := by obtain ⟨-, -, -, -, -, -, -, -, -, -, -, -, -, -, -, -, x, -⟩ := hL; exact x
  generalize hval : (at_.getD i atD).2.1 = val at *
  obtain ⟨p, p1, p2, p3⟩ := m2.at_
  have hin : inL L (rfo o 10) (i : Int) := ⟨by omega, by rw [l8 10 (by omega) (by omega)]; omega⟩
  unfold w_KDoc_isValue
  rw [show Int.toNat (i : Int) = i from rfl, m3, tN_i]
  refine ⟨hin, ?_⟩
  by_cases c : val.length = (ti t).length
  · rw [if_pos (by omega)]
    refine WL_ind (fun k ρ => ρ = σ ∧ ∃ n : Nat, k = (n : Int) ∧ n ≤ val.length ∧ ∀ j, j < n → val.getD j 0 = (ti t).getD j 0) (fun k _ => ((val.length : Int) - k).toNat) ?_ 0 σ ⟨rfl, 0, rfl, Nat.zero_le _, fun j hj => absurd hj (Nat.not_lt_zero j)⟩
    rintro k ρ ⟨rfl, n, rfl, n1, n2⟩ K hI
    try dsimp only
    rw [m3, p1]
    refine ⟨hin, fun _ => ⟨⟨by omega, by rw [l8 9 (by omega) (by omega)]; omega⟩, ⟨by omega, by omega⟩, ⟨by omega, by omega⟩, ⟨by omega, by omega⟩⟩, ?_⟩
    rw [show Int.toNat ((p : Int) + (n : Int)) = p + n by omega]
    by_cases cn : n < val.length
    · have e1 : ρ.2 (rfo o 1) (p + n) = val.getD n 0 := by rw [hZ.2.2.2.1.2 (p + n) (by omega)]; exact p3 n cn
      rw [e1, tC_g (by omega)]
      by_cases ce : val.getD n 0 = (ti t).getD n 0
      · rw [if_pos ⟨by omega, ce⟩]
        refine ⟨⟨by omega, by omega⟩, hI _ _ ⟨rfl, n + 1, by omega, by omega, fun j hj => ?_⟩ (by omega)⟩
        by_cases cj : j = n
        · rw [cj]; exact ce
        · exact n2 j (by omega)
      · rw [if_neg (fun y => ce y.2), if_neg (by omega)]
        rw [decide_eq_false (fun y => ce (by rw [y]))] at hq
        exact ⟨hin, hq⟩
    · rw [if_neg (fun y => cn (by omega)), if_pos (by omega)]
      rw [decide_eq_true (str_ext c (fun j hj => n2 j (by omega)))] at hq
      exact ⟨hin, hq⟩
  · rw [if_neg (by omega)]
    rw [decide_eq_false (fun y => c (by rw [y]))] at hq
    exact hq
theorem sp_K_sameValue {i j : Nat} {y : Int} (h : KD3 L rm nd o σ g ad el at_) (hi : i < at_.length) (hj : j < at_.length) (hx : x = (i : Int)) (hy : y = (j : Int)) (hq : R (b1 (decide ((at_.getD i atD).2.1 = (at_.getD j atD).2.1))) σ) : w_KDoc_sameValue L o x y R σ := by
  subst hx hy
  obtain ⟨hL, hZ, -, hA, -, -, hal, -, hpl⟩ := h
  obtain ⟨-, m2, m3, -⟩ := hA.2 i hi
  obtain ⟨-, k2, k3, -⟩ := hA.2 j hj
  obtain ⟨l8, l8', l8''⟩ : (∀ k, 8 ≤ k → k ≤ 13 → L (rfo o k) = L (rfo o 8)) ∧ 16500 ≤ L (rfo o 8) ∧ L (rfo o 8) ≤ 32768 := by obtain ⟨-, -, -, -, -, -, -, -, -, -, -, -, -, -, -, -, -, x, -⟩ := hL; exact x
  unfold w_KDoc_sameValue
  rw [show Int.toNat (i : Int) = i from rfl, show Int.toNat (j : Int) = j from rfl]
  exact ⟨⟨by omega, by rw [l8 9 (by omega) (by omega)]; omega⟩, ⟨by omega, by rw [l8 10 (by omega) (by omega)]; omega⟩, ⟨by omega, by rw [l8 9 (by omega) (by omega)]; omega⟩, ⟨by omega, by rw [l8 10 (by omega) (by omega)]; omega⟩, sp_K_same hL hZ hpl m2 k2 m3 k3 ⟨b1_01 _, hq⟩⟩
theorem okq_XN : ¬ okq sXn := by
  unfold okq sXn
  rw [ti_1071]
  decide
theorem pfx_okq (h : okq s) : prf s = some (pfx s) ∧ pfx s ≠ [] := by
  have h1 := (prf_1 h).1
  have h2 : pfx s = s.take (clk s s.length).1.toNat := by unfold pfx; rw [h1]; rfl
  refine ⟨by rw [h1, h2], fun z => ?_⟩
  rw [h2] at z
  have h3 := congrArg List.length z
  rw [List.length_take] at h3
  have h4 := h.2.1
  have h5 := h.2.2.1
  have h6 : ([] : Str).length = 0 := rfl
  omega
theorem pfx_no (h : ¬ okq s) : pfx s = [] := by
  unfold pfx
  by_cases c : (clk s s.length).2 = 0
  · rw [(prf_0 c).1]; rfl
  · rw [(prf_n c h).1]; rfl
theorem dcl_ok (h : okq s) : dcl s = if pfx s = sXn then some (lcl s) else none := by
  unfold dcl
  rw [if_neg (fun z => okq_XN (by rw [← z]; exact h)), (pfx_okq h).1]
  by_cases c : pfx s = sXn
  · rw [if_pos (by rw [c]), if_pos c]
  · rw [if_neg (fun z => c (Option.some.inj z)), if_neg c]
theorem dcl_no (h : ¬ okq s) : dcl s = if s = sXn then some [] else none := by
  unfold dcl
  by_cases c : s = sXn
  · rw [if_pos c, if_pos c]
  · rw [if_neg c, if_neg c]
    by_cases c0 : (clk s s.length).2 = 0
    · rw [(prf_0 c0).1, if_neg (fun z => by have := Option.some.inj z; unfold sXn at this; rw [ti_1071] at this; cases this)]
    · rw [(prf_n c0 h).1, if_neg (fun z => by cases z)]
theorem lcl_ok (h : okq s) : lcl s ≠ [] := fun z => by
  rw [(prf_1 h).2] at z
  have h3 := congrArg List.length z
  rw [List.length_drop] at h3
  have h5 := h.2.2.1
  have h4 := h.2.1
  have h6 : ([] : Str).length = 0 := rfl
  omega
theorem sp_K_isDecl {i : Nat} (h : KD3 L rm nd o σ g ad el at_) (hi : i < at_.length) (hx : x = (i : Int)) (hq : R (b1 (dcl (at_.getD i atD).1).isSome) σ) : w_KDoc_isDeclaration L o x R σ := by
  subst hx
  obtain ⟨hL, hZ, -, hA, -, -, hal, -, hpl⟩ := h
  obtain ⟨m1, m2, m3, m4, m5, m6⟩ := hA.2 i hi
  obtain ⟨l8, l8', l8''⟩ : (∀ k, 8 ≤ k → k ≤ 13 → L (rfo o k) = L (rfo o 8)) ∧ 16500 ≤ L (rfo o 8) ∧ L (rfo o 8) ≤ 32768 := by obtain ⟨-, -, -, -, -, -, -, -, -, -, -, -, -, -, -, -, -, x, -⟩ := hL; exact x
  have e71 : ti 1096 = sXn := by unfold sXn; rw [ti_1096, ti_1071]
  unfold w_KDoc_isDeclaration
  rw [show Int.toNat (i : Int) = i from rfl]
  refine ⟨⟨by omega, by rw [l8 12 (by omega) (by omega)]; omega⟩, fun _ => ⟨by omega, by omega⟩, ?_⟩
  rcases m5 with ⟨k1, k2⟩ | ⟨k1, k2⟩
  · have k3 := k2.1
    rw [if_neg (by omega)]
    rw [dcl_ok k1] at hq
    refine sp_K_says hL hZ k2 ⟨b1_01 _, ?_⟩
    rw [e71]
    by_cases c : pfx (at_.getD i atD).1 = sXn
    · rw [if_pos c] at hq; rw [decide_eq_true c]; exact hq
    · rw [if_neg c] at hq; rw [decide_eq_false c]; exact hq
  · rw [if_pos (by omega)]
    rw [dcl_no k1] at hq
    refine sp_K_says hL hZ m1 ⟨b1_01 _, ?_⟩
    rw [e71]
    by_cases c : (at_.getD i atD).1 = sXn
    · rw [if_pos c] at hq; rw [decide_eq_true c]; exact hq
    · rw [if_neg c] at hq; rw [decide_eq_false c]; exact hq
/-- a prefix, or none -/
def KQ (bk : List Str) (x : Int) (q : Str) : Prop := (x = -1 ∧ q = []) ∨ (Kn bk x q ∧ q ≠ [])
theorem sp_K_declares {i : Nat} {y : Int} (h : KD3 L rm nd o σ g ad el at_) (hi : i < at_.length) (hx : x = (i : Int)) (hy : KQ (gB g) y q) (hq : R (b1 (decide (dcl (at_.getD i atD).1 = some q))) σ) : w_KDoc_declares L o x y R σ := by
  subst hx
  have h' := h
  obtain ⟨hL, hZ, -, hA, -, -, hal, -, hpl⟩ := h'
  obtain ⟨m1, m2, m3, m4, m5, m6⟩ := hA.2 i hi
  obtain ⟨l8, l8', l8''⟩ : (∀ k, 8 ≤ k → k ≤ 13 → L (rfo o k) = L (rfo o 8)) ∧ 16500 ≤ L (rfo o 8) ∧ L (rfo o 8) ≤ 32768 := by obtain ⟨-, -, -, -, -, -, -, -, -, -, -, -, -, -, -, -, -, x, -⟩ := hL; exact x
  have e71 : ti 1096 = sXn := by unfold sXn; rw [ti_1096, ti_1071]
  have hdec := fun R' hq' => sp_K_isDecl (R := R') h hi rfl hq'
  generalize hnm : (at_.getD i atD).1 = nm at *
  unfold w_KDoc_declares
  rw [show Int.toNat (i : Int) = i from rfl]
  rcases hy with ⟨y1, y2⟩ | ⟨y1, y2⟩
  · rw [if_pos y1]
    refine ⟨⟨by omega, by omega⟩, sp_K_says hL hZ m1 ⟨b1_01 _, ?_⟩⟩
    have he : (dcl nm = some q) ↔ nm = ti 1096 := by
      rw [e71, y2]
      refine ⟨fun z => ?_, fun z => by rw [dcl_no (by rw [z]; exact okq_XN), if_pos z]⟩
      by_cases c : okq nm
      · rw [dcl_ok c] at z
        split at z
        · exact absurd (Option.some.inj z) (lcl_ok c)
        · cases z
      · rw [dcl_no c] at z
        split at z
        · assumption
        · cases z
    rw [decide_eq_decide.mpr he] at hq
    exact hq
  · have y3 := y1.1
    rw [if_neg (by omega)]
    refine ⟨⟨by omega, by rw [l8 13 (by omega) (by omega)]; omega⟩, WJ_dir (WJ_dir ⟨fun _ => ⟨by omega, by rw [l8 12 (by omega) (by omega)]; omega⟩, ?_⟩)⟩
    have hno : ¬ dcl nm = some q → is01 (0 : Int) ∧ R 0 σ := fun z => by
      rw [decide_eq_false z] at hq
      exact ⟨Or.inl rfl, hq⟩
    by_cases c1 : lcl nm = q
    · have c1' : σ.2 (rfo o 13) i = y := by rw [c1] at m6; exact Kn.inj hZ.2.1 m6 y1
      rcases m5 with ⟨k1, k2⟩ | ⟨k1, k2⟩
      · have k3 := k2.1
        rw [if_pos ⟨c1', by omega⟩]
        refine hdec _ ?_
        rw [dcl_ok k1]
        by_cases c2 : pfx nm = sXn
        · rw [if_pos c2]
          rw [if_neg (show ¬ b1 (some (lcl nm)).isSome = 0 from fun z => (by cases z))]
          rw [decide_eq_true (by rw [dcl_ok k1, if_pos c2, c1])] at hq
          exact ⟨Or.inr rfl, hq⟩
        · rw [if_neg c2, if_pos (by decide)]
          exact hno (by rw [dcl_ok k1, if_neg c2]; intro z; cases z)
      · rw [if_neg (by omega)]
        refine hno ?_
        rw [dcl_no k1]
        intro z
        split at z
        · exact y2 (Option.some.inj z).symm
        · cases z
    · rw [if_neg (fun z => c1 ((Kn.eqI hZ.2.1 m6 y1).mp z.1))]
      refine hno (fun z => ?_)
      by_cases k1 : okq nm
      · rw [dcl_ok k1] at z
        split at z
        · exact c1 (Option.some.inj z)
        · cases z
      · rw [dcl_no k1] at z
        split at z
        · exact y2 (Option.some.inj z).symm
        · cases z
end Ksy
