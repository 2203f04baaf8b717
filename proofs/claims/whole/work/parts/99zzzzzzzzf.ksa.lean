/-! ===== the reference: the declaration that holds ===== -/
section Ksa
variable {L : Nat → Nat} {rm nd o : Nat} {σ : IS} {g : KG} {Q : IS → Prop} {R : Int → IS → Prop} {ad : List ADc} {el : List Elm} {at_ : List Att} {x y z : Int} {s p q : Str} {e : Int}
theorem ent2_x {E : Str → Str} (hq : q = sXm ∨ q = sXn) (l : List Att) : ent2 E l q = E q := by
  unfold ent2
  induction l generalizing E with
  | nil => rfl
  | cons t r ih =>
    rw [List.foldl_cons, ih]
    cases hd : dcl t.1 with
    | none => rw [upN_none hd]
    | some p =>
      rw [upN_at hd]
      by_cases c : p = sXm ∨ p = sXn
      · rw [if_pos c]
      · rw [if_neg c]
        try dsimp only
        rw [if_neg (fun y => c (by rw [← y]; exact hq))]
theorem EN_x (hq : q = sXm ∨ q = sXn) : EN el at_ e q = env0 q := by
  unfold EN
  generalize el.length + 1 = f
  induction f generalizing e with
  | zero => rfl
  | succ f ih =>
    unfold envA
    split
    · rfl
    · rw [ent2_x hq, ih]
theorem sXm_ne : sXm ≠ sXn := by unfold sXm sXn; decide +kernel
theorem env0_q (h : q ≠ sXm) : env0 q = [] := by unfold env0; rw [if_neg h]
theorem ent2_at {E : Str → Str} {w : Elm} {i : Nat} (hd : DST at_ w) (hi : i < w.2.2.2.1) (h : dcl (at_.getD (w.2.2.1 + i) atD).1 = some q) (h1 : q ≠ sXm) (h2 : q ≠ sXn) : ent2 E (ats at_ w) q = (at_.getD (w.2.2.1 + i) atD).2.1 := by
  have key : ∀ m, i + m + 1 ≤ w.2.2.2.1 → ent2 E ((ats at_ w).take (i + m + 1)) q = (at_.getD (w.2.2.1 + i) atD).2.1 := by
    intro m
    induction m with
    | zero =>
      intro hm
      rw [Nat.add_zero, ats_take hi, ent2_s, upN_at h, if_neg (fun y => y.elim h1 h2)]
      try dsimp only
      rw [if_pos rfl]
    | succ m ih =>
      intro hm
      rw [show i + (m + 1) + 1 = (i + m + 1) + 1 by omega, ats_take (show i + m + 1 < w.2.2.2.1 by omega), ent2_s, upN_no (hd i (i + m + 1) (by omega) (by omega) q h)]
      exact ih (by omega)
  have := key (w.2.2.2.1 - i - 1) (by omega)
  rw [show i + (w.2.2.2.1 - i - 1) + 1 = w.2.2.2.1 by omega, List.take_of_length_le (by rw [ats_len]; exact Nat.le_refl _)] at this
  exact this
/-- the declaration that holds in an element, or none -/
def SY (el : List Elm) (at_ : List Att) (e : Int) (q : Str) (r : Int) : Prop := (r = -1 ∧ EN el at_ e q = env0 q) ∨ ∃ i : Nat, r = (i : Int) ∧ i < at_.length ∧ (at_.getD i atD).2.1 = EN el at_ e q
theorem sp_K_saying (h : KD3 L rm nd o σ g ad el at_) (he : -1 ≤ e ∧ e < (el.length : Int)) (hy : KQ (gB g) y q) (h1 : q ≠ sXm) (h2 : q ≠ sXn) (hr : ∀ r, SY el at_ e q r → R r σ) : w_KDoc_saying L o e y R σ := by
  have h' := h
  obtain ⟨hL, hZ, hE, hA, hp, hd, hal, hel, hpl⟩ := h'
  obtain ⟨l8, l8', l8''⟩ : (∀ k, 8 ≤ k → k ≤ 13 → L (rfo o k) = L (rfo o 8)) ∧ 16500 ≤ L (rfo o 8) ∧ L (rfo o 8) ≤ 32768 := by obtain ⟨-, -, -, -, -, -, -, -, -, -, -, -, -, -, -, -, -, x, -⟩ := hL; exact x
  have l3 : ∀ k, 3 ≤ k → k ≤ 6 → L (rfo o k) = 16384 := by obtain ⟨-, -, -, -, -, -, -, -, -, -, -, -, -, -, -, x, -⟩ := hL; exact x
  unfold w_KDoc_saying
  refine WL_ind (fun k ρ => ρ = σ ∧ -1 ≤ k ∧ k < (el.length : Int) ∧ EN el at_ k q = EN el at_ e q) (fun k _ => (k + 1).toNat) ?_ _ σ ⟨rfl, he.1, he.2, rfl⟩
  rintro k ρ ⟨rfl, k1, k2, k3⟩ K hI
  try dsimp only
  by_cases c : k < 0
  · rw [if_pos c]
    refine hr _ (Or.inl ⟨rfl, ?_⟩)
    rw [← k3, show k = -1 by omega, EN_neg]
  · rw [if_neg c]
    obtain ⟨n, rfl⟩ : ∃ n : Nat, k = (n : Int) := ⟨k.toNat, by omega⟩
    have hn : n < el.length := by omega
    obtain ⟨-, n4, n5, n6⟩ := hE.2 n hn
    obtain ⟨d1, d2⟩ := hd n hn
    have hp' := hp n hn
    have hEN := EN_s (at_ := at_) hp hn
    generalize hw : el.getD n elD = w at *
    refine WL_ind (fun j τ => τ = ρ ∧ ∃ m : Nat, j = (m : Int) ∧ m ≤ w.2.2.2.1 ∧ ∀ i, i < m → dcl (at_.getD (w.2.2.1 + i) atD).1 ≠ some q) (fun j _ => ((w.2.2.2.1 : Int) - j).toNat) ?_ 0 ρ ⟨rfl, 0, rfl, Nat.zero_le _, fun i hi => absurd hi (Nat.not_lt_zero i)⟩
    rintro j τ ⟨rfl, m, rfl, m1, m2⟩ K' hI'
    try dsimp only
    rw [show Int.toNat (n : Int) = n from rfl, n6, n5]
    refine ⟨⟨by omega, by rw [l3 6 (by omega) (by omega)]; omega⟩, ?_⟩
    by_cases cm : m < w.2.2.2.1
    · rw [if_pos (by omega)]
      refine ⟨⟨by omega, by rw [l3 5 (by omega) (by omega)]; omega⟩, ⟨by omega, by omega⟩, sp_K_declares h (i := w.2.2.1 + m) (by omega) (by omega) hy ?_⟩
      by_cases cd : dcl (at_.getD (w.2.2.1 + m) atD).1 = some q
      · rw [decide_eq_true cd, if_neg (by decide), n5]
        refine ⟨⟨by omega, by rw [l3 5 (by omega) (by omega)]; omega⟩, ⟨by omega, by omega⟩, hr _ (Or.inr ⟨w.2.2.1 + m, by omega, by omega, ?_⟩)⟩
        rw [← k3, hEN]
        exact (ent2_at d2 cm cd h1 h2).symm
      · rw [decide_eq_false cd, if_pos (by decide)]
        refine ⟨⟨by omega, by omega⟩, hI' _ _ ⟨rfl, m + 1, by omega, by omega, fun i hi => ?_⟩ (by omega)⟩
        by_cases ci : i = m
        · rw [ci]; exact cd
        · exact m2 i (by omega)
    · rw [if_neg (by omega), n4]
      refine ⟨⟨by omega, by rw [l3 4 (by omega) (by omega)]; omega⟩, hI _ _ ⟨rfl, by omega, by omega, ?_⟩ (by omega)⟩
      rw [← k3, hEN, ent2_no (fun t ht => ?_)]
      unfold ats at ht
      obtain ⟨i, i1, i2⟩ := List.mem_map.mp ht
      rw [← i2]
      exact m2 i (by have := List.mem_range.mp i1; omega)
theorem sp_K_means (h : KD3 L rm nd o σ g ad el at_) (he : -1 ≤ e ∧ e < (el.length : Int)) (hy : Kn (gB g) y q) (hq0 : q ≠ []) (hr : R (b1 (decide (EN el at_ e q ≠ []))) σ) : w_KReader_means L e y R σ := by
  have h' := h
  obtain ⟨hL, hZ, hE, hA, hp, hd, hal, hel, hpl⟩ := h'
  obtain ⟨l8, l8', l8''⟩ : (∀ k, 8 ≤ k → k ≤ 13 → L (rfo o k) = L (rfo o 8)) ∧ 16500 ≤ L (rfo o 8) ∧ L (rfo o 8) ≤ 32768 := by obtain ⟨-, -, -, -, -, -, -, -, -, -, -, -, -, -, -, -, -, x, -⟩ := hL; exact x
  have ho := hL.2.1
  have e2 : σ.1 16 2 = (o : Int) := hZ.2.2.2.2.1.1
  have hdyo : dyD (o : Int) := by unfold dyD; rcases ho with y | y <;> rw [y] <;> decide
  have e19 : ti 1119 = sXm := by unfold sXm; decide +kernel
  have e53 : ti 1153 = sXn := by unfold sXn; decide +kernel
  unfold w_KReader_means
  rw [e2]
  refine ⟨hdyo, sp_K_says hL hZ hy ?_⟩
  rw [e19]
  by_cases c1 : q = sXm
  · rw [decide_eq_true c1, if_neg (by decide)]
    rw [decide_eq_true (by rw [EN_x (Or.inl c1), c1]; unfold env0 sXm sXM; decide +kernel)] at hr
    exact hr
  rw [decide_eq_false c1, if_pos (by decide), e2]
  refine ⟨hdyo, sp_K_says hL hZ hy ?_⟩
  rw [e53]
  by_cases c2 : q = sXn
  · rw [decide_eq_true c2, if_neg (by decide)]
    rw [decide_eq_false (fun y => y (by rw [EN_x (Or.inr c2)]; exact env0_q c1))] at hr
    exact hr
  rw [decide_eq_false c2, if_pos (by decide), e2]
  refine ⟨hdyo, sp_K_saying h he (Or.inr ⟨hy, hq0⟩) c1 c2 (fun r hS => ?_)⟩
  rw [e2]
  rcases hS with ⟨rfl, s2⟩ | ⟨i, rfl, s2, s3⟩
  · refine ⟨fun z => absurd (by decide) z, ?_⟩
    rw [if_pos (by decide)]
    rw [decide_eq_false (fun y => y (by rw [s2]; exact env0_q c1))] at hr
    exact hr
  · rw [show Int.toNat (o : Int) = o from rfl, show Int.toNat (i : Int) = i from rfl, (hA.2 i s2).2.2.1, s3, if_neg (by omega)]
    refine ⟨fun _ => ⟨hdyo, ⟨by omega, by rw [l8 10 (by omega) (by omega)]; omega⟩⟩, ?_⟩
    by_cases c : EN el at_ e q = []
    · rw [decide_eq_false (fun y => y c)] at hr
      rw [c, if_neg (by show ¬ (0 : Int) < ((0 : Nat) : Int); omega)]
      exact hr
    · rw [decide_eq_true c] at hr
      have := List.length_pos_iff.mpr c
      rw [if_pos (by omega)]
      exact hr
theorem sp_K_meanSame (h : KD3 L rm nd o σ g ad el at_) (he : -1 ≤ e ∧ e < (el.length : Int)) (hy : Kn (gB g) y p) (hz : Kn (gB g) z q) (hp0 : p ≠ []) (hq0 : q ≠ []) (hmp : EN el at_ e p ≠ []) (hmq : EN el at_ e q ≠ []) (hr : R (b1 (decide (EN el at_ e p = EN el at_ e q))) σ) : w_KReader_meanSame L e y z R σ := by
  have h' := h
  obtain ⟨hL, hZ, hE, hA, hp, hd, hal, hel, hpl⟩ := h'
  have ho := hL.2.1
  have e2 : σ.1 16 2 = (o : Int) := hZ.2.2.2.2.1.1
  have hdyo : dyD (o : Int) := by unfold dyD; rcases ho with y | y <;> rw [y] <;> decide
  have e19 : ti 1119 = sXm := by unfold sXm; decide +kernel
  have e54 : ti 1154 = sXM := by unfold sXM; decide +kernel
  have hxn : ∀ {r : Str}, EN el at_ e r ≠ [] → r ≠ sXn := fun {r} hm hc => hm (by rw [EN_x (Or.inr hc)]; exact env0_q (by rw [hc]; exact sXm_ne.symm))
  have hxm : EN el at_ e sXm = sXM := by rw [EN_x (Or.inl rfl)]; unfold env0; rw [if_pos rfl]
  -- one of them is not xml: its declaration
  have hsy : ∀ {r : Str} {w : Int} (R' : Int → IS → Prop), Kn (gB g) w r → r ≠ [] → EN el at_ e r ≠ [] → r ≠ sXm → (∀ i : Nat, i < at_.length → (at_.getD i atD).2.1 = EN el at_ e r → R' (i : Int) σ) → w_KDoc_saying L o e w R' σ := fun {r w} R' a1 a2 a3 a4 a5 => sp_K_saying h he (Or.inr ⟨a1, a2⟩) a4 (hxn a3) (fun r' hS => by
    rcases hS with ⟨-, s2⟩ | ⟨i, rfl, s2, s3⟩
    · exact absurd (by rw [s2]; exact env0_q a4) a3
    · exact a5 i s2 s3)
  unfold w_KReader_meanSame
  by_cases c : y = z
  · rw [if_pos c]
    rw [c] at hy
    rw [hy.fun hz, decide_eq_true rfl] at hr
    exact hr
  rw [if_neg c, e2]
  have hpq : p ≠ q := fun z => c ((Kn.eqI hZ.2.1 hy hz).mpr z)
  refine ⟨hdyo, sp_K_says hL hZ hy ?_⟩
  rw [e19]
  refine WJ_dir ?_
  by_cases c1 : p = sXm
  · rw [decide_eq_true c1, if_neg (by decide)]
    try dsimp only
    rw [e2, show Int.toNat (o : Int) = o from rfl, if_neg (by decide)]
    refine ⟨hdyo, hsy _ hz hq0 hmq (fun z => hpq (c1.trans z.symm)) (fun i i1 i2 => ?_)⟩
    rw [e2]
    refine ⟨hdyo, sp_K_isValue h i1 rfl ⟨b1_01 _, ?_⟩⟩
    rw [i2, e54]
    rw [c1, hxm, decide_eq_decide.mpr (show sXM = EN el at_ e q ↔ EN el at_ e q = sXM from ⟨Eq.symm, Eq.symm⟩)] at hr
    exact hr
  rw [decide_eq_false c1, if_pos (by decide), e2]
  refine ⟨hdyo, sp_K_says hL hZ hz ?_⟩
  rw [e19]
  by_cases c2 : q = sXm
  · rw [decide_eq_true c2, if_neg (by decide)]
    try dsimp only
    rw [e2, show Int.toNat (o : Int) = o from rfl, if_pos (by decide)]
    refine ⟨hdyo, hsy _ hy hp0 hmp c1 (fun i i1 i2 => ?_)⟩
    rw [e2]
    refine ⟨hdyo, sp_K_isValue h i1 rfl ⟨b1_01 _, ?_⟩⟩
    rw [i2, e54]
    rw [c2, hxm] at hr
    exact hr
  rw [decide_eq_false c2, if_pos (by decide), e2]
  refine ⟨hdyo, hsy _ hy hp0 hmp c1 (fun i i1 i2 => ?_)⟩
  rw [e2]
  refine ⟨hdyo, hsy _ hz hq0 hmq c2 (fun j j1 j2 => ?_)⟩
  refine sp_K_sameValue h i1 j1 rfl rfl ⟨b1_01 _, ?_⟩
  rw [i2, j2]
  exact hr
end Ksa
