/-! ===== the reference's writer: the order of attributes ===== -/
/-- letters of names are characters -/
def NCh (el : List Elm) (at_ : List Att) : Prop := (∀ i, i < el.length → ∀ c ∈ (el.getD i elD).1, 0 ≤ c ∧ c ≤ 1114111) ∧ ∀ i, i < at_.length → ∀ c ∈ (at_.getD i atD).1, 0 ≤ c ∧ c ≤ 1114111
section Kwf
variable {L : Nat → Nat} {o : Nat} {σ τ : IS} {bk : List Str} {pl : List Int} {ad : List ADc} {el : List Elm} {at_ : List Att} {s t p q : Str} {R : Int → IS → Prop} {x y e : Int} {E E0 : Str → Str}
theorem lcl_mem {c : Int} (h : c ∈ lcl s) : c ∈ s := by
  unfold lcl at h
  split at h
  · exact List.mem_of_mem_drop h
  · exact h
theorem klt_f : klt (false, p, []) (false, q, []) = sbf p q := by
  unfold klt
  rw [sbf_irr]
  cases sbf p q <;> simp
theorem klt_t : klt (true, p, s) (true, q, t) = (sbf p q || (decide (p = q) && sbf s t)) := by
  unfold klt
  simp
theorem sbf_nil : sbf s [] = false := by cases s <;> rfl
theorem sbf_nil2 (h : s ≠ []) : sbf [] s = true := by
  cases s with
  | nil => exact absurd rfl h
  | cons _ _ => rfl
/-- which of two comes first -/
theorem sp_K_first {a b f : Nat} {v : Bool} (h17 : σ.1 17 1 = (o : Int)) (hD : KD4 L o σ bk pl ad el at_) (hV : VCh at_) (hN : NCh el at_) (hL7 : L 247 = 32768) (ha : a < at_.length) (hb : b < at_.length) (hfa : f ≤ a) (hfb : f ≤ b) (hxa : x = (a : Int)) (hyb : y = (b : Int))
    (h1 : (dcl (at_.getD a atD).1).isSome = v) (h2 : (dcl (at_.getD b atD).1).isSome = v) (hne : wky E (at_.getD a atD).1 ≠ wky E (at_.getD b atD).1)
    (hm : v = false → MNg at_ (σ.2 247 (a - f)) (mng E (at_.getD a atD).1) ∧ MNg at_ (σ.2 247 (b - f)) (mng E (at_.getD b atD).1)) (hq : R (b1 (klt (wky E (at_.getD a atD).1) (wky E (at_.getD b atD).1))) σ) : w_KWriter_comesFirst L (f : Int) x y (b1 v) R σ := by
  subst hxa hyb
  have hD' := hD
  obtain ⟨hLn, hB, hE, hA, hp, hd, hal, hel, hpl, hpool⟩ := hD'
  obtain ⟨l8, l8', l8''⟩ : (∀ k, 8 ≤ k → k ≤ 13 → L (rfo o k) = L (rfo o 8)) ∧ 16500 ≤ L (rfo o 8) ∧ L (rfo o 8) ≤ 32768 := by obtain ⟨-, -, -, -, -, -, -, -, -, -, -, -, -, -, -, -, -, x, -⟩ := hLn; exact x
  have ho := hLn.oo
  have hdy : dyD (o : Int) := by unfold dyD; rcases ho with y | y <;> rw [y] <;> decide
  have e70 : ti 1170 = sXn := by unfold sXn; rw [ti_1170, ti_1071]
  obtain ⟨a1, -, -, -, a5, a6⟩ := hA.2 a ha
  obtain ⟨b1', -, -, -, b5, b6⟩ := hA.2 b hb
  have i8a : inL L (rfo o 8) (a : Int) := ⟨by omega, by omega⟩
  have i8b : inL L (rfo o 8) (b : Int) := ⟨by omega, by omega⟩
  have i13a : inL L (rfo o 13) (a : Int) := ⟨by omega, by rw [l8 13 (by omega) (by omega)]; omega⟩
  have i13b : inL L (rfo o 13) (b : Int) := ⟨by omega, by rw [l8 13 (by omega) (by omega)]; omega⟩
  have cmpL : ∀ R' : Int → IS → Prop, (∀ v : Int, (v < 0 ↔ sbf (lcl (at_.getD a atD).1) (lcl (at_.getD b atD).1) = true) → R' v σ) → w_KWriter_compareNames L (σ.2 (rfo o 13) a) (σ.2 (rfo o 13) b) R' σ := fun R' hR => sp_K_cmpN (by rw [h17]; exact hdy) hLn.1 hB a6 b6 (fun c hc => hN.2 a ha c (lcl_mem hc)) (fun c hc => hN.2 b hb c (lcl_mem hc)) (fun w w1 _ => hR w w1)
  unfold w_KWriter_comesFirst
  rw [h17, show Int.toNat (o : Int) = o from rfl, show Int.toNat (a : Int) = a from rfl, show Int.toNat (b : Int) = b from rfl]
  refine ⟨hdy, i8a, i8b, ?_⟩
  cases v with
  | false =>
    rw [if_pos (by decide)]
    have ka : wky E (at_.getD a atD).1 = (true, mng E (at_.getD a atD).1, lcl (at_.getD a atD).1) := by
      unfold wky
      cases hd : dcl (at_.getD a atD).1 with
      | none => rfl
      | some p => rw [hd] at h1; cases h1
    have kb : wky E (at_.getD b atD).1 = (true, mng E (at_.getD b atD).1, lcl (at_.getD b atD).1) := by
      unfold wky
      cases hd : dcl (at_.getD b atD).1 with
      | none => rfl
      | some p => rw [hd] at h2; cases h2
    rw [ka, kb, klt_t] at hq
    obtain ⟨ma, mb⟩ := hm rfl
    rw [show ((a : Int) - (f : Int)) = ((a - f : Nat) : Int) by omega, show ((b : Int) - (f : Int)) = ((b - f : Nat) : Int) by omega, show Int.toNat ((a - f : Nat) : Int) = a - f from rfl, show Int.toNat ((b - f : Nat) : Int) = b - f from rfl]
    refine ⟨⟨by omega, by omega⟩, ⟨by omega, by omega⟩, ⟨by omega, by omega⟩, ⟨by omega, by omega⟩, sp_K_cmpM h17 hD hV ma mb (fun w w1 w2 => WJ_dir (WJ_dir ?_))⟩
    try dsimp only
    by_cases c1 : w < 0
    · rw [if_pos c1]
      rw [w1.mp c1] at hq
      exact ⟨Or.inr rfl, hq⟩
    · rw [if_neg c1]
      refine WJ_dir ?_
      try dsimp only
      have hs : sbf (mng E (at_.getD a atD).1) (mng E (at_.getD b atD).1) = false := Bool.eq_false_iff.mpr (fun z => c1 (w1.mpr z))
      rw [hs, Bool.false_or] at hq
      by_cases c2 : w = 0
      · rw [if_pos c2, h17, show Int.toNat (o : Int) = o from rfl]
        rw [decide_eq_true (w2.mp c2), Bool.true_and] at hq
        refine ⟨hdy, i13a, i13b, cmpL _ (fun u u1 => ?_)⟩
        by_cases c3 : u < 0
        · rw [if_pos c3]
          rw [u1.mp c3] at hq
          exact ⟨Or.inr rfl, hq⟩
        · rw [if_neg c3]
          rw [Bool.eq_false_iff.mpr (fun z => c3 (u1.mpr z))] at hq
          exact ⟨Or.inl rfl, hq⟩
      · rw [if_neg c2]
        rw [decide_eq_false (fun z => c2 (w2.mpr z)), Bool.false_and] at hq
        exact ⟨Or.inl rfl, hq⟩
  | true =>
    rw [if_neg (by decide)]
    obtain ⟨pa, hpa⟩ := Option.isSome_iff_exists.mp h1
    obtain ⟨pb, hpb⟩ := Option.isSome_iff_exists.mp h2
    have ka : wky E (at_.getD a atD).1 = (false, pa, []) := by unfold wky; rw [hpa]
    have kb : wky E (at_.getD b atD).1 = (false, pb, []) := by unfold wky; rw [hpb]
    rw [ka, kb, klt_f] at hq
    rw [ka, kb] at hne
    have dn : ∀ {s p : Str}, dcl s = some p → (s = sXn → p = []) ∧ (s ≠ sXn → p = lcl s ∧ p ≠ []) := fun {s p} hs => by
      refine ⟨fun z => ?_, fun z => ?_⟩
      · rw [dcl_no (by rw [z]; exact okq_XN), if_pos z] at hs
        exact (Option.some.inj hs).symm
      · by_cases c : okq s
        · rw [dcl_ok c] at hs
          split at hs
          · have := (Option.some.inj hs).symm
            exact ⟨this, by rw [this]; exact lcl_ok c⟩
          · cases hs
        · rw [dcl_no c, if_neg z] at hs; cases hs
    refine sp_K4_says hLn hB a1 (WJ_dir (WJ_dir ?_))
    try dsimp only
    rw [e70]
    by_cases c1 : (at_.getD a atD).1 = sXn
    · rw [decide_eq_true c1, if_neg (by decide)]
      have h0 := (dn hpa).1 c1
      have hb0 : pb ≠ [] := fun z => hne (by rw [h0, z])
      rw [h0, sbf_nil2 hb0] at hq
      exact ⟨Or.inr rfl, hq⟩
    · rw [decide_eq_false c1, if_pos (by decide), h17]
      refine ⟨hdy, sp_K4_says hLn hB b1' (WJ_dir ?_)⟩
      try dsimp only
      rw [e70]
      by_cases c2 : (at_.getD b atD).1 = sXn
      · rw [decide_eq_true c2, if_neg (by decide)]
        rw [(dn hpb).1 c2, sbf_nil] at hq
        exact ⟨Or.inl rfl, hq⟩
      · rw [decide_eq_false c2, if_pos (by decide), h17, show Int.toNat (o : Int) = o from rfl]
        refine ⟨hdy, i13a, i13b, cmpL _ (fun u u1 => ?_)⟩
        rw [((dn hpa).2 c1).1, ((dn hpb).2 c2).1] at hq
        by_cases c3 : u < 0
        · rw [if_pos c3]
          rw [u1.mp c3] at hq
          exact ⟨Or.inr rfl, hq⟩
        · rw [if_neg c3]
          rw [Bool.eq_false_iff.mpr (fun z => c3 (u1.mpr z))] at hq
          exact ⟨Or.inl rfl, hq⟩
end Kwf
section Kwg
variable {L : Nat → Nat} {o : Nat} {σ τ υ : IS} {bk : List Str} {pl : List Int} {ad : List ADc} {el : List Elm} {at_ : List Att} {R : Int → IS → Prop} {E E0 : Str → Str}
/-- only the order and the meanings have changed -/
def WKq (σ τ : IS) : Prop := (∀ p k, ¬ (p = 17 ∧ (k = 10 ∨ k = 11)) → τ.1 p k = σ.1 p k) ∧ ∀ r, r ≠ 245 → r ≠ 247 → τ.2 r = σ.2 r
theorem WKq.refl : WKq σ σ := ⟨fun _ _ _ => rfl, fun _ _ _ => rfl⟩
theorem WKq.trans (h1 : WKq σ τ) (h2 : WKq τ υ) : WKq σ υ := ⟨fun p k a => (h2.1 p k a).trans (h1.1 p k a), fun r a b => (h2.2 r a b).trans (h1.2 r a b)⟩
theorem WKq.wx (h : WKq σ τ) : WKx σ τ := ⟨fun p k a _ => h.1 p k (fun z => a z.1), fun k a => h.1 17 k (by omega), fun r _ _ c => h.2 r (fun z => c (by omega)) (fun z => c (by omega))⟩
theorem WKq.wo {l W : Str} (h : WKq σ τ) (hw : WKo l σ W) : WKo l τ W := by
  obtain ⟨⟨m0, m3, m2⟩, hsz, hrow, hrd, hcm⟩ := hw
  have e3 := h.1 17 3 (by omega)
  refine ⟨⟨by rw [e3]; exact m0, by rw [e3]; exact m3, by rw [e3, h.1 17 2 (by omega)]; exact m2⟩, by rw [h.1 17 4 (by omega)]; exact hsz, ?_, ?_, ?_⟩
  · rw [e3, h.2 244 (by decide) (by decide)]; exact hrow
  · rw [e3, h.2 176 (by decide) (by decide), h.1 16 6 (by omega)]; exact hrd
  · rw [e3, h.2 176 (by decide) (by decide), h.1 16 6 (by omega), h.1 17 9 (by omega), h.1 17 5 (by omega)]; exact hcm
theorem kg_of {gl : List Nat} {i : Nat} (h : i < gl.length) : gl.getD i 0 ∈ gl := by rw [List.getD_eq_getElem?_getD, List.getElem?_eq_getElem h]; exact List.getElem_mem h
/-- an attribute is put into its place -/
theorem sp_K_ins {gl : List Nat} {a f : Nat} {v : Bool} {G : Int → IS → Prop} (h17 : υ.1 17 1 = (o : Int)) (hD : KD4 L o υ bk pl ad el at_) (hV : VCh at_) (hN : NCh el at_) (hL : L 245 = 32768 ∧ L 247 = 32768) (hn : gl.length < 32768)
    (ha : a < at_.length) (hfa : f ≤ a) (h1 : (dcl (at_.getD a atD).1).isSome = v) (hgl : ∀ j ∈ gl, j < at_.length ∧ f ≤ j ∧ (dcl (at_.getD j atD).1).isSome = v ∧ wky E (at_.getD a atD).1 ≠ wky E (at_.getD j atD).1)
    (hm : v = false → MNg at_ (υ.2 247 (a - f)) (mng E (at_.getD a atD).1) ∧ ∀ j ∈ gl, MNg at_ (υ.2 247 (j - f)) (mng E (at_.getD j atD).1))
    (hr : ∀ i, i < gl.length → υ.2 245 i = (gl.getD i 0 : Int)) (hpw : gl.Pairwise (fun i j => klt (wky E (at_.getD i atD).1) (wky E (at_.getD j atD).1) = true))
    (hG : ∀ (τ : IS) (gl' : List Nat), τ.1 = υ.1 → (∀ r, r ≠ 245 → τ.2 r = υ.2 r) → gl'.length = gl.length + 1 → (∀ i, i < gl'.length → τ.2 245 i = (gl'.getD i 0 : Int)) → gl'.Pairwise (fun i j => klt (wky E (at_.getD i atD).1) (wky E (at_.getD j atD).1) = true) → (∀ j, j ∈ gl' ↔ j = a ∨ j ∈ gl) → G ((gl.length : Int) + 1) τ) :
    WL (fun (K24 : Int → IS → Prop) (s26 : Int) (σ27 : IS) => WJ (fun (s30 : Unit) (σ31 : IS) => inL L 245 s26 ∧ inR ((gl.length : Int) + 1) ∧ G ((gl.length : Int) + 1) (pr σ31 245 (Int.toNat s26) (a : Int))) (fun J28 => if 0 < s26 then inR (s26 - 1) ∧ inL L 245 (s26 - 1) ∧ w_KWriter_comesFirst L (f : Int) (a : Int) (σ27.2 245 (Int.toNat (s26 - 1))) (b1 v) (fun v36 σ35 => if v36 = 0 then J28 () σ35 else inR (s26 - 1) ∧ inL L 245 (s26 - 1) ∧ inL L 245 s26 ∧ inR (s26 + (-1)) ∧ K24 (s26 + (-1)) (pr σ35 245 (Int.toNat s26) (σ35.2 245 (Int.toNat (s26 - 1))))) σ27 else J28 () σ27)) (gl.length : Int) υ := by
  refine WL_ind (fun z ρ => ∃ k : Nat, z = (k : Int) ∧ k ≤ gl.length ∧ ρ.1 = υ.1 ∧ (∀ r, r ≠ 245 → ρ.2 r = υ.2 r) ∧ (∀ i, i < k → ρ.2 245 i = (gl.getD i 0 : Int)) ∧ (∀ i, k ≤ i → i < gl.length → ρ.2 245 (i + 1) = (gl.getD i 0 : Int) ∧ klt (wky E (at_.getD a atD).1) (wky E (at_.getD (gl.getD i 0) atD).1) = true)) (fun z _ => z.toNat) ?_ _ υ ⟨gl.length, rfl, Nat.le_refl _, rfl, fun _ _ => rfl, hr, fun i h1 h2 => absurd h2 (by omega)⟩
  rintro z ρ ⟨k, rfl, k1, k2, k3, k4, k5⟩ K hK
  refine WJ_dir ?_
  try dsimp only
  have fin : (∀ i, i < k → klt (wky E (at_.getD (gl.getD i 0) atD).1) (wky E (at_.getD a atD).1) = true) → inL L 245 (k : Int) ∧ inR ((gl.length : Int) + 1) ∧ G ((gl.length : Int) + 1) (pr ρ 245 (Int.toNat (k : Int)) (a : Int)) := fun hlt => by
    refine ⟨⟨by omega, by omega⟩, ⟨by omega, by omega⟩, ?_⟩
    rw [show Int.toNat (k : Int) = k from rfl]
    have hlen : (gl.take k ++ a :: gl.drop k).length = gl.length + 1 := by
      rw [List.length_append, List.length_take, List.length_cons, List.length_drop]
      omega
    have htk : (gl.take k).length = k := by rw [List.length_take]; omega
    have hpw2 : (gl.take k ++ gl.drop k).Pairwise (fun i j => klt (wky E (at_.getD i atD).1) (wky E (at_.getD j atD).1) = true) := by rw [List.take_append_drop]; exact hpw
    obtain ⟨w1, w2, w3⟩ := List.pairwise_append.mp hpw2
    have ht1 : ∀ j ∈ gl.take k, klt (wky E (at_.getD j atD).1) (wky E (at_.getD a atD).1) = true := fun j hj => by
      obtain ⟨i, i1, i2⟩ := List.getElem_of_mem hj
      have i3 : i < k := by rw [htk] at i1; exact i1
      rw [List.getElem_take] at i2
      have h7 := hlt i i3
      have e7 : gl.getD i 0 = gl[i]'(by omega) := by rw [List.getD_eq_getElem?_getD, List.getElem?_eq_getElem (by omega)]; rfl
      rw [e7, i2] at h7
      exact h7
    have ht2 : ∀ j ∈ gl.drop k, klt (wky E (at_.getD a atD).1) (wky E (at_.getD j atD).1) = true := fun j hj => by
      obtain ⟨i, i1, i2⟩ := List.getElem_of_mem hj
      rw [List.getElem_drop] at i2
      rw [List.length_drop] at i1
      have h7 := (k5 (k + i) (by omega) (by omega)).2
      have e7 : gl.getD (k + i) 0 = gl[k + i]'(by omega) := by rw [List.getD_eq_getElem?_getD, List.getElem?_eq_getElem (by omega)]; rfl
      rw [e7, i2] at h7
      exact h7
    refine hG _ (gl.take k ++ a :: gl.drop k) ?_ (fun r hr' => ?_) hlen (fun i hi => ?_) ?_ (fun j => ?_)
    · rw [pr_1]; exact k2
    · funext j
      rw [pr_2, if_neg (fun z => hr' z.1), k3 r hr']
    · rw [pr_2]
      rw [hlen] at hi
      by_cases c : i = k
      · rw [if_pos ⟨rfl, c⟩, c, List.getD_eq_getElem?_getD, List.getElem?_append_right (by omega), htk, Nat.sub_self]
        rfl
      · rw [if_neg (fun z => c z.2)]
        by_cases c2 : i < k
        · rw [k4 i c2, List.getD_eq_getElem?_getD, List.getD_eq_getElem?_getD, List.getElem?_append_left (by omega), List.getElem?_take, if_pos c2]
        · obtain ⟨m, rfl⟩ : ∃ m, i = m + 1 := ⟨i - 1, by omega⟩
          rw [(k5 m (by omega) (by omega)).1, List.getD_eq_getElem?_getD, List.getD_eq_getElem?_getD, List.getElem?_append_right (by omega), htk, show m + 1 - k = (m - k) + 1 by omega, List.getElem?_cons_succ, List.getElem?_drop, show k + (m - k) = m by omega]
    · refine List.pairwise_append.mpr ⟨w1, List.pairwise_cons.mpr ⟨ht2, w2⟩, fun i hi j hj => ?_⟩
      rcases List.mem_cons.mp hj with z | z
      · rw [z]; exact ht1 i hi
      · exact w3 i hi j z
    · rw [List.mem_append, List.mem_cons]
      constructor
      · rintro (z | z | z)
        · exact Or.inr (List.mem_of_mem_take z)
        · exact Or.inl z
        · exact Or.inr (List.mem_of_mem_drop z)
      · rintro (z | z)
        · exact Or.inr (Or.inl z)
        · rw [← List.take_append_drop k gl] at z
          rcases List.mem_append.mp z with y | y
          · exact Or.inl y
          · exact Or.inr (Or.inr y)
  by_cases c : 0 < k
  · rw [if_pos (by omega), show ((k : Int) - 1) = ((k - 1 : Nat) : Int) by omega, show Int.toNat ((k - 1 : Nat) : Int) = k - 1 from rfl, k4 (k - 1) (by omega)]
    have hg := hgl _ (kg_of (gl := gl) (i := k - 1) (by omega))
    have hX : WKx υ ρ := ⟨fun p k' _ _ => by rw [k2], fun k' _ => by rw [k2], fun r _ _ c => k3 r (fun z => c (by omega))⟩
    refine ⟨⟨by omega, by omega⟩, ⟨by omega, by omega⟩, sp_K_first (E := E) (by rw [k2]; exact h17) (hD.wk hX) hV hN hL.2 ha hg.1 hfa hg.2.1 rfl rfl h1 hg.2.2.1 hg.2.2.2 (fun e => ?_) ?_⟩
    · rw [k3 247 (by decide)]
      exact ⟨(hm e).1, (hm e).2 _ (kg_of (by omega))⟩
    · try dsimp only
      cases hk : klt (wky E (at_.getD a atD).1) (wky E (at_.getD (gl.getD (k - 1) 0) atD).1) with
      | false =>
        rw [if_pos (by decide)]
        refine fin (fun i hi => ?_)
        have hlast : klt (wky E (at_.getD (gl.getD (k - 1) 0) atD).1) (wky E (at_.getD a atD).1) = true := by
          rcases klt_tot hg.2.2.2 with z | z
          · rw [hk] at z; cases z
          · exact z
        by_cases ci : i = k - 1
        · rw [ci]; exact hlast
        · have := List.pairwise_iff_getElem.mp hpw i (k - 1) (by omega) (by omega) (by omega)
          have e1 : gl.getD i 0 = gl[i]'(by omega) := by rw [List.getD_eq_getElem?_getD, List.getElem?_eq_getElem (by omega)]; rfl
          have e2 : gl.getD (k - 1) 0 = gl[k - 1]'(by omega) := by rw [List.getD_eq_getElem?_getD, List.getElem?_eq_getElem (by omega)]; rfl
          rw [← e1, ← e2] at this
          exact klt_tr this hlast
      | true =>
        rw [if_neg (by decide), show Int.toNat (k : Int) = k from rfl]
        refine ⟨⟨by omega, by omega⟩, ⟨by omega, by omega⟩, ⟨by omega, by omega⟩, ⟨by omega, by omega⟩, hK _ _ ⟨k - 1, by omega, by omega, by rw [pr_1]; exact k2, fun r hr' => ?_, fun i hi => ?_, fun i h1 h2 => ?_⟩ (by omega)⟩
        · funext j
          rw [pr_2, if_neg (fun z => hr' z.1), k3 r hr']
        · rw [pr_2, if_neg (by omega)]; exact k4 i (by omega)
        · rw [pr_2]
          by_cases ci : i = k - 1
          · rw [if_pos ⟨rfl, by omega⟩, k4 (k - 1) (by omega), ci]
            exact ⟨rfl, hk⟩
          · rw [if_neg (by omega)]
            exact k5 i (by omega) h2
  · rw [if_neg (by omega)]
    exact fin (fun i hi => absurd hi (by omega))
/-- the attributes that are written in one of the two passes -/
noncomputable def pkA (E0 E : Str → Str) (l : List Att) (v : Bool) : List Att := srt (fun t => wky E t.1) (l.filter (fun t => ((dcl t.1).isSome == v) && !idl E0 t))
theorem pk_wat {w : Elm} (hK : KD E (ats at_ w)) : wat E0 E (ats at_ w) = pkA E0 E (ats at_ w) true ++ pkA E0 E (ats at_ w) false := by
  have pw : ∀ v, (pkA E0 E (ats at_ w) v).Pairwise (fun x y => klt (wky E x.1) (wky E y.1) = true) := fun v => srt_pw (k := fun t => wky E t.1) (List.Pairwise.filter _ hK)
  have mem : ∀ v x, x ∈ pkA E0 E (ats at_ w) v ↔ x ∈ ats at_ w ∧ (dcl x.1).isSome = v ∧ idl E0 x = false := fun v x => by
    unfold pkA
    rw [mem_srt, List.mem_filter, Bool.and_eq_true, beq_iff_eq, Bool.not_eq_true']
  refine srt_uniq (k := fun t => wky E t.1) (wat_pw hK) (List.pairwise_append.mpr ⟨pw true, pw false, fun x hx y hy => ?_⟩) (fun x => ?_)
  · obtain ⟨-, x2, -⟩ := (mem true x).mp hx
    obtain ⟨-, y2, -⟩ := (mem false y).mp hy
    obtain ⟨p, hp⟩ := Option.isSome_iff_exists.mp x2
    have hn : dcl y.1 = none := by
      cases hd : dcl y.1 with
      | none => rfl
      | some q => rw [hd] at y2; cases y2
    refine klt_i.mpr (Or.inl ⟨?_, ?_⟩)
    · unfold wky; rw [hp]
    · unfold wky; rw [hn]
  · rw [mem_wat, List.mem_append, mem, mem]
    constructor
    · rintro ⟨z1, z2⟩
      cases hd : (dcl x.1).isSome with
      | true => exact Or.inl ⟨z1, rfl, z2⟩
      | false => exact Or.inr ⟨z1, rfl, z2⟩
    · rintro (z | z)
      · exact ⟨z.1, z.2.2⟩
      · exact ⟨z.1, z.2.2⟩
end Kwg
