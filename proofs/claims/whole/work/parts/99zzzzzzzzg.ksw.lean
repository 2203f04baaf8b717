/-! ===== names of a document are made of naming characters (pure) ===== -/
def GM (a : AS) : Prop := (∀ x ∈ aA a, ∀ c ∈ x.2.1, isNm c = true) ∧ (∀ x ∈ (aL a).map e5, ∀ c ∈ x.1, isNm c = true) ∧ ∀ x ∈ aB a, ∀ c ∈ x.1, isNm c = true
section Kgm
variable {rm nd n : Nat} {B : Nat → Int} {a a' : AS} {T : Nat → Int} {e : Nat}
theorem sl_nmg {x b : Nat} (h : nmg T e true (some x) = some b) : ∀ c ∈ sl T x (b - x), isNm c = true := fun c hc => by
  unfold sl at hc
  obtain ⟨q, hq1, hq2⟩ := List.mem_map.mp hc
  rw [List.mem_range] at hq1
  rw [← hq2]
  exact nmg_all h (x + q) (by omega) (by omega)
theorem atN_nm : ∀ (m k : Nat), ∀ s ∈ atN T (atL T e m k), ∀ c ∈ s, isNm c = true
  | 0, k => fun s hs => by cases hs
  | m + 1, k => by
    unfold atL
    split
    · intro s hs; cases hs
    · split
      · intro s hs; cases hs
      · rename_i b hb
        split
        · intro s hs; cases hs
        · split
          · intro s hs; cases hs
          · intro s hs
            rcases List.mem_cons.mp hs with z | z
            · rw [z]; exact sl_nmg hb
            · exact atN_nm m _ s z
theorem dfl_nm {ad : List ADc} {el : Str} {gv : List Att} {t : Att} (h : t ∈ dfl ad el gv) : ∃ x ∈ ad, t.1 = x.2.1 := by
  unfold dfl at h
  obtain ⟨d, d1, d2⟩ := List.mem_filterMap.mp h
  split at d2
  · have d3 := List.mem_range.mp d1
    refine ⟨ad[d], List.getElem_mem d3, ?_⟩
    rw [← Option.some.inj d2]
    show (ad.getD d _).2.1 = _
    rw [List.getD_eq_getElem?_getD, List.getElem?_eq_getElem d3]
    rfl
  · cases d2
theorem GM.stpE (h : GM a) (hs : stp rm nd a = .inr a') : GM a' := by
  obtain ⟨h1, h2, h3⟩ := h
  by_cases ht : isTg a
  · obtain ⟨-, -, -, -, -, t6⟩ := tg_N (rm := rm) (nd := nd) ht
    rw [t6] at hs
    obtain ⟨k', n, κ, c, m, gv, y1, y2, y3, ⟨y4, y5, y6, y7⟩, y8, y9, y10, y11, y12⟩ := iTag_at hs
    obtain ⟨new, z1, z2, -⟩ := gvs_new _ n κ _ _ _ (by omega) y3 y8
    rw [List.nil_append] at z1
    subst z1
    unfold GM
    rw [y10, y11, y12]
    refine ⟨h1, fun x hx => ?_, fun x hx => ?_⟩
    · rcases List.mem_append.mp hx with z | z
      · exact h2 x z
      · rw [List.mem_singleton.mp z]
        exact sl_nmg y2
    · rcases List.mem_append.mp hx with z | z
      · exact h3 x z
      · rcases List.mem_append.mp z with z | z
        · exact atN_nm _ _ x.1 (by rw [← z2]; exact List.mem_map.mpr ⟨x, z, rfl⟩)
        · obtain ⟨y, q1, q2⟩ := dfl_nm z
          rw [q2]
          exact h1 y q1
  by_cases ht2 : isAl a
  · obtain ⟨-, -, -, -, t5, t6⟩ := al_N (rm := rm) (nd := nd) ht2
    rw [t5] at hs
    obtain ⟨k', s, n, κ, c, m, ad, y1, y2, y3, y4, ⟨y5, y6, y7, y8, y9⟩, y10, y11⟩ := iAtl_at t6 hs
    obtain ⟨new, z1, z2, -⟩ := dfs_new _ n κ _ _ _ (by omega) y4 y10
    obtain ⟨o1, o2, o3, o4, o5, o6, o7, o8, -⟩ := adv_other (a := sN (sN (sA a ad) 0 c) 1 m) (k := k')
    unfold GM
    rw [y11, o5, o7, o8]
    refine ⟨fun x hx => ?_, h2, h3⟩
    have hx' : x ∈ ad := hx
    rw [z1] at hx'
    rcases List.mem_append.mp hx' with z | z
    · exact h1 x z
    · exact (z2 x z).2.2.2.2.2.2
  obtain ⟨s1, s2, s3⟩ := pl_S ht ht2 hs
  unfold GM
  rw [s1, s2, s3]
  exact ⟨h1, h2, h3⟩
theorem jdg_GM (hn : n ≤ 65536) (h : jdg rm nd B n = .inr a') : GM a' :=
  jdg_inv GM (fun _ _ _ hV hs => GM.stpE hV hs) (fun l st k => by
    have h0 : GM (a0 l) := ⟨fun x hx => (by cases hx), fun x hx => (by cases hx), fun x hx => (by cases hx)⟩
    refine ⟨h0, ?_⟩
    obtain ⟨q1, q2, q3, -⟩ := S0.advE (a := a0 l) (X := sN (a0 l) 5 st) (k := k) ⟨rfl, rfl, rfl, rfl⟩
    unfold GM at h0 ⊢
    rw [q1, q2, q3]
    exact h0) hn h
theorem GM.el {i : Nat} (h : GM a) (hi : i < (aL a).length) : ∀ c ∈ ((aL a).getD i elD).1, isNm c = true := by
  have h1 := h.2.1 (e5 ((aL a).getD i elD)) (List.mem_map.mpr ⟨_, by rw [List.getD_eq_getElem?_getD, List.getElem?_eq_getElem hi]; exact List.getElem_mem hi, rfl⟩)
  exact h1
theorem GM.at_ {i : Nat} (h : GM a) (hi : i < (aB a).length) : ∀ c ∈ ((aB a).getD i atD).1, isNm c = true := h.2.2 _ (by rw [List.getD_eq_getElem?_getD, List.getElem?_eq_getElem hi]; exact List.getElem_mem hi)
end Kgm
/-! ===== the reference: twins and wrong declarations ===== -/
section Ksw
variable {L : Nat → Nat} {rm nd o : Nat} {σ : IS} {g : KG} {R : Int → IS → Prop} {ad : List ADc} {el : List Elm} {at_ : List Att} {x y z : Int} {s p q : Str} {e : Int}
theorem mng_ok {E : Str → Str} (h : okq s) : mng E s = E (pfx s) := by unfold mng; rw [if_neg (pfx_okq h).2]
theorem mng_no {E : Str → Str} (h : ¬ okq s) : mng E s = [] := by unfold mng; rw [if_pos (pfx_no h)]
theorem EN_xn : EN el at_ e sXn = [] := by rw [EN_x (Or.inr rfl)]; exact env0_q sXm_ne.symm
theorem mng_dcl (h : (dcl s).isSome = true) : mng (EN el at_ e) s = [] := by
  by_cases c : okq s
  · rw [dcl_ok c] at h
    split at h
    · rename_i c2
      rw [mng_ok c, c2, EN_xn]
    · cases h
  · exact mng_no c
theorem sp_K_hasTwin {f i : Nat} (h : KD3 L rm nd o σ g ad el at_) (he : -1 ≤ e ∧ e < (el.length : Int)) (hi : f + i < at_.length) (hok : okq (at_.getD (f + i) atD).1) (hm : EN el at_ e (pfx (at_.getD (f + i) atD).1) ≠ []) (hx : x = ((f + i : Nat) : Int)) (hy : Kn (gB g) y (pfx (at_.getD (f + i) atD).1)) (hq : R (b1 (bfr (EN el at_ e) at_ f i)) σ) : w_KReader_hasTwin L e (f : Int) x y R σ := by
  subst hx
  have h' := h
  obtain ⟨hL, hZ, hE, hA, hp, hd, hal, hel, hpl⟩ := h'
  obtain ⟨l8, l8', l8''⟩ : (∀ k, 8 ≤ k → k ≤ 13 → L (rfo o k) = L (rfo o 8)) ∧ 16500 ≤ L (rfo o 8) ∧ L (rfo o 8) ≤ 32768 := by obtain ⟨-, -, -, -, -, -, -, -, -, -, -, -, -, -, -, -, -, x, -⟩ := hL; exact x
  have ho := hL.2.1
  have e2 : σ.1 16 2 = (o : Int) := hZ.2.2.2.2.1.1
  have hdyo : dyD (o : Int) := by unfold dyD; rcases ho with y | y <;> rw [y] <;> decide
  obtain ⟨-, -, -, -, -, m6⟩ := hA.2 (f + i) hi
  have hmi := mng_ok (E := EN el at_ e) hok
  unfold w_KReader_hasTwin
  rw [e2, show Int.toNat (o : Int) = o from rfl, show Int.toNat ((f + i : Nat) : Int) = f + i from rfl]
  refine ⟨hdyo, ⟨by omega, by rw [l8 13 (by omega) (by omega)]; omega⟩, ?_⟩
  refine WL_ind (fun k ρ => ρ = σ ∧ ∃ m : Nat, k = ((f + m : Nat) : Int) ∧ m ≤ i ∧ ∀ j, j < m → ¬ (lcl (at_.getD (f + j) atD).1 = lcl (at_.getD (f + i) atD).1 ∧ mng (EN el at_ e) (at_.getD (f + j) atD).1 = mng (EN el at_ e) (at_.getD (f + i) atD).1)) (fun k _ => ((f : Int) + (i : Int) - k).toNat) ?_ _ σ ⟨rfl, 0, by omega, Nat.zero_le _, fun j hj => absurd hj (Nat.not_lt_zero j)⟩
  rintro k ρ ⟨rfl, m, rfl, m1, m2⟩ K hI
  try dsimp only
  rw [e2, show Int.toNat (o : Int) = o from rfl, show Int.toNat ((f + m : Nat) : Int) = f + m from rfl]
  by_cases c : m < i
  · rw [if_pos (by omega)]
    refine ⟨hdyo, ⟨by omega, by rw [l8 13 (by omega) (by omega)]; omega⟩, WJ_dir ?_⟩
    obtain ⟨n1, -, -, -, n5, n6⟩ := hA.2 (f + m) (by omega)
    have hno : ¬ (lcl (at_.getD (f + m) atD).1 = lcl (at_.getD (f + i) atD).1 ∧ mng (EN el at_ e) (at_.getD (f + m) atD).1 = mng (EN el at_ e) (at_.getD (f + i) atD).1) → inR (((f + m : Nat) : Int) + 1) ∧ K (((f + m : Nat) : Int) + 1) ρ := fun hn => ⟨⟨by omega, by omega⟩, hI _ _ ⟨rfl, m + 1, by omega, by omega, fun j hj => by
      by_cases cj : j = m
      · rw [cj]; exact hn
      · exact m2 j (by omega)⟩ (by omega)⟩
    have hdec := fun R' hq' => sp_K_isDecl (R := R') h (i := f + m) (by omega) rfl hq'
    have hKe := Kn.eqI hZ.2.1 n6 m6
    by_cases c1 : lcl (at_.getD (f + m) atD).1 = lcl (at_.getD (f + i) atD).1
    · rw [if_pos (hKe.mpr c1)]
      refine hdec _ ?_
      cases c2 : (dcl (at_.getD (f + m) atD).1).isSome with
      | true =>
        rw [if_neg (by decide)]
        refine hno (fun z => hm ?_)
        rw [← hmi, ← z.2]
        exact mng_dcl c2
      | false =>
        rw [if_pos (by decide), e2]
        refine ⟨hdyo, ⟨by omega, by rw [show Int.toNat (o : Int) = o from rfl, l8 12 (by omega) (by omega)]; omega⟩, ?_⟩
        rw [show Int.toNat (o : Int) = o from rfl]
        rcases n5 with ⟨k1, k2⟩ | ⟨k1, k2⟩
        · have k3 := k2.1
          rw [if_neg (by omega)]
          refine sp_K_means h he k2 (pfx_okq k1).2 ?_
          by_cases c3 : EN el at_ e (pfx (at_.getD (f + m) atD).1) = []
          · rw [decide_eq_false (fun z => z c3), if_pos (by decide)]
            exact hno (fun z => hm (by rw [← hmi, ← z.2, mng_ok k1]; exact c3))
          · rw [decide_eq_true c3, if_neg (by decide)]
            refine sp_K_meanSame h he hy k2 (pfx_okq hok).2 (pfx_okq k1).2 hm c3 ?_
            by_cases c4 : EN el at_ e (pfx (at_.getD (f + i) atD).1) = EN el at_ e (pfx (at_.getD (f + m) atD).1)
            · rw [decide_eq_true c4, if_neg (by decide)]
              have hb : bfr (EN el at_ e) at_ f i = true := by
                unfold bfr
                refine List.any_eq_true.mpr ⟨m, List.mem_range.mpr c, ?_⟩
                rw [decide_eq_true c1, decide_eq_true (by rw [hmi, mng_ok k1, c4])]
                rfl
              rw [hb] at hq
              exact hq
            · rw [decide_eq_false c4, if_pos (by decide)]
              exact hno (fun z => c4 (by rw [← hmi, ← z.2, mng_ok k1]))
        · rw [if_pos (by omega)]
          exact hno (fun z => hm (by rw [← hmi, ← z.2]; exact mng_no k1))
    · rw [if_neg (fun z => c1 (hKe.mp z))]
      exact hno (fun z => c1 z.1)
  · rw [if_neg (by omega)]
    have hb : bfr (EN el at_ e) at_ f i = false := by
      unfold bfr
      refine List.any_eq_false.mpr (fun j hj => ?_)
      have hj' := List.mem_range.mp hj
      intro hz
      rw [Bool.and_eq_true] at hz
      exact m2 j (by omega) ⟨of_decide_eq_true hz.1, of_decide_eq_true hz.2⟩
    rw [hb] at hq
    exact hq
theorem sp_K_isWrong {i : Nat} (h : KD3 L rm nd o σ g ad el at_) (hi : i < at_.length) (hx : x = (i : Int)) (hd : (dcl (at_.getD i atD).1).isSome = true) (hq : R (nm3 (at_.getD i atD) : Int) σ) : w_KReader_isWrong L x R σ := by
  subst hx
  have h' := h
  obtain ⟨hL, hZ, hE, hA, hp, -, hal, hel, hpl⟩ := h'
  obtain ⟨l8, l8', l8''⟩ : (∀ k, 8 ≤ k → k ≤ 13 → L (rfo o k) = L (rfo o 8)) ∧ 16500 ≤ L (rfo o 8) ∧ L (rfo o 8) ≤ 32768 := by obtain ⟨-, -, -, -, -, -, -, -, -, -, -, -, -, -, -, -, -, x, -⟩ := hL; exact x
  have ho := hL.2.1
  have e2 : σ.1 16 2 = (o : Int) := hZ.2.2.2.2.1.1
  have hdyo : dyD (o : Int) := by unfold dyD; rcases ho with y | y <;> rw [y] <;> decide
  obtain ⟨m1, m2, m3, m4, m5, m6⟩ := hA.2 i hi
  have e19 : ti 1119 = sXm := by unfold sXm; decide +kernel
  have e53 : ti 1153 = sXn := by unfold sXn; decide +kernel
  have e54 : ti 1154 = sXM := by unfold sXM; decide +kernel
  have e55 : ti 1155 = sNM := by unfold sNM; decide +kernel
  have hiv := fun t R' hq' => sp_K_isValue (t := t) (R := R') h hi rfl hq'
  generalize hnm : (at_.getD i atD).1 = nm at *
  -- the prefix that is declared
  obtain ⟨p, hp1, hp2, hp3⟩ : ∃ p, dcl nm = some p ∧ (nm = sXn ↔ p = []) ∧ (nm ≠ sXn → lcl nm = p) := by
    by_cases c : okq nm
    · have hd' := dcl_ok c
      by_cases c2 : pfx nm = sXn
      · rw [if_pos c2] at hd'
        exact ⟨lcl nm, hd', ⟨fun z => absurd c (by rw [z]; exact okq_XN), fun z => absurd z (lcl_ok c)⟩, fun _ => rfl⟩
      · rw [if_neg c2] at hd'; rw [hd'] at hd; cases hd
    · have hd' := dcl_no c
      by_cases c2 : nm = sXn
      · rw [if_pos c2] at hd'
        exact ⟨[], hd', ⟨fun _ => rfl, fun _ => c2⟩, fun z => absurd c2 z⟩
      · rw [if_neg c2] at hd'; rw [hd'] at hd; cases hd
  have hn3 : nm3 (at_.getD i atD) = if p = sXn ∨ (at_.getD i atD).2.1 = sNM ∨ ¬ (p = sXm ↔ (at_.getD i atD).2.1 = sXM) ∨ (p ≠ [] ∧ (at_.getD i atD).2.1 = []) then 1 else 0 := by
    unfold nm3; rw [hnm, hp1]
  rw [hn3] at hq
  generalize hval : (at_.getD i atD).2.1 = val at *
  have xm0 : sXm ≠ [] := by unfold sXm; rw [ti_1070]; intro z; cases z
  have xn0 : sXn ≠ [] := by unfold sXn; rw [ti_1071]; intro z; cases z
  unfold w_KReader_isWrong
  rw [e2, show Int.toNat (o : Int) = o from rfl, show Int.toNat (i : Int) = i from rfl]
  refine ⟨hdyo, ⟨by omega, by omega⟩, sp_K_says hL hZ m1 ?_⟩
  rw [e53, decide_eq_decide.mpr hp2, e2, show Int.toNat (o : Int) = o from rfl]
  refine ⟨hdyo, ⟨by omega, by rw [l8 13 (by omega) (by omega)]; omega⟩, ?_⟩
  refine WJ_of (fun s7 τ => τ = σ ∧ s7 = b1 (decide (p = sXm))) (fun J5 hJ => ?_) ?_
  · refine WJ_dir ?_
    by_cases c : p = []
    · rw [decide_eq_true c, if_neg (by decide)]
      refine hJ _ _ ⟨rfl, ?_⟩
      rw [c, decide_eq_false (fun z => xm0 z.symm)]
      rfl
    · rw [decide_eq_false c, if_pos (by decide)]
      have m6' := m6
      rw [hp3 (fun z => c (hp2.mp z))] at m6'
      refine sp_K_says hL hZ m6' ?_
      rw [e19]
      by_cases c2 : p = sXm
      · rw [decide_eq_true c2, if_neg (by decide)]
        exact hJ _ _ ⟨rfl, by rw [decide_eq_true c2]; rfl⟩
      · rw [decide_eq_false c2, if_pos (by decide)]
        exact hJ _ _ ⟨rfl, by rw [decide_eq_false c2]; rfl⟩
  · rintro s7 τ ⟨rfl, rfl⟩
    rw [e2]
    refine ⟨hdyo, hiv 1154 _ ?_⟩
    rw [e54]
    refine WJ_dir (WJ_dir ?_)
    -- what comes out
    have h1 : (p = sXn ∨ val = sNM ∨ ¬ (p = sXm ↔ val = sXM) ∨ (p ≠ [] ∧ val = [])) → R 1 τ := fun z => by rw [if_pos z] at hq; exact hq
    have h0 : ¬ (p = sXn ∨ val = sNM ∨ ¬ (p = sXm ↔ val = sXM) ∨ (p ≠ [] ∧ val = [])) → R 0 τ := fun z => by rw [if_neg z] at hq; exact hq
    have hrest : p ≠ sXn → (if b1 (decide (p = sXm)) = b1 (decide (val = sXM)) then dyD (τ.1 16 2) ∧ w_KDoc_isValue L (Int.toNat (τ.1 16 2)) (i : Int) 1155 (fun v23 σ22 => ((v23 = 0 → (b1 (decide (p = [])) = 0 → (dyD (σ22.1 16 2) ∧ inL L (rfo (Int.toNat (σ22.1 16 2)) 10) (i : Int))))) ∧ R (if v23 = 0 then (if b1 (decide (p = [])) = 0 then (if (σ22.2 (rfo (Int.toNat (σ22.1 16 2)) 10) i) = 0 then (1 : Int) else (0 : Int)) else (0 : Int)) else (1 : Int)) σ22) τ else R 1 τ) := fun hxn => by
      by_cases c : p = sXm ↔ val = sXM
      · rw [decide_eq_decide.mpr c, if_pos rfl, e2]
        refine ⟨hdyo, hiv 1155 _ ?_⟩
        rw [e55, e2, show Int.toNat (o : Int) = o from rfl, m3]
        refine ⟨fun _ _ => ⟨hdyo, ⟨by omega, by rw [l8 10 (by omega) (by omega)]; omega⟩⟩, ?_⟩
        by_cases c2 : val = sNM
        · rw [decide_eq_true c2, if_neg (by decide)]
          exact h1 (Or.inr (Or.inl c2))
        · rw [decide_eq_false c2, if_pos (by decide)]
          by_cases c3 : p = []
          · rw [decide_eq_true c3, if_neg (by decide)]
            exact h0 (fun z => z.elim hxn (fun z => z.elim c2 (fun z => z.elim (fun z => z c) (fun z => z.1 c3))))
          · rw [decide_eq_false c3, if_pos (by decide)]
            by_cases c4 : val = []
            · rw [c4, if_pos (by rfl)]
              exact h1 (Or.inr (Or.inr (Or.inr ⟨c3, c4⟩)))
            · have := List.length_pos_iff.mpr c4
              rw [if_neg (by omega)]
              exact h0 (fun z => z.elim hxn (fun z => z.elim c2 (fun z => z.elim (fun z => z c) (fun z => c4 z.2))))
      · rw [if_neg (fun z => c ?_)]
        · exact h1 (Or.inr (Or.inr (Or.inl c)))
        · by_cases c2 : p = sXm
          · rw [decide_eq_true c2] at z
            refine ⟨fun _ => ?_, fun _ => c2⟩
            refine Classical.byContradiction (fun y => ?_)
            rw [decide_eq_false y] at z
            cases z
          · rw [decide_eq_false c2] at z
            refine ⟨fun y => absurd y c2, fun y => ?_⟩
            rw [decide_eq_true y] at z
            cases z
    by_cases c : p = []
    · have hh := hrest (fun z => xn0 (by rw [← z]; exact c))
      rw [decide_eq_true c] at hh ⊢
      rw [if_neg (by decide)]
      exact hh
    · have c' : b1 (decide (p = [])) = 0 := by rw [decide_eq_false c]; rfl
      rw [if_pos c', e2]
      have m6' := m6
      rw [hp3 (fun z => c (hp2.mp z))] at m6'
      refine ⟨hdyo, sp_K_says hL hZ m6' ?_⟩
      rw [e53]
      by_cases c2 : p = sXn
      · rw [decide_eq_true c2, if_neg (by decide)]
        exact h1 (Or.inl c2)
      · rw [decide_eq_false c2, if_pos (by decide)]
        exact hrest c2
end Ksw
