/-! ===== the reference at the end of a text: the namespaces of an element ===== -/
section Ksl
variable {L : Nat → Nat} {rm nd o : Nat} {σ σ0 ρ : IS} {g : KG} {a : AS} {Q : IS → Prop} {R : Int → IS → Prop} {c : Nat → Nat}
set_option maxHeartbeats 2000000 in
theorem sp_K_spacesOf {e : Nat} (hL : KLn L o rm nd) (hP : PDx L o a) (h : SPc rm nd o σ0 σ g a c) (hpl : (gP g).length ≤ L (rfo o 1)) (he : e < (aL a).length) (hcap : okq ((aL a).getD e elD).1 → kcS (gB g) (pfx ((aL a).getD e elD).1)) (hc : ∀ k, c k ≤ 2000000000)
    (hq : ∀ ρ c', SPc rm nd o σ0 ρ (kpL (gB g) ((plk ((aL a).getD e elD).1).take 1), g.2) a c' → (∀ k, c' k = c k + spE (aL a) (aB a) k e) → Q ρ) : w_KReader_spacesOf L (e : Int) Q σ := by
  have ho := hL.2.1
  have r1 := rf_1 ho
  have hdyo : dyD (o : Int) := by unfold dyD; rcases ho with y | y <;> rw [y] <;> decide
  obtain ⟨l8, l8', l8''⟩ : (∀ k, 8 ≤ k → k ≤ 13 → L (rfo o k) = L (rfo o 8)) ∧ 16500 ≤ L (rfo o 8) ∧ L (rfo o 8) ≤ 32768 := by obtain ⟨-, -, -, -, -, -, -, -, -, -, -, -, -, -, -, -, -, x, -⟩ := hL; exact x
  have l3 : ∀ k, 3 ≤ k → k ≤ 6 → L (rfo o k) = 16384 := by obtain ⟨-, -, -, -, -, -, -, -, -, -, -, -, -, -, -, x, -⟩ := hL; exact x
  have l19 : L (rfo o 19) = 6 := by obtain ⟨-, -, -, -, -, -, -, -, -, -, -, -, -, -, -, -, -, -, -, -, x⟩ := hL; exact x
  have e53 : ti 1153 = sXn := by unfold sXn; decide +kernel
  have hel := hP.2.2.2.1
  have hal := hP.2.2.1
  have e2 : ∀ {τ : IS} {g' : KG} {c' : Nat → Nat}, SPc rm nd o σ0 τ g' a c' → τ.1 16 2 = (o : Int) := fun h => h.1.1.2.2.2.2.1.1
  have hEl : ∀ {τ : IS} {g' : KG} {c' : Nat → Nat}, SPc rm nd o σ0 τ g' a c' → KEl o τ (gB g') (aL a) := fun h => h.1.2.2.2.2.2.1
  have hAt : ∀ {τ : IS} {g' : KG} {c' : Nat → Nat}, SPc rm nd o σ0 τ g' a c' → KAt o τ (gB g') (gP g') (aA a) (aB a) := fun h => h.1.2.2.2.2.2.2.1
  have i19 : ∀ k : Nat, k < 6 → inL L (rfo o 19) (k : Int) := fun k hk => ⟨by omega, by rw [l19]; omega⟩
  have i3 : ∀ k : Nat, 3 ≤ k → k ≤ 6 → inL L (rfo o k) (e : Int) := fun k h1 h2 => ⟨by omega, by rw [l3 k h1 h2]; omega⟩
  have hspE : ∀ k, SC (EN (aL a) (aB a) (e : Int)) (aB a) ((aL a).getD e elD) k ((aL a).getD e elD).2.2.2.1 = spE (aL a) (aB a) k e := fun k => rfl
  have hbnd := (hP.2.1 e he).1
  have hnm := GM.el hP.2.2.2.2 he
  have he' : -1 ≤ (e : Int) ∧ (e : Int) < ((aL a).length : Int) := ⟨by omega, by omega⟩
  generalize hE : EN (aL a) (aB a) (e : Int) = E at *
  have hE' : ∀ q, EN (aL a) (aB a) (e : Int) q = E q := fun q => by rw [hE]
  obtain ⟨n3, n4, n5, n6⟩ := (hEl h).2 e he
  generalize hx : (aL a).getD e elD = x at *
  unfold w_KReader_spacesOf
  rw [e2 h, show Int.toNat (o : Int) = o from rfl, show Int.toNat (e : Int) = e from rfl]
  refine ⟨hdyo, i3 3 (by omega) (by omega), i19 0 (by omega), sp_K_colon2 hL h.1.1 n3 hnm (fun z3 hz3 => ?_)⟩
  rw [show Int.toNat (0 : Int) = 0 from rfl, h.2.1 0 (by omega), hz3, e2 h, show Int.toNat (o : Int) = o from rfl]
  have b0 := hc 0
  have b0' := nm0_le (s := x.1)
  have h1 := h.add ho (j := 0) (m := nm0 x.1) (v := (c 0 : Int) + ((nm0 x.1 : Nat) : Int)) (by omega)
  have n3' : Kn (gB g) (σ.2 (rfo o 3) e) x.1 := n3
  refine ⟨⟨by omega, by omega⟩, i19 0 (by omega), hdyo, sp_K_prefix2 hL h1 n3' hnm hcap (fun w τ hw hτ => ?_)⟩
  clear h1
  generalize hg1 : (kpL (gB g) ((plk x.1).take 1), g.2) = g1 at *
  have hgB : gB g1 = kpL (gB g) ((plk x.1).take 1) := by rw [← hg1]; rfl
  have hgP : gP g1 = gP g := by rw [← hg1]; rfl
  rw [← hgB] at hw
  rw [← hgP] at hpl
  have hw0 : w < 0 ↔ ¬ okq x.1 := by
    rcases hw with ⟨k1, k2⟩ | ⟨k1, k2⟩
    · have := k2.1
      exact ⟨fun z => by omega, fun z => absurd k1 z⟩
    · exact ⟨fun _ => k1, fun _ => by omega⟩
  -- is it the prefix of declarations
  refine WJ_of (fun s9 τ' => τ' = τ ∧ s9 = ((nm4 x.1 : Nat) : Int)) (fun J7 hJ => ?_) ?_
  · refine WJ_dir ?_
    by_cases cw : w < 0
    · rw [if_pos cw]
      refine hJ _ _ ⟨rfl, ?_⟩
      unfold nm4
      rw [pfx_no (hw0.mp cw), if_neg (fun z => by unfold sXn at z; rw [ti_1071] at z; cases z)]
      rfl
    · rw [if_neg cw, e2 hτ]
      rcases hw with ⟨k1, k2⟩ | ⟨k1, k2⟩
      · refine ⟨hdyo, sp_K_says hL hτ.1.1 k2 ?_⟩
        rw [e53]
        by_cases c2 : pfx x.1 = sXn
        · rw [decide_eq_true c2, if_neg (by decide)]
          exact hJ _ _ ⟨rfl, by unfold nm4; rw [if_pos c2]; rfl⟩
        · rw [decide_eq_false c2, if_pos (by decide)]
          exact hJ _ _ ⟨rfl, by unfold nm4; rw [if_neg c2]; rfl⟩
      · omega
  rintro s9 τ' ⟨rfl, rfl⟩
  have b4' := nm4_le (s := x.1)
  have h9 : (if ((nm4 x.1 : Nat) : Int) = 0 then (0 : Int) else (1 : Int)) = ((nm4 x.1 : Nat) : Int) := by split <;> omega
  have hr4 : τ'.2 (rfo o 19) 4 = ((c 4 : Nat) : Int) := hτ.2.1 4 (by omega)
  rw [e2 hτ, show Int.toNat (o : Int) = o from rfl, show Int.toNat (4 : Int) = 4 from rfl, show Int.toNat (1 : Int) = 1 from rfl, hr4, h9]
  have b4 := hc 4
  have h2 := hτ.add ho (j := 4) (m := nm4 x.1) (v := (c 4 : Int) + ((nm4 x.1 : Nat) : Int)) (by show _ = ((c 4 + 0 + _ : Nat) : Int); omega)
  refine ⟨hdyo, i19 4 (by omega), ⟨by omega, by omega⟩, i19 4 (by omega), i19 1 (by omega), ?_⟩
  generalize pr τ' (rfo o 19) 4 ((c 4 : Int) + ((nm4 x.1 : Nat) : Int)) = τ2 at *
  -- does its prefix mean anything
  have b1' := nm1_le (E := E) (s := x.1)
  refine WJ_of (fun s14 τ'' => τ'' = τ2 ∧ s14 = ((nm1 E x.1 : Nat) : Int)) (fun J12 hJ => ?_) ?_
  · refine WJ_dir ?_
    by_cases cw : okq x.1 ∧ pfx x.1 ≠ sXn
    · have e4 : nm4 x.1 = 0 := by unfold nm4; rw [if_neg cw.2]
      rw [if_pos ⟨fun z => hw0.mp z cw.1, by rw [e4]; rfl⟩]
      rcases hw with ⟨k1, k2⟩ | ⟨k1, k2⟩
      · have hd : (dcl x.1).isSome = false := by rw [dcl_ok k1, if_neg cw.2]; rfl
        refine sp_K_means (h2.kd hL hP hpl) he' k2 (pfx_okq k1).2 ?_
        rw [hE']
        by_cases c3 : E (pfx x.1) = []
        · rw [decide_eq_false (fun z => z c3), if_pos (by decide)]
          exact hJ _ _ ⟨rfl, by rw [nm1_ok k1 hd, if_pos c3]; rfl⟩
        · rw [decide_eq_true c3, if_neg (by decide)]
          exact hJ _ _ ⟨rfl, by rw [nm1_ok k1 hd, if_neg c3]; rfl⟩
      · exact absurd cw.1 k1
    · have e1 : nm1 E x.1 = 0 := by
        by_cases c3 : okq x.1
        · have c4 : pfx x.1 = sXn := Classical.byContradiction (fun z => cw ⟨c3, z⟩)
          unfold nm1
          rw [if_neg (fun z => z.2.1 c4)]
        · exact nm1_no c3
      rw [if_neg (fun z => cw ?_)]
      · exact hJ _ _ ⟨rfl, by rw [e1]; rfl⟩
      · refine ⟨Classical.byContradiction (fun y => z.1 (hw0.mpr y)), fun y => ?_⟩
        have z2 := z.2
        unfold nm4 at z2
        rw [if_pos y] at z2
        cases z2
  rintro s14 τ'' ⟨rfl, rfl⟩
  have hr1 : τ''.2 (rfo o 19) 1 = ((c 1 : Nat) : Int) := h2.2.1 1 (by omega)
  have b1 := hc 1
  rw [hr1, e2 h2, show Int.toNat (o : Int) = o from rfl]
  have h3 := h2.add ho (j := 1) (m := nm1 E x.1) (v := (c 1 : Int) + ((nm1 E x.1 : Nat) : Int)) (by show _ = ((c 1 + 0 + 0 + _ : Nat) : Int); omega)
  refine ⟨⟨by omega, by omega⟩, i19 1 (by omega), hdyo, i3 5 (by omega) (by omega), ?_⟩
  generalize pr τ'' (rfo o 19) 1 ((c 1 : Int) + ((nm1 E x.1 : Nat) : Int)) = τ3 at *
  unfold LETI
  have hf3 := (hEl h3).2 e he
  rw [hx] at hf3
  rw [hf3.2.2.1]
  -- its attributes
  refine WL_ind (fun s21 ρ => ∃ (m : Nat) (cm : Nat → Nat), s21 = ((x.2.2.1 + m : Nat) : Int) ∧ m ≤ x.2.2.2.1 ∧ SPc rm nd o σ0 ρ g1 a cm ∧ ∀ k, cm k = c k + SC E (aB a) x k m) (fun s21 _ => ((x.2.2.1 : Int) + (x.2.2.2.1 : Int) - s21).toNat) ?_ _ τ3 ⟨0, _, by omega, Nat.zero_le _, h3, fun k => ?_⟩
  rotate_left
  · rw [SC_0]
    try dsimp only
    omega
  clear h3 h2 hτ hf3 hr1 hr4 h9
  rintro s21 ρ ⟨m, cm, rfl, hm, hS, hcm⟩ K hI
  try dsimp only
  have hf := (hEl hS).2 e he
  rw [hx] at hf
  rw [e2 hS, show Int.toNat (o : Int) = o from rfl, show Int.toNat ((x.2.2.1 + m : Nat) : Int) = x.2.2.1 + m from rfl, hf.2.2.2]
  refine ⟨hdyo, i3 6 (by omega) (by omega), ⟨by omega, by omega⟩, ?_⟩
  by_cases cm' : x.2.2.2.1 ≤ m
  · rw [if_neg (by omega)]
    refine hq ρ cm hS (fun k => ?_)
    rw [hcm k, ← hspE k, show m = x.2.2.2.1 by omega]
  rw [if_pos (by omega)]
  have hil : x.2.2.1 + m < (aB a).length := by omega
  obtain ⟨m1, m2, m3, m4, m5, m6⟩ := (hAt hS).2 (x.2.2.1 + m) hil
  have hnm2 := GM.at_ hP.2.2.2.2 hil
  have hSs := fun k => SC_s (E := E) (at_ := aB a) (x := x) (k := k) (n := m)
  have hSl := fun k => SC_le (E := E) (at_ := aB a) (x := x) (k := k) m
  generalize ht : (aB a).getD (x.2.2.1 + m) atD = t at *
  have ia : ∀ k, 8 ≤ k → k ≤ 13 → inL L (rfo o k) ((x.2.2.1 + m : Nat) : Int) := fun k q1 q2 => ⟨by omega, by rw [l8 k q1 q2]; omega⟩
  refine ⟨i19 0 (by omega), ia 8 (by omega) (by omega), sp_K_colon2 hL hS.1.1 m1 hnm2 (fun z3 hz3 => ?_)⟩
  rw [hS.2.1 0 (by omega), hz3, e2 hS, show Int.toNat (o : Int) = o from rfl]
  have q0 := hcm 0
  have q1 := hcm 1
  have q2 := hcm 2
  have q3 := hcm 3
  have p0 := hSl 0
  have p1 := hSl 1
  have p2 := hSl 2
  have p3 := hSl 3
  have w0 := nm0_le (s := t.1)
  have w1 := nm1_le (E := E) (s := t.1)
  have w2 := nm2_le (E := E) (at_ := aB a) (f := x.2.2.1) (i := m)
  have w3 := nm3_le (t := t)
  have d0 := hc 0
  have d1 := hc 1
  have d2 := hc 2
  have d3 := hc 3
  have h4 := hS.add ho (j := 0) (m := nm0 t.1) (v := (cm 0 : Int) + ((nm0 t.1 : Nat) : Int)) (by omega)
  refine ⟨⟨by omega, by omega⟩, i19 0 (by omega), hdyo, ?_⟩
  generalize pr ρ (rfo o 19) 0 ((cm 0 : Int) + ((nm0 t.1 : Nat) : Int)) = τ4 at *
  refine sp_K_isDecl (h4.kd hL hP hpl) hil rfl ?_
  rw [ht]
  -- and then
  refine WJ_of (fun _ τ => ∃ c', SPc rm nd o σ0 τ g1 a c' ∧ ∀ k, c' k = c k + SC E (aB a) x k (m + 1)) (fun J30 hJ => ?_) ?_
  rotate_left
  · rintro - τ ⟨c', y1, y2⟩
    exact ⟨⟨by omega, by omega⟩, hI _ _ ⟨m + 1, c', by omega, by omega, y1, y2⟩ (by omega)⟩
  obtain ⟨u1, u2, u3, u4, u5, u6⟩ := (hAt h4).2 (x.2.2.1 + m) hil
  rw [ht] at u1 u2 u3 u4 u5 u6
  cases hd : (dcl t.1).isSome with
  | true =>
    rw [if_neg (by decide), e2 h4, show Int.toNat (o : Int) = o from rfl, show Int.toNat (3 : Int) = 3 from rfl]
    refine ⟨hdyo, i19 3 (by omega), sp_K_isWrong (h4.kd hL hP hpl) hil rfl (by rw [ht]; exact hd) ?_⟩
    rw [ht]
    have hr3 : τ4.2 (rfo o 19) 3 = ((cm 3 : Nat) : Int) := h4.2.1 3 (by omega)
    have hw3 : (if ((nm3 t : Nat) : Int) = 0 then (0 : Int) else (1 : Int)) = ((nm3 t : Nat) : Int) := by split <;> omega
    rw [hr3, hw3]
    refine ⟨⟨by omega, by omega⟩, i19 3 (by omega), hJ _ _ ⟨_, h4.add ho (j := 3) (m := nm3 t) (by show _ = ((cm 3 + 0 + _ : Nat) : Int); omega), fun k => ?_⟩⟩
    have e1 : nm1 E t.1 = 0 := nm1_dcl hd
    have e2' : nm2 E (aB a) x.2.2.1 m = 0 := by
      unfold nm2
      rw [ht, if_neg (fun z => z.1 (by rw [← hE]; exact mng_dcl hd))]
    rw [hSs k, e1, e2']
    try dsimp only
    rw [hcm k]
    split <;> split <;> split <;> split <;> omega
  | false =>
    rw [if_pos (by decide), e2 h4, show Int.toNat (o : Int) = o from rfl]
    refine ⟨hdyo, ia 12 (by omega) (by omega), ?_⟩
    refine WJ_of (fun s39 τ => τ = τ4 ∧ s39 = if mng E t.1 = [] then 0 else 1) (fun J37 hJ7 => ?_) ?_
    · refine WJ_dir ?_
      rcases u5 with ⟨k1, k2⟩ | ⟨k1, k2⟩
      · have k3 := k2.1
        rw [if_neg (by omega)]
        refine sp_K_means (h4.kd hL hP hpl) he' k2 (pfx_okq k1).2 ?_
        rw [hE']
        have hmo := mng_ok (E := E) k1
        by_cases c3 : E (pfx t.1) = []
        · rw [decide_eq_false (fun z => z c3), if_pos (by decide)]
          exact hJ7 _ _ ⟨rfl, by rw [if_pos (hmo.trans c3)]⟩
        · rw [decide_eq_true c3, if_neg (by decide)]
          exact hJ7 _ _ ⟨rfl, by rw [if_neg (fun z => c3 (hmo.symm.trans z))]⟩
      · rw [if_pos (by omega)]
        exact hJ7 _ _ ⟨rfl, by rw [if_pos (mng_no k1)]⟩
    rintro s39 τ ⟨rfl, hs39⟩
    have hn1 : (if (τ.2 (rfo o 12) (x.2.2.1 + m)) < 0 then (0 : Int) else (if s39 = 0 then (1 : Int) else (0 : Int))) = ((nm1 E t.1 : Nat) : Int) := by
      rcases u5 with ⟨k1, k2⟩ | ⟨k1, k2⟩
      · have k3 := k2.1
        rw [if_neg (by omega), hs39, nm1_ok k1 hd, mng_ok k1]
        by_cases c3 : E (pfx t.1) = []
        · rw [if_pos c3, if_pos rfl, if_pos c3]; rfl
        · rw [if_neg c3, if_neg (by decide), if_neg c3]; rfl
      · rw [if_pos (by omega), nm1_no k1]; rfl
    have hr1 : τ.2 (rfo o 19) 1 = ((cm 1 : Nat) : Int) := h4.2.1 1 (by omega)
    rw [e2 h4, show Int.toNat (o : Int) = o from rfl, show Int.toNat (2 : Int) = 2 from rfl, hn1, hr1]
    have h5 := h4.add ho (j := 1) (m := nm1 E t.1) (v := (cm 1 : Int) + ((nm1 E t.1 : Nat) : Int)) (by show _ = ((cm 1 + 0 + _ : Nat) : Int); omega)
    have hr2 : (pr τ (rfo o 19) 1 ((cm 1 : Int) + ((nm1 E t.1 : Nat) : Int))).2 (rfo o 19) 2 = ((cm 2 : Nat) : Int) := h5.2.1 2 (by omega)
    refine ⟨hdyo, i19 1 (by omega), ⟨by omega, by omega⟩, i19 1 (by omega), i19 2 (by omega), ?_⟩
    generalize pr τ (rfo o 19) 1 ((cm 1 : Int) + ((nm1 E t.1 : Nat) : Int)) = τ5 at *
    refine WJ_of (fun s44 τ' => τ' = τ5 ∧ s44 = ((nm2 E (aB a) x.2.2.1 m : Nat) : Int)) (fun J42 hJ2 => ?_) ?_
    · refine WJ_dir ?_
      by_cases c3 : mng E t.1 = []
      · rw [hs39, if_pos c3, if_pos rfl]
        refine hJ2 _ _ ⟨rfl, ?_⟩
        unfold nm2
        rw [ht, if_neg (fun z => z.1 c3)]
        rfl
      · rw [hs39, if_neg c3, if_neg (by decide)]
        rcases u5 with ⟨k1, k2⟩ | ⟨k1, k2⟩
        · have k4 : E (pfx t.1) ≠ [] := fun z => c3 (by rw [mng_ok k1]; exact z)
          refine sp_K_hasTwin (h5.kd hL hP hpl) he' hil (by rw [ht]; exact k1) (by rw [ht, hE']; exact k4) rfl (by rw [ht]; exact k2) ?_
          rw [hE]
          cases hb : bfr E (aB a) x.2.2.1 m with
          | true =>
            rw [if_neg (by decide)]
            refine hJ2 _ _ ⟨rfl, ?_⟩
            unfold nm2
            rw [ht, if_pos ⟨c3, hb⟩]
            rfl
          | false =>
            rw [if_pos (by decide)]
            refine hJ2 _ _ ⟨rfl, ?_⟩
            unfold nm2
            rw [ht, if_neg (fun z => by rw [hb] at z; cases z.2)]
            rfl
        · exact absurd (mng_no k1) c3
    rintro s44 τ' ⟨rfl, rfl⟩
    rw [hr2]
    refine ⟨⟨by omega, by omega⟩, i19 2 (by omega), hJ _ _ ⟨_, h5.add ho (j := 2) (m := nm2 E (aB a) x.2.2.1 m) (by show _ = ((cm 2 + 0 + 0 + _ : Nat) : Int); omega), fun k => ?_⟩⟩
    rw [hSs k, nm3_no hd]
    try dsimp only
    rw [hcm k]
    split <;> split <;> split <;> split <;> omega
end Ksl
