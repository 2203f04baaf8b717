/-! ===== the reference: the end of a text ===== -/
/-- the prefixes of the first elements -/
noncomputable def pfN (el : List Elm) : Nat → List Str
  | 0 => []
  | n + 1 => pfN el n ++ (plk (el.getD n elD).1).take 1
/-- what is kept at the end -/
noncomputable def fnL (a : AS) : List Str := (if (aR a).isSome = true then ivL (aA a) (aB a) (aB a).length else []) ++ pfN (aL a) (aL a).length
section Kfi
variable {L : Nat → Nat} {rm nd o : Nat} {σ σ0 ρ τ : IS} {g : KG} {a : AS} {Q : IS → Prop} {c : Nat → Nat}
theorem KFn.set18 {v : Nat → Nat} (ho : o = 14 ∨ o = 15) (h : KFn rm nd o σ g a) (hf : τ.1 = σ.1) (hr : ∀ r, r ≠ rfo o 18 → τ.2 r = σ.2 r) (hv : ∀ k, k < 23 → τ.2 (rfo o 18) k = (v k : Int)) : KFn rm nd o τ (gsv g v) a := by
  have r1 := rf_1 ho
  have hR : ∀ r : Nat, ¬ (r = 221 + 14 * (o - 14)) → τ.2 r = σ.2 r := fun r z => hr r (by omega)
  refine h.dep ho ?_ kle.refl rfl (fun _ _ _ _ _ => by rw [hf]) (fun r _ y _ _ => hr r y)
  obtain ⟨⟨h1, h2, h3, h4⟩, h5, ⟨h6, h7, h8, h9⟩, ⟨h10, h11⟩, h12, h13⟩ := h.1
  have eb : ∀ s, bstr τ s = bstr σ s := fun s => by unfold bstr bst bln; rw [hR 212 (by omega), hR 213 (by omega), hR 214 (by omega)]
  refine ⟨⟨?_, by rw [hf]; exact h2, by rw [hf]; exact h3, fun i hi => by rw [eb]; exact h4 i hi⟩, h5, ⟨by rw [hf]; exact h6, h7, by rw [hR 176 (by omega)]; exact h8, h9⟩, ⟨by rw [hf]; exact h10, by rw [hR (rfo o 1) (by omega)]; exact h11⟩, by rw [hf]; exact h12, hv⟩
  unfold BK at h1 ⊢
  rw [hf, hR 211 (by omega), hR 213 (by omega), hR 214 (by omega), hR 215 (by omega)]
  simp only [eb]
  exact h1
theorem pfN_app {el : List Elm} : ∀ (n m : Nat), ∃ r, pfN el (n + m) = pfN el n ++ r
  | n, 0 => ⟨[], (List.append_nil _).symm⟩
  | n, m + 1 => by
    obtain ⟨r, hr⟩ := pfN_app (el := el) n m
    exact ⟨r ++ (plk (el.getD (n + m) elD).1).take 1, by rw [← List.append_assoc, ← hr]; rfl⟩
theorem sp_K_spacesAll (hL : KLn L o rm nd) (hP : PDx L o a) (h : SPc rm nd o σ0 σ g a (fun k => if k = 5 then aN a 2 else 0)) (hpl : (gP g).length ≤ L (rfo o 1)) (h2 : aN a 2 ≤ 900000000) (hcap : kcL (gB g) (pfN (aL a) (aL a).length))
    (hq : ∀ ρ, SPc rm nd o σ0 ρ (kpL (gB g) (pfN (aL a) (aL a).length), g.2) a (cnS a) → Q ρ) : WL (fun (K5 : Int → IS → Prop) (s7 : Int) (σ8 : IS) => dyD (σ8.1 16 2) ∧ if s7 < (σ8.1 (Int.toNat (σ8.1 16 2)) 7) then w_KReader_spacesOf L s7 (fun σ11 => inR (s7 + 1) ∧ K5 (s7 + 1) σ11) σ8 else Q σ8) 0 σ := by
  have ho := hL.2.1
  have hdyo : dyD (o : Int) := by unfold dyD; rcases ho with y | y <;> rw [y] <;> decide
  have hel := hP.2.2.2.1
  have l8 : L (rfo o 8) ≤ 32768 := by obtain ⟨-, -, -, -, -, -, -, -, -, -, -, -, -, -, -, -, -, ⟨-, -, x⟩, -⟩ := hL; exact x
  refine WL_ind (fun s ρ => ∃ (n : Nat) (c : Nat → Nat), s = (n : Int) ∧ n ≤ (aL a).length ∧ SPc rm nd o σ0 ρ (kpL (gB g) (pfN (aL a) n), g.2) a c ∧ ∀ k, c k = (if k = 5 then aN a 2 else 0) + sn (spE (aL a) (aB a) k) n) (fun s _ => (((aL a).length : Int) - s).toNat) ?_ 0 σ ⟨0, _, rfl, Nat.zero_le _, h, fun k => rfl⟩
  rintro s ρ ⟨n, c, rfl, hn, hS, hc⟩ K hI
  try dsimp only
  have e2 : ρ.1 16 2 = (o : Int) := hS.1.1.2.2.2.2.1.1
  rw [e2, show Int.toNat (o : Int) = o from rfl, hS.1.2.2.2.2.2.1.1]
  refine ⟨hdyo, ?_⟩
  by_cases cn : n < (aL a).length
  · rw [if_pos (by omega)]
    obtain ⟨r, hr⟩ := pfN_app (el := aL a) (n + 1) ((aL a).length - (n + 1))
    rw [show n + 1 + ((aL a).length - (n + 1)) = (aL a).length by omega] at hr
    have hcap' : kcL (kpL (gB g) (pfN (aL a) n)) ((plk ((aL a).getD n elD).1).take 1) := by
      rw [hr] at hcap
      exact (kcL_app.mp (kcL_app.mp hcap).1).2
    refine sp_K_spacesOf hL hP hS hpl cn (fun hok => ?_) (fun k => ?_) (fun ρ' c' hS' hc' => ?_)
    · rw [plk_1 hok] at hcap'
      exact hcap'.1
    · rw [hc k]
      have hsum : sn (spE (aL a) (aB a) k) n ≤ 65537 * n := by
        have key : ∀ m, m ≤ n → sn (spE (aL a) (aB a) k) m ≤ 65537 * m := by
          intro m
          induction m with
          | zero => intro _; exact Nat.le_refl _
          | succ m ih =>
            intro hm
            rw [sn_s]
            have i1 := ih (by omega)
            have i2 := spE_le (el := aL a) (at_ := aB a) (k := k) (e := m) (M := 32768) (fun x hx => by
              obtain ⟨i, hi, hxi⟩ := List.mem_iff_getElem.mp hx
              have := (hP.2.1 i hi).1
              rw [List.getD_eq_getElem?_getD, List.getElem?_eq_getElem hi] at this
              have h3 : ((some (aL a)[i]).getD elD) = x := hxi
              rw [h3] at this
              have := hP.2.2.1
              omega) (by omega)
            omega
        exact key n (Nat.le_refl _)
      split <;> omega
    · refine ⟨⟨by omega, by omega⟩, hI _ _ ⟨n + 1, c', by omega, by omega, ?_, fun k => ?_⟩ (by omega)⟩
      · have e3 : kpL (gB g) (pfN (aL a) (n + 1)) = kpL (kpL (gB g) (pfN (aL a) n)) ((plk ((aL a).getD n elD).1).take 1) := by
          show kpL (gB g) (pfN (aL a) n ++ _) = _
          rw [kpL_app]
        rw [e3]
        exact hS'
      · rw [hc' k, hc k, sn_s]
        omega
  · rw [if_neg (by omega)]
    have hn' : n = (aL a).length := by omega
    rw [hn'] at hS hc
    refine hq ρ ?_
    have : c = cnS a := funext (fun k => by rw [hc k]; rfl)
    rw [← this]
    exact hS
set_option maxHeartbeats 1000000 in
theorem sp_K_finish (hL : KLn L o rm nd) (h : KFn rm nd o σ g a) (hP : PDx L o a) (hpl : (gP g).length ≤ L (rfo o 1)) (h19 : R19 o σ (fun k => if k = 5 then aN a 2 else 0)) (h2 : aN a 2 ≤ 900000000) (hcap : kcL (gB g) (fnL a)) (hS : GS a) (hB : (aR a).isSome = true → (aB a).length ≤ 16384)
    (hd : ∀ s, aR a = some s → aO a = [] ∧ 0 < (aL a).length ∧ (aT a).length ≤ 8300 ∧ (aA a).length ≤ 8300 ∧ (aD a).length ≤ 8300 ∧ nLs (aD a) (aA a) ≤ 50000 ∧ σ.1 16 58 ≤ 50000 ∧ (∀ x ∈ aB a, x.2.1.length ≤ 98304) ∧ (∀ k, k ≠ 22 → gV g k = vv a k) ∧ gV g 22 = aN a 1 ∧ vv a 1 = 0 ∧ vv a 11 = 0 ∧ vv a 12 = 0 ∧ vv a 16 = 0 ∧ vv a 18 = 0 ∧ vv a 21 = 0 ∧ vv a 22 = 0)
    (hq : ∀ ρ v, KFn rm nd o ρ (kpL (gB g) (fnL a), gC g, gP g, v) a → (∀ k, k < 23 → v k = cnV a k) → R19 o ρ (cnS a) → (∀ p k, ¬ (p = 13 ∧ (k = 1 ∨ k = 6)) → ρ.1 p k = σ.1 p k) → (∀ r, ¬ (211 ≤ r ∧ r ≤ 215) → r ≠ rfo o 18 → r ≠ rfo o 19 → r ≠ 188 → ρ.2 r = σ.2 r) → Q ρ) : w_KReader_finish L Q σ := by
  have ho := hL.2.1
  have r1 := rf_1 ho
  have hdyo : dyD (o : Int) := by unfold dyD; rcases ho with y | y <;> rw [y] <;> decide
  have e2 : σ.1 16 2 = (o : Int) := h.1.2.2.2.2.1.1
  have l18 : L (rfo o 18) = 23 := by obtain ⟨-, -, -, -, -, -, -, -, -, -, -, -, -, -, -, -, -, -, -, x, -⟩ := hL; exact x
  have l3 : ∀ k, 3 ≤ k → k ≤ 6 → L (rfo o k) = 16384 := by obtain ⟨-, -, -, -, -, -, -, -, -, -, -, -, -, -, -, x, -⟩ := hL; exact x
  unfold w_KReader_finish
  refine WJ_of (fun _ τ => ∃ v, KFn rm nd o τ (kpL (gB g) (if (aR a).isSome = true then ivL (aA a) (aB a) (aB a).length else []), gC g, gP g, v) a ∧ (∀ k, k < 23 → v k = cnV a k) ∧ (∀ p k, ¬ (p = 13 ∧ (k = 1 ∨ k = 6)) → τ.1 p k = σ.1 p k) ∧ ∀ r, ¬ (211 ≤ r ∧ r ≤ 215) → r ≠ rfo o 18 → r ≠ 188 → τ.2 r = σ.2 r) (fun J1 hJ => ?_) ?_
  rotate_left
  · rintro - τ ⟨v, y1, y2, y3, y4⟩
    have hcap2 := (kcL_app.mp hcap).2
    have e19 : τ.2 (rfo o 19) = σ.2 (rfo o 19) := y4 _ (by omega) (by omega) (by omega)
    refine sp_K_spacesAll (σ0 := τ) hL hP ⟨y1, fun k hk => by rw [e19]; exact h19 k hk, fun _ _ _ => rfl, fun _ _ _ => rfl⟩ hpl h2 hcap2 (fun ρ hρ => ?_)
    have e4 : kpL (kpL (gB g) (if (aR a).isSome = true then ivL (aA a) (aB a) (aB a).length else [])) (pfN (aL a) (aL a).length) = kpL (gB g) (fnL a) := by unfold fnL; rw [kpL_app]
    have h5 := hρ.1
    rw [show gB (kpL (gB g) (if (aR a).isSome = true then ivL (aA a) (aB a) (aB a).length else []), gC g, gP g, v) = kpL (gB g) (if (aR a).isSome = true then ivL (aA a) (aB a) (aB a).length else []) from rfl, e4] at h5
    refine hq ρ v h5 y2 hρ.2.1 (fun p k y => ?_) (fun r z1 z2 z3 z4 => ?_)
    · rw [hρ.2.2.1 p k y]; exact y3 p k y
    · rw [hρ.2.2.2 r z1 z3]; exact y4 r z1 z2 z4
  have hro := h.2.1
  cases hR : aR a with
  | none =>
    rw [hR] at hro hJ
    have h20 : σ.1 16 20 = 0 := hro.1
    rw [if_pos h20]
    have hcn : ∀ k, cnV a k = if k = 0 then 1 else 0 := fun k => by unfold cnV; rw [hR]
    refine WL_ind (fun s ρ => ∃ n : Nat, s = (n : Int) ∧ 1 ≤ n ∧ n ≤ 23 ∧ ρ.1 = σ.1 ∧ (∀ r, r ≠ rfo o 18 → ρ.2 r = σ.2 r) ∧ ∀ k, 1 ≤ k → k < n → ρ.2 (rfo o 18) k = 0) (fun s _ => ((23 : Int) - s).toNat) ?_ 1 σ ⟨1, rfl, by omega, by omega, rfl, fun _ _ => rfl, fun k z1 z2 => by omega⟩
    rintro s ρ ⟨n, rfl, hn1, hn, hf, hr, hz⟩ K hI
    try dsimp only
    rw [hf, e2, show Int.toNat (o : Int) = o from rfl, show Int.toNat (n : Int) = n from rfl]
    by_cases cn : n < 23
    · rw [if_pos (by omega)]
      refine ⟨hdyo, ⟨by omega, by rw [l18]; omega⟩, ⟨by omega, by omega⟩, hI _ _ ⟨n + 1, by omega, by omega, by omega, hf, fun r y => ?_, fun k z1 z2 => ?_⟩ (by omega)⟩
      · funext x
        rw [pr_2, if_neg (fun z => y z.1)]
        exact congrFun (hr r y) x
      · rw [pr_2]
        by_cases ck : k = n
        · rw [if_pos ⟨rfl, ck⟩]
        · rw [if_neg (fun z => ck z.2)]; exact hz k z1 (by omega)
    · rw [if_neg (by omega), show Int.toNat (0 : Int) = 0 from rfl]
      have hr' : ∀ r, r ≠ rfo o 18 → (pr ρ (rfo o 18) 0 1).2 r = σ.2 r := fun r y => by
        funext x
        rw [pr_2, if_neg (fun z => y z.1)]
        exact congrFun (hr r y) x
      have hK := h.set18 (τ := pr ρ (rfo o 18) 0 1) (v := fun k => if k = 0 then 1 else 0) ho hf hr' (fun k hk => by
        rw [pr_2]
        by_cases ck : k = 0
        · rw [if_pos ⟨rfl, ck⟩, if_pos ck]; rfl
        · rw [if_neg (fun z => ck z.2), if_neg ck]; exact hz k (by omega) (by omega))
      refine ⟨hdyo, ⟨by omega, by rw [l18]; omega⟩, hJ _ _ ⟨_, hK, fun k _ => (hcn k).symm, fun p k _ => ?_, fun r _ y _ => hr' r y⟩⟩
      show ρ.1 p k = σ.1 p k
      rw [hf]
  | some s =>
    rw [hR] at hro hJ
    have h20 : σ.1 16 20 = 1 := hro.1
    have h24 := hro.2 s rfl
    rw [if_neg (by omega), e2, show Int.toNat (o : Int) = o from rfl, show Int.toNat (0 : Int) = 0 from rfl, show Int.toNat (1 : Int) = 1 from rfl]
    obtain ⟨d1, d2, d3, d4, d5, d6, d7, d8, d9, d10, v1, v11, v12, v16, v18, v21, v22⟩ := hd s hR
    have n3 := (h.2.2.2.2.2.1.2 0 d2).1
    have hB' := hB (by rw [hR]; rfl)
    have hcap1 := (kcL_app.mp hcap).1
    rw [hR, if_pos (show (some s).isSome = true from rfl)] at hcap1
    have hroot : (if (σ.2 (rfo o 3) 0) = (σ.1 16 24) then (0 : Int) else (1 : Int)) = (((if ((aL a).getD 0 elD).1 = s then 0 else 1) : Nat) : Int) := by
      have hk := Kn.eqI h.1.2.1 n3 h24
      by_cases c : ((aL a).getD 0 elD).1 = s
      · rw [if_pos (hk.mpr c), if_pos c]; rfl
      · rw [if_neg (fun z => c (hk.mp z)), if_neg c]; rfl
    rw [hroot]
    have g1 : gV g 1 = 0 := by rw [d9 1 (by omega), v1]
    have hK1 := h.vio (k := 1) (m := if ((aL a).getD 0 elD).1 = s then 0 else 1) (v := (((if ((aL a).getD 0 elD).1 = s then 0 else 1) : Nat) : Int)) ho (by rw [g1, Nat.zero_add])
    generalize hrt : (if ((aL a).getD 0 elD).1 = s then 0 else 1 : Nat) = rt at *
    refine ⟨hdyo, ⟨by omega, by rw [l3 3 (by omega) (by omega)]; omega⟩, ⟨by omega, by rw [l18]; omega⟩, ?_⟩
    have hr1 : ∀ r, r ≠ rfo o 18 → (pr σ (rfo o 18) 1 (rt : Int)).2 r = σ.2 r := fun r y => by
      funext x
      rw [pr_2, if_neg (fun z => y z.1)]
    have gv1 : ∀ k, gV (gsv g (fun j => gV g j + if j = 1 then rt else 0)) k = gV g k + if k = 1 then rt else 0 := fun k => rfl
    refine sp_K_lists hL hK1 d3 d4 d5 d6 d7 ?_ ?_ (fun ρ g' hK2 hg' hf2 hr2 => ?_)
    · rw [gv1, d9 16 (by omega), v16, if_neg (by omega)]
    · rw [gv1, d9 18 (by omega), v18, if_neg (by omega)]
    obtain ⟨v', rfl, hv'⟩ := hg'
    have gv2 : ∀ k, gV (gsv (gsv g (fun j => gV g j + if j = 1 then rt else 0)) v') k = v' k := fun k => rfl
    have l8 : (aB a).length ≤ L (rfo o 8) := hP.2.2.1
    refine sp_K_identities hL hK2 hB' l8 hpl d8 hcap1 ?_ ?_ ?_ (fun ρ' v'' hK3 hv'' hf3 hr3 => ?_)
    · rw [gv2, hv', gv1, d9 11 (by omega), v11, if_neg (by omega), if_neg (by omega)]
    · rw [gv2, hv', gv1, d9 12 (by omega), v12, if_neg (by omega), if_neg (by omega)]
    · rw [gv2, hv', gv1, d9 21 (by omega), v21, if_neg (by omega), if_neg (by omega)]
    have hid := ids_idr (ad := aA a) (at_ := aB a) (aB a).length (segs (aL a)) hS.1
    refine hJ _ _ ⟨v'', hK3, fun k hk => ?_, fun p k y => ?_, fun r z1 z2 z3 => ?_⟩
    · rw [cnV_vv d1 hR, hv'' k, gv2, hv', gv1, hrt]
      unfold idA
      rw [hid.1, hid.2]
      by_cases c22 : k = 22
      · subst c22
        rw [d10, v22]
        simp only [if_true, show ¬ (22 : Nat) = 1 by omega, if_false]
        omega
      · rw [d9 k c22, if_neg c22]
        omega
    · rw [hf3 p k y, hf2]; rfl
    · rw [hr3 r z1 z2 z3, hr2 r z2, hr1 r z2]
end Kfi
