/-! ===== the reference: an attribute of a tag ===== -/
/-- the type of a declaration, if there is one -/
def dty (ad : List ADc) (dd : Option Nat) : Nat := match dd with
  | none => 0
  | some d => (ad.getD d adD).2.2.1
section Kgv
variable {L : Nat → Nat} {rm nd o : Nat} {σ ρ τ : IS} {g g' : KG} {a a' A : AS} {bs bs' : List Nat} {Q : IS → Prop} {R : Int → IS → Prop} {T : Nat → Int} {x y z v w : Int} {s t el : Str} {e : Nat}
set_option maxHeartbeats 4000000 in
theorem sp_K_given {p vv j : Nat} {at0 acc : List Att} {a1 a2 a3 a4 : Int} (hL : KLn L o rm nd) (h : KVx rm nd o σ g A bs) (hAd : KAd σ (gB g) (gP g) (aA A)) (hAt : KAt o σ (gB g) (gP g) (aA A) (at0 ++ acc)) (he : (aE A).length ≤ 8300) (hN : aN A 0 ≤ rm) (h6 : aN A 6 ≠ 0 → (aR A).isSome = true) (hV : ∀ k, gV g k ≤ 900000000) (hK : KT L σ (p + e)) (hc : chs σ (p + e)) (hS : SHT T (σ.2 176) e p) (hp : p + e ≤ (gC g).length) (h4 : a4 = ((p + vv : Nat) : Int)) (hl : ltl T e (some vv) = some j) (hlc : j - 1 - (vv + 1) ≤ aN A 0) (hcap : (gP g).length + (j - 1 - (vv + 1)) + (rm - aN A 0) ≤ L (rfo o 1))
    (hroom : at0.length + acc.length < L (rfo o 8)) (hel : Kn (gB g) a1 el) (h2 : a2 = (at0.length : Int)) (hnm : Kn (gB g) a3 s) (hnc : ∀ c ∈ s, isNm c = true) (hbk : kcL (gB g) (plk s)) (hty : ∀ d, d < (aA A).length → ((aA A).getD d adD).2.2.1 ≤ 9) (hdl : (aA A).length ≤ 8300) (h58 : σ.1 16 58 ≤ 50000)
    (h8 : s ∈ acc.map (fun z => z.1) → ∀ ρ, ρ.1 16 3 = 8 → (ρ.1 16 4 = σ.1 16 4 ∧ ρ.1 16 17 = σ.1 16 17 ∧ ρ.2 176 = σ.2 176) → Q ρ)
    (hbad : ¬ s ∈ acc.map (fun z => z.1) → ∀ f ρ, vrn rm (aE A) bs (und A) (2 * rm + 3) ([(sl T (vv + 1) (j - 1 - (vv + 1)), 0)], aN A 0, aN A 1, []) = .inl f → f ≠ 0 → ρ.1 16 3 = (f : Int) → (ρ.1 16 4 = σ.1 16 4 ∧ ρ.1 16 17 = σ.1 16 17 ∧ ρ.2 176 = σ.2 176) → Q ρ)
    (hgood : ¬ s ∈ acc.map (fun z => z.1) → ∀ c m out, vrn rm (aE A) bs (und A) (2 * rm + 3) ([(sl T (vv + 1) (j - 1 - (vv + 1)), 0)], aN A 0, aN A 1, []) = .inr (c, m, out) → aN A 1 ≤ m → c ≤ rm → out.length + m + aN A 0 ≤ aN A 1 + (j - 1 - (vv + 1)) + c → ∀ τ g2, KVx rm nd o τ g2 (sN (sN A 0 c) 1 m) bs → KAd τ (gB g2) (gP g2) (aA A) → KAt o τ (gB g2) (gP g2) (aA A) (at0 ++ (acc ++ [(s, nrt (dty (aA A) (adf (aA A) el s)) out, adf (aA A) el s)])) → gB g2 = kpL (gB g) (plk s) → gC g2 = gC g → gP g2 = gP g ++ nrt (dty (aA A) (adf (aA A) el s)) out → (∀ k, gV g2 k = gV g k + (if k = 22 then m - aN A 1 else 0) + tgz (aA A) (s, nrt (dty (aA A) (adf (aA A) el s)) out, adf (aA A) el s) k) → FG o σ τ → Q τ) : w_KReader_given L a1 a2 a3 a4 Q σ := by
  subst h2
  have ho := hL.2.1
  have r1 := rf_1 ho
  have r8 := rf_8 ho (k := 8) (by omega) (by omega)
  obtain ⟨d1, d2⟩ := h.dy ho
  have d2' : dyD (o : Int) := by rw [← d1]; exact d2
  have hn := h.1.2.1
  have l9 := hL.2.2.2.2.2.2.2.2.2.2.1
  have l201 := l9 201 (by omega) (by omega)
  have l202 := l9 202 (by omega) (by omega)
  have l203 := l9 203 (by omega) (by omega)
  have l204 := l9 204 (by omega) (by omega)
  have l18 : L (rfo o 18) = 23 := hL.2.2.2.2.2.2.2.2.2.2.2.2.2.2.2.2.2.2.2.1
  have lA := hL.2.2.2.2.2.2.2.2.2.2.2.2.2.2.2.2.2.1
  have l1 := hL.2.2.2.2.2.2.2.2.2.2.2.2.2.2.2.2.1
  obtain ⟨t1, t2⟩ := id hAt
  rw [List.length_append] at t1
  have hu : σ.1 o 2 = ((gP g).length : Int) := h.1.2.2.2.1.1
  unfold w_KReader_given
  refine WL_ind (fun k ρ => ρ = σ ∧ ∃ n : Nat, k = ((at0.length + n : Nat) : Int) ∧ n ≤ acc.length ∧ ∀ jj, jj < n → (acc.getD jj atD).1 ≠ s) (fun k _ => (((at0.length + acc.length : Nat) : Int) - k).toNat) ?_ _ σ ⟨rfl, 0, rfl, Nat.zero_le _, fun jj hj => absurd hj (Nat.not_lt_zero jj)⟩
  rintro k ρ ⟨rfl, n, rfl, n1, n2⟩ K hI
  try dsimp only
  rw [d1, show Int.toNat (o : Int) = o from rfl, t1, show Int.toNat ((at0.length + n : Nat) : Int) = at0.length + n from rfl]
  refine ⟨d2', ?_⟩
  by_cases c : n < acc.length
  · rw [if_pos (by omega)]
    refine ⟨⟨by omega, by omega⟩, ?_⟩
    have ht := (t2 (at0.length + n) (by rw [List.length_append]; omega)).1
    have eg : (at0 ++ acc).getD (at0.length + n) atD = acc.getD n atD := by
      rw [List.getD_eq_getElem?_getD, List.getD_eq_getElem?_getD, List.getElem?_append_right (by omega), Nat.add_sub_cancel_left]
    rw [eg] at ht
    have hk := Kn.eqI hn ht hnm
    by_cases ce : (acc.getD n atD).1 = s
    · rw [if_pos (hk.mpr ce)]
      refine sp_K_fail h.2.2.2.2 ?_
      refine h8 ?_ _ pf_eq ⟨pf_nk (by decide), pf_nk (by decide), rfl⟩
      rw [← ce, List.getD_eq_getElem?_getD, List.getElem?_eq_getElem c]
      exact List.mem_map.mpr ⟨acc[n], List.getElem_mem _, rfl⟩
    · rw [if_neg (fun y => ce (hk.mp y))]
      refine ⟨⟨by omega, by omega⟩, hI _ _ ⟨rfl, n + 1, by omega, by omega, fun jj hj => ?_⟩ (by omega)⟩
      by_cases cj : jj = n
      · rw [cj]; exact ce
      · exact n2 jj (by omega)
  rw [if_neg (by omega), hu]
  have hns : ¬ s ∈ acc.map (fun z => z.1) := fun y => by
    obtain ⟨z0, z1, z2⟩ := List.mem_map.mp y
    obtain ⟨jj, j1, j2⟩ := List.getElem_of_mem z1
    refine n2 jj (by omega) ?_
    rw [List.getD_eq_getElem?_getD, List.getElem?_eq_getElem j1, j2]
    exact z2
  refine sp_K_find hL h he hN h6 (hV 22) hK hc hS hp h4 hl hlc hcap (fun f ρ1 q1 q0 q2 q3 => ?_) (fun c m out ρ1 q1 q2 q3 q4 q5 q6 => ?_)
  · rw [if_pos rfl]
    exact hbad hns f ρ1 q1 q0 q2 q3
  rw [if_neg (by decide)]
  have hA1 : KAd ρ1 (gB g) (gP g ++ out) (aA A) := hAd.dep kle.refl ⟨out, rfl⟩ (q6.1 16 56 (by omega)) (by rw [q6.1 16 58 (by omega)]; exact Int.le_refl _) (fun r z1 z2 => q6.2 r (by omega)) (fun i _ => by rw [q6.2 207 (by omega)])
  refine sp_K_attributeOf hL (g := (gB g, gC g, gP g ++ out, gV g)) hn hA1 hdl hel hnm ?_
  generalize hdd : adf (aA A) el s = dd at *
  have hddl : ∀ d, dd = some d → d < (aA A).length := fun d hd => adf_lt (by rw [hdd]; exact hd)
  have hta : dty (aA A) dd ≤ 9 := by
    unfold dty
    cases hdc : dd with
    | none => exact Nat.zero_le _
    | some d => exact hty d (hddl d hdc)
  have ety : (if enc dd < 0 then (0 : Int) else ρ1.2 201 (Int.toNat (enc dd))) = (dty (aA A) dd : Int) := by
    cases hdc : dd with
    | none => rfl
    | some d =>
      rw [if_neg (show ¬ enc (some d) < 0 from (by show ¬ ((d : Nat) : Int) < 0; omega))]
      exact (hA1.2 d (hddl d hdc)).2.2.1
  rw [ety]
  refine ⟨fun hz => ?_, ?_⟩
  · cases hdc : dd with
    | none => rw [hdc] at hz; exact absurd (show enc none < 0 by decide) hz
    | some d =>
      have := hddl d hdc
      exact ⟨by show (0 : Int) ≤ ((d : Nat) : Int); omega, by show ((d : Nat) : Int) < _; omega⟩
  generalize hgv1 : (fun k => gV g k + if k = 22 then m - aN A 1 else 0) = gv1 at q5
  generalize hA' : sN (sN A 0 c) 1 m = A' at q5
  refine sp_K_norm (t := dty (aA A) dd) hL q5 (by omega) rfl rfl (fun ρ2 w1 w2 w3 => ?_)
  generalize hval : nrt (dty (aA A) dd) out = val at *
  have F2 : ∀ pp kk, ¬ ((pp = 16 ∧ kk = 25) ∨ (pp = o ∧ kk = 2)) → ρ2.1 pp kk = ρ.1 pp kk := fun pp kk z => by rw [w2 pp kk (by omega)]; exact q6.1 pp kk z
  have R2 : ∀ r, ¬ (r = rfo o 1 ∨ r = rfo o 18 ∨ r = 186 ∨ (208 ≤ r ∧ r ≤ 210)) → ρ2.2 r = ρ.2 r := fun r z => by rw [w3 r (by omega)]; exact q6.2 r z
  have hA2 : KAd ρ2 (gB g) (gP g ++ val) (aA A) := hAd.dep kle.refl ⟨val, rfl⟩ (F2 16 56 (by omega)) (by rw [F2 16 58 (by omega)]; exact Int.le_refl _) (fun r z1 z2 => R2 r (by omega)) (fun i _ => by rw [R2 207 (by omega)])
  have hAt2 : KAt o ρ2 (gB g) (gP g ++ val) (aA A) (at0 ++ acc) := hAt.dep kle.refl ⟨val, rfl⟩ (F2 o 14 (by omega)) (fun k z1 z2 => R2 _ (by have := rf_8 ho z1 z2; omega))
  have hpc : Kpc (gP g ++ val) ((gP g).length : Int) val := Kpc.mk' rfl (by rw [List.length_append]; exact Nat.le_refl _) (fun jj hj => by
    rw [List.getD_eq_getElem?_getD, List.getD_eq_getElem?_getD, List.getElem?_append_right (by omega), Nat.add_sub_cancel_left])
  have hvl : val.length ≤ out.length := by rw [← hval]; exact nrt_len _ _
  have hatT : atT (aA A) (s, val, dd) = dty (aA A) dd := by
    unfold atT dty
    cases dd <;> rfl
  refine sp_K_add (g := (gB g, gC g, gP g ++ val, gv1)) (d := dd) (ad := aA A) hL w1 hAt2 hnm hnc hpc rfl (by rw [hatT]) (by rw [hatT]; exact hta) (by rw [List.length_append]; exact hroom) hbk (fun ρ3 u1 u2 u3 u4 => ?_)
  have u1' : KVx rm nd o ρ3 (kpL (gB g) (plk s), gC g, gP g ++ val, gv1) A' bs := u1
  have u2' : KAt o ρ3 (kpL (gB g) (plk s)) (gP g ++ val) (aA A) ((at0 ++ acc) ++ [(s, val, dd)]) := u2
  rw [List.append_assoc] at u2'
  have hkle : kle (gB g) (kpL (gB g) (plk s)) := kpL_pre
  have hA3 : KAd ρ3 (kpL (gB g) (plk s)) (gP g ++ val) (aA A) := hA2.dep hkle cle.refl (u3 16 56 (by omega)) (by rw [u3 16 58 (by omega)]; exact Int.le_refl _) (fun r z1 z2 => u4 r (by omega)) (fun i _ => by rw [u4 207 (by omega)])
  have F3 : ∀ pp kk, ¬ ((pp = 13 ∧ (kk = 1 ∨ kk = 6)) ∨ (pp = 16 ∧ kk = 25) ∨ (pp = o ∧ (kk = 2 ∨ kk = 14))) → ρ3.1 pp kk = ρ.1 pp kk := fun pp kk z => by rw [u3 pp kk (by omega)]; exact F2 pp kk (by omega)
  have R3 : ∀ r, ¬ (r = 223 + 14 * (o - 14) ∨ r = 221 + 14 * (o - 14) ∨ r = 186 ∨ (208 ≤ r ∧ r ≤ 210) ∨ (211 ≤ r ∧ r ≤ 215) ∨ (224 + 14 * (o - 14) ≤ r ∧ r ≤ 229 + 14 * (o - 14))) → ρ3.2 r = ρ.2 r := fun r z => by rw [u4 r (by omega)]; exact R2 r (by omega)
  have hd3 : ρ3.1 16 2 = (o : Int) := by rw [F3 16 2 (by omega)]; exact d1
  have hgb : ∀ k, gv1 k = gV g k + if k = 22 then m - aN A 1 else 0 := fun k => by rw [← hgv1]
  have hv3 : ∀ k, k < 23 → ρ3.2 (rfo o 18) k = (gv1 k : Int) := u1'.1.2.2.2.2.2
  -- the end
  have fin_ : ∀ (τ : IS) (gv2 : Nat → Nat), KVx rm nd o τ (kpL (gB g) (plk s), gC g, gP g ++ val, gv2) A' bs → τ.1 = ρ3.1 → (∀ r, r ≠ rfo o 18 → τ.2 r = ρ3.2 r) → (∀ k, gv2 k = gv1 k + tgz (aA A) (s, val, dd) k) → Q τ := fun τ gv2 b1' b2 b3 b4 => by
    rw [← hA'] at b1'
    refine hgood hns c m out q1 q2 q3 q4 τ _ b1' ?_ ?_ rfl rfl ?_ (fun k => ?_) ⟨fun pp kk z => by rw [b2]; exact F3 pp kk z, fun r z => by rw [b3 r (by omega)]; exact R3 r z⟩
    · exact hA3.dep kle.refl cle.refl (by rw [b2]) (by rw [b2]; exact Int.le_refl _) (fun r z1 z2 => b3 r (by omega)) (fun i _ => by rw [b3 207 (by omega)])
    · rw [hval]
      exact u2'.dep kle.refl cle.refl (by rw [b2]) (fun k z1 z2 => b3 _ (by have := rf_8 ho z1 z2; omega))
    · rw [hval]; rfl
    · show gv2 k = _
      rw [b4, hgb, hval]
  cases hdc : dd with
  | none =>
    rw [if_pos (show enc none < 0 by decide), hd3, show Int.toNat (o : Int) = o from rfl, show Int.toNat 7 = 7 from rfl, hv3 7 (by omega)]
    have hb7 := hgb 7
    have hV7 := hV 7
    rw [if_neg (by omega)] at hb7
    refine ⟨d2', ⟨by omega, by omega⟩, ⟨by omega, by omega⟩, ⟨by omega, by omega⟩, ?_⟩
    refine fin_ _ (fun jj => gv1 jj + if jj = 7 then 1 else 0) (u1'.vio (k := 7) (m := 1) ho (by show (gv1 7 : Int) + 1 = ((gv1 7 + 1 : Nat) : Int); omega)) rfl (fun r z => by funext jj; rw [pr_2, if_neg (fun y => z y.1)]) (fun k => ?_)
    rw [hdc]
    rfl
  | some d =>
    have hdl2 := hddl d hdc
    rw [if_neg (show ¬ enc (some d) < 0 from (by show ¬ ((d : Nat) : Int) < 0; omega)), hd3, show Int.toNat (o : Int) = o from rfl, show Int.toNat 8 = 8 from rfl, show Int.toNat 10 = 10 from rfl, hv3 8 (by omega), show enc (some d) = (d : Int) from rfl, show Int.toNat (d : Int) = d from rfl]
    have hb8 := hgb 8
    have hV8 := hV 8
    rw [if_neg (by omega)] at hb8
    have hb10 := hgb 10
    have hV10 := hV 10
    rw [if_neg (by omega)] at hb10
    refine ⟨d2', ⟨by omega, by omega⟩, ?_⟩
    have hgP3 : gP ((kpL (gB g) (plk s), gC g, gP g ++ val, gv1) : KG) = gP g ++ val := rfl
    refine sp_K_isWanted (g := (kpL (gB g) (plk s), gC g, gP g ++ val, gv1)) (val := val) hL u1'.1 hA3 hdl2 hdl (hty d hdl2) (by rw [F3 16 58 (by omega)]; exact h58) (by rw [hgP3, List.length_append]; omega) rfl hpc rfl ?_
    generalize hw0 : asW ((aA A).getD d adD).2.2.1 ((aA A).getD d adD).2.2.2.2.2 val = w0
    have ew : (if b1 w0 = 0 then (1 : Int) else 0) = ((if w0 = false then 1 else 0 : Nat) : Int) := by cases w0 <;> rfl
    rw [ew, hd3, show Int.toNat (o : Int) = o from rfl]
    generalize hn8 : (if w0 = false then 1 else 0 : Nat) = n8
    have hn8' : n8 ≤ 1 := by rw [← hn8]; split <;> omega
    refine ⟨⟨by omega, by omega⟩, ⟨by omega, by omega⟩, d2', ⟨by omega, by omega⟩, ⟨by omega, by omega⟩, ?_⟩
    have hX8 := u1'.vio (k := 8) (m := n8) ho (show (gv1 8 : Int) + (n8 : Int) = ((gv1 8 + n8 : Nat) : Int) by omega)
    generalize hY : pr ρ3 (rfo o 18) 8 ((gv1 8 : Int) + (n8 : Int)) = Y at *
    have YF : Y.1 = ρ3.1 := by rw [← hY]; rfl
    have YR : ∀ r, r ≠ rfo o 18 → Y.2 r = ρ3.2 r := fun r z => by funext jj; rw [← hY, pr_2, if_neg (fun y => z y.1)]
    have Y10 : Y.2 (rfo o 18) 10 = (gv1 10 : Int) := by rw [← hY, pr_2, if_neg (by omega)]; exact hv3 10 (by omega)
    obtain ⟨a1', a2', a3', a4', a5', -⟩ := hA3.2 d hdl2
    have hA4 : KAd Y (kpL (gB g) (plk s)) (gP g ++ val) (aA A) := hA3.dep kle.refl cle.refl (by rw [YF]) (by rw [YF]; exact Int.le_refl _) (fun r z1 z2 => YR r (by omega)) (fun i _ => by rw [YR 207 (by omega)])
    have fin2 : ∀ n10 : Nat, n10 ≤ 1 → tgz (aA A) (s, val, dd) 10 = n10 → inR (Y.2 (rfo o 18) 10 + (n10 : Int)) ∧ inL L (rfo o 18) 10 ∧ Q (pr Y (rfo o 18) 10 (Y.2 (rfo o 18) 10 + (n10 : Int))) := fun n10 hn10 ht10 => by
      rw [Y10]
      refine ⟨⟨by omega, by omega⟩, ⟨by omega, by omega⟩, ?_⟩
      have hX10 := hX8.vio (k := 10) (m := n10) (v := (gv1 10 : Int) + (n10 : Int)) ho (by show _ = ((gv1 10 + (if 10 = 8 then n8 else 0) + n10 : Nat) : Int); rw [if_neg (by decide)]; omega)
      refine fin_ _ (fun jj => (gv1 jj + if jj = 8 then n8 else 0) + if jj = 10 then n10 else 0) hX10 YF (fun r z => ?_) (fun k => ?_)
      · rw [← YR r z]; funext jj; rw [pr_2, if_neg (fun y => z y.1)]
      · by_cases k8 : k = 8
        · rw [if_pos k8, if_neg (by omega), k8, hdc]
          show gv1 8 + n8 + 0 = gv1 8 + (if asW ((aA A).getD d adD).2.2.1 ((aA A).getD d adD).2.2.2.2.2 val = false then 1 else 0)
          rw [hw0, hn8]
          omega
        · rw [if_neg k8]
          by_cases k10 : k = 10
          · rw [if_pos k10, k10, ht10]
            omega
          · rw [if_neg k10, hdc]
            show gv1 k + 0 + 0 = gv1 k + (if k = 8 then _ else if k = 10 then _ else 0)
            rw [if_neg k8, if_neg k10]
    have et10 : tgz (aA A) (s, val, dd) 10 = if ((aA A).getD d adD).2.2.2.1 = 3 ∧ ((aA A).getD d adD).2.2.2.2.1 ≠ val then 1 else 0 := by rw [hdc]; rfl
    refine WJ_dir ?_
    refine WJ_dir ?_
    have e202 : Y.2 202 d = (((aA A).getD d adD).2.2.2.1 : Int) := by rw [YR 202 (by omega)]; exact a4'
    rw [e202]
    by_cases c3 : ((aA A).getD d adD).2.2.2.1 = 3
    · rw [if_pos (by omega)]
      refine ⟨⟨by omega, by omega⟩, ⟨by omega, by omega⟩, ?_⟩
      obtain ⟨g1', g2'⟩ := a5' (by omega)
      refine sp_K_same (g := (kpL (gB g) (plk s), gC g, gP g ++ val, fun jj => gv1 jj + if jj = 8 then n8 else 0)) (l1 := val) (l2 := ((aA A).getD d adD).2.2.2.2.1) hL hX8.1 (by show (gP g ++ val).length ≤ _; rw [List.length_append]; omega) hpc (by rw [YR 203 (by omega)]; exact g1') rfl (by rw [YR 204 (by omega)]; exact g2') ?_
      · by_cases cv : val = ((aA A).getD d adD).2.2.2.2.1
        · rw [decide_eq_true cv, if_neg (by decide)]
          exact fin2 0 (by omega) (by rw [et10, if_neg (fun y => y.2 cv.symm)])
        · rw [decide_eq_false cv, if_pos (by decide)]
          exact fin2 1 (by omega) (by rw [et10, if_pos ⟨c3, fun y => cv y.symm⟩])
    · rw [if_neg (by omega)]
      exact fin2 0 (by omega) (by rw [et10, if_neg (fun y => c3 y.1)])
end Kgv
