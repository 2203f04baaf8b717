/-! ===== the reference: attributes by default ===== -/
/-- the first n declarations: what comes by default -/
def dfn1 (ad : List ADc) (el : Str) (gv : List Att) (d : Nat) : Option Att := if (ad.getD d ([], [], 0, 0, [], [])).1 = el ∧ 3 ≤ (ad.getD d ([], [], 0, 0, [], [])).2.2.2.1 ∧ ¬ (ad.getD d ([], [], 0, 0, [], [])).2.1 ∈ gv.map (fun z => z.1) then some ((ad.getD d ([], [], 0, 0, [], [])).2.1, (ad.getD d ([], [], 0, 0, [], [])).2.2.2.2.1, some d) else none
def dflN (ad : List ADc) (el : Str) (gv : List Att) (n : Nat) : List Att := (List.range n).filterMap (dfn1 ad el gv)
/-- those that had to be given -/
def rqN (ad : List ADc) (el : Str) (gv : List Att) (n : Nat) : Nat := ((List.range n).filter (fun d => decide ((ad.getD d adD).1 = el ∧ (ad.getD d adD).2.2.2.1 = 1 ∧ ¬ (ad.getD d adD).2.1 ∈ gv.map (fun z => z.1)))).length
section Kdf
variable {L : Nat → Nat} {rm nd o : Nat} {σ ρ τ : IS} {g g' : KG} {a a' A : AS} {bs bs' : List Nat} {Q : IS → Prop} {R : Int → IS → Prop} {x y z v w : Int} {s t el : Str} {ad : List ADc} {gv : List Att}
theorem dfl_N : dfl ad el gv = dflN ad el gv ad.length := rfl
theorem dflN_s {n : Nat} : dflN ad el gv (n + 1) = dflN ad el gv n ++ (dfn1 ad el gv n).toList := by
  unfold dflN
  rw [List.range_succ, List.filterMap_append]
  congr 1
theorem rqN_s {n : Nat} : rqN ad el gv (n + 1) = rqN ad el gv n + if ((ad.getD n adD).1 = el ∧ (ad.getD n adD).2.2.2.1 = 1 ∧ ¬ (ad.getD n adD).2.1 ∈ gv.map (fun z => z.1)) then 1 else 0 := by
  unfold rqN
  rw [List.range_succ, List.filter_append, List.length_append]
  congr 1
  by_cases c : ((ad.getD n adD).1 = el ∧ (ad.getD n adD).2.2.2.1 = 1 ∧ ¬ (ad.getD n adD).2.1 ∈ gv.map (fun z => z.1))
  · rw [if_pos c, List.filter_cons, if_pos (decide_eq_true c)]; rfl
  · rw [if_neg c, List.filter_cons, if_neg (by rw [decide_eq_false c]; decide)]; rfl
theorem rqN_le {n : Nat} : rqN ad el gv n ≤ n := by
  unfold rqN
  exact Nat.le_trans (List.length_filter_le _ _) (by rw [List.length_range]; exact Nat.le_refl _)
theorem dflN_le {n : Nat} : (dflN ad el gv n).length ≤ n := by
  unfold dflN
  exact Nat.le_trans (List.length_filterMap_le _ _) (by rw [List.length_range]; exact Nat.le_refl _)
theorem kcL_app : ∀ {l l' bk : List Str}, kcL bk (l ++ l') ↔ kcL bk l ∧ kcL (kpL bk l) l'
  | [], l', bk => ⟨fun h => ⟨trivial, h⟩, fun h => h.2⟩
  | s :: l, l', bk => by
    show (kcS bk s ∧ kcL (kpS bk s) (l ++ l')) ↔ (kcS bk s ∧ kcL (kpS bk s) l) ∧ kcL (kpL (kpS bk s) l) l'
    rw [kcL_app, and_assoc]
theorem dflN_pre {n m : Nat} (h : n ≤ m) : ∃ r, dflN ad el gv m = dflN ad el gv n ++ r := by
  induction m with
  | zero => rw [show n = 0 by omega]; exact ⟨[], (List.append_nil _).symm⟩
  | succ m ih =>
    by_cases c : n = m + 1
    · rw [c]; exact ⟨[], (List.append_nil _).symm⟩
    · obtain ⟨r, hr⟩ := ih (by omega)
      exact ⟨r ++ (dfn1 ad el gv m).toList, by rw [dflN_s, hr, List.append_assoc]⟩
set_option maxHeartbeats 4000000 in
theorem sp_K_defaults {at0 : List Att} {a1 a2 : Int} (hL : KLn L o rm nd) (h : KVx rm nd o σ g A bs) (hAd : KAd σ (gB g) (gP g) (aA A)) (hAt : KAt o σ (gB g) (gP g) (aA A) (at0 ++ gv)) (hV : gV g 9 ≤ 900000000) (hroom : at0.length + gv.length + (aA A).length ≤ L (rfo o 8)) (hel : Kn (gB g) a1 el) (h2 : a2 = (at0.length : Int)) (hnc : ∀ d, d < (aA A).length → ∀ c ∈ ((aA A).getD d adD).2.1, isNm c = true) (hkd : ∀ d, d < (aA A).length → ((aA A).getD d adD).2.2.2.1 ≤ 4) (hty : ∀ d, d < (aA A).length → ((aA A).getD d adD).2.2.1 ≤ 9) (hdl : (aA A).length ≤ 8300) (hbk : kcL (gB g) ((dfl (aA A) el gv).flatMap (fun z => plk z.1)))
    (hq : ∀ τ g2, KVx rm nd o τ g2 A bs → KAd τ (gB g2) (gP g2) (aA A) → KAt o τ (gB g2) (gP g2) (aA A) (at0 ++ gv ++ dfl (aA A) el gv) → gB g2 = kpL (gB g) ((dfl (aA A) el gv).flatMap (fun z => plk z.1)) → gC g2 = gC g → gP g2 = gP g → (∀ k, gV g2 k = gV g k + if k = 9 then rqN (aA A) el gv (aA A).length else 0) → FG o σ τ → Q τ) : w_KReader_defaults L a1 a2 Q σ := by
  subst h2
  have ho := hL.2.1
  have r1 := rf_1 ho
  have r8 := rf_8 ho (k := 8) (by omega) (by omega)
  obtain ⟨d1, d2⟩ := h.dy ho
  have d2' : dyD (o : Int) := by rw [← d1]; exact d2
  have hn := h.1.2.1
  have l9 := hL.2.2.2.2.2.2.2.2.2.2.1
  have l199 := l9 199 (by omega) (by omega)
  have l200 := l9 200 (by omega) (by omega)
  have l201 := l9 201 (by omega) (by omega)
  have l202 := l9 202 (by omega) (by omega)
  have l203 := l9 203 (by omega) (by omega)
  have l204 := l9 204 (by omega) (by omega)
  have l18 : L (rfo o 18) = 23 := hL.2.2.2.2.2.2.2.2.2.2.2.2.2.2.2.2.2.2.2.1
  have lA := hL.2.2.2.2.2.2.2.2.2.2.2.2.2.2.2.2.2.1
  obtain ⟨t1, t2⟩ := id hAt
  rw [List.length_append] at t1
  generalize had : aA A = ad at *
  unfold w_KReader_defaults
  rw [d1, show Int.toNat (o : Int) = o from rfl, t1]
  refine ⟨d2', ?_⟩
  refine WL_ind (fun k ρ => ∃ (n : Nat) (g2 : KG), k = (n : Int) ∧ n ≤ ad.length ∧ KVx rm nd o ρ g2 A bs ∧ KAd ρ (gB g2) (gP g2) ad ∧ KAt o ρ (gB g2) (gP g2) ad (at0 ++ gv ++ dflN ad el gv n) ∧ gB g2 = kpL (gB g) ((dflN ad el gv n).flatMap (fun z => plk z.1)) ∧ gC g2 = gC g ∧ gP g2 = gP g ∧ (∀ k, gV g2 k = gV g k + if k = 9 then rqN ad el gv n else 0) ∧ FG o σ ρ) (fun k _ => ((ad.length : Int) - k).toNat) ?_ 0 σ ⟨0, g, rfl, Nat.zero_le _, h, hAd, by show KAt o σ (gB g) (gP g) ad (at0 ++ gv ++ []); rw [List.append_nil]; exact hAt, rfl, rfl, rfl, fun k => by show _ = gV g k + if k = 9 then 0 else 0; split <;> rfl, FG.refl⟩
  rintro k ρ ⟨n, g2, rfl, n1, hX, hD, hT, e1, e2, e3, e4, hF⟩ K hI
  try dsimp only
  have h56 : ρ.1 16 56 = (ad.length : Int) := hD.1
  have hdo : ρ.1 16 2 = (o : Int) := hX.1.2.2.2.2.1.1
  rw [h56, show Int.toNat (n : Int) = n from rfl]
  by_cases c : n < ad.length
  · rw [if_pos (by omega)]
    refine ⟨⟨by omega, by omega⟩, WJ_dir ?_⟩
    obtain ⟨m1, m2, m3, m4, m5, -⟩ := hD.2 n c
    have hkle : kle (gB g) (gB g2) := by rw [e1]; exact kpL_pre
    have hn2 := hX.1.2.1
    have iE := Kn.eqI hn2 m1 (hel.le hkle)
    have eD : (ad.getD n adD) = (ad.getD n ([], [], 0, 0, [], [])) := rfl
    -- nothing comes
    have skip : ∀ (τ : IS) (g3 : KG), KVx rm nd o τ g3 A bs → gB g3 = gB g2 → gC g3 = gC g2 → gP g3 = gP g2 → dfn1 ad el gv n = none → (∀ k, gV g3 k = gV g2 k + if k = 9 then (if ((ad.getD n adD).1 = el ∧ (ad.getD n adD).2.2.2.1 = 1 ∧ ¬ (ad.getD n adD).2.1 ∈ gv.map (fun z => z.1)) then 1 else 0) else 0) → τ.1 = ρ.1 → (∀ r, r ≠ rfo o 18 → τ.2 r = ρ.2 r) → inR ((n : Int) + 1) ∧ K ((n : Int) + 1) τ := fun τ g3 b1' b2 b3 b4 b5 b6 b7 b8 => by
      refine ⟨⟨by omega, by omega⟩, hI _ _ ⟨n + 1, g3, by omega, by omega, b1', ?_, ?_, ?_, ?_, ?_, fun k => ?_, ?_⟩ (by omega)⟩
      · rw [b2, b4]; exact hD.dep kle.refl cle.refl (by rw [b7]) (by rw [b7]; exact Int.le_refl _) (fun r z1 z2 => b8 r (by omega)) (fun i _ => by rw [b8 207 (by omega)])
      · rw [b2, b4, dflN_s, b5]
        show KAt o τ _ _ _ (at0 ++ gv ++ (dflN ad el gv n ++ []))
        rw [List.append_nil]
        exact hT.dep kle.refl cle.refl (by rw [b7]) (fun k z1 z2 => b8 _ (by have := rf_8 ho z1 z2; omega))
      · rw [b2, e1, dflN_s, b5]
        show _ = kpL (gB g) ((dflN ad el gv n ++ []).flatMap _)
        rw [List.append_nil]
      · rw [b3, e2]
      · rw [b4, e3]
      · rw [b6, e4, rqN_s]
        by_cases k9 : k = 9
        · rw [if_pos k9, if_pos k9, if_pos k9]; omega
        · rw [if_neg k9, if_neg k9, if_neg k9]
      · exact hF.trans ⟨fun pp kk _ => by rw [b7], fun r z => b8 r (by omega)⟩
    by_cases cE : (ad.getD n adD).1 = el
    · rw [if_pos (iE.mpr cE)]
      -- is it given?
      refine WL_ind (fun s ξ => ξ = ρ ∧ ∃ q : Nat, s.2 = ((at0.length + q : Nat) : Int) ∧ q ≤ gv.length ∧ s.1 = b1 (decide ((ad.getD n adD).2.1 ∈ (gv.take q).map (fun z => z.1)))) (fun s _ => (((at0.length + gv.length : Nat) : Int) - s.2).toNat) ?_ _ ρ ⟨rfl, 0, rfl, Nat.zero_le _, rfl⟩
      rintro ⟨s1, s2⟩ ξ ⟨rfl, q, hs2, q1, hs1⟩ K2 hI2
      have hs2' : s2 = ((at0.length + q : Nat) : Int) := hs2
      have hs1' : s1 = b1 (decide ((ad.getD n adD).2.1 ∈ (gv.take q).map (fun z => z.1))) := hs1
      subst hs2' hs1'
      try dsimp only
      rw [hdo, show Int.toNat (o : Int) = o from rfl]
      by_cases cq : q < gv.length
      · rw [if_pos (by omega), show Int.toNat ((at0.length + q : Nat) : Int) = at0.length + q from rfl]
        refine ⟨fun _ => ⟨d2', ⟨by omega, by omega⟩, ⟨by omega, by omega⟩⟩, ?_⟩
        have eg : (at0 ++ gv ++ dflN ad el gv n).getD (at0.length + q) atD = gv.getD q atD := by
          rw [List.append_assoc, List.getD_eq_getElem?_getD, List.getD_eq_getElem?_getD, List.getElem?_append_right (by omega), Nat.add_sub_cancel_left, List.getElem?_append_left cq]
        have hta := (hT.2 (at0.length + q) (by rw [List.length_append, List.length_append]; omega)).1
        rw [eg] at hta
        have iN := Kn.eqI hn2 hta m2
        have etk : ∀ z : Str, z ∈ (gv.take (q + 1)).map (fun z => z.1) ↔ z ∈ (gv.take q).map (fun z => z.1) ∨ z = (gv.getD q atD).1 := fun z => by
          rw [List.take_succ, List.map_append, List.mem_append, List.getD_eq_getElem?_getD, List.getElem?_eq_getElem cq]
          simp
        have hstep : ∀ u : Int, u = b1 (decide ((ad.getD n adD).2.1 ∈ (gv.take (q + 1)).map (fun z => z.1))) → inR (((at0.length + q : Nat) : Int) + 1) ∧ K2 (u, ((at0.length + q : Nat) : Int) + 1) ξ := fun u hu => ⟨⟨by omega, by omega⟩, hI2 _ _ ⟨rfl, q + 1, by show ((at0.length + q : Nat) : Int) + 1 = _; omega, by omega, hu⟩ (by show (_ - (((at0.length + q : Nat) : Int) + 1)).toNat < (_ - ((at0.length + q : Nat) : Int)).toNat; omega)⟩
        show inR _ ∧ K2 (_, _) ξ
        by_cases cin : (ad.getD n adD).2.1 ∈ (gv.take q).map (fun z => z.1)
        · rw [decide_eq_true cin, if_neg (by decide)]
          exact hstep 1 (by rw [decide_eq_true ((etk _).mpr (Or.inl cin))]; rfl)
        · rw [decide_eq_false cin, if_pos (by decide)]
          by_cases ce : (gv.getD q atD).1 = (ad.getD n adD).2.1
          · rw [if_pos (iN.mpr ce)]
            exact hstep 1 (by rw [decide_eq_true ((etk _).mpr (Or.inr ce.symm))]; rfl)
          · rw [if_neg (fun y => ce (iN.mp y))]
            exact hstep 0 (by rw [decide_eq_false (fun y => ((etk _).mp y).elim cin (fun y => ce y.symm))]; rfl)
      · rw [if_neg (by omega)]
        have htq : gv.take q = gv := List.take_of_length_le (by omega)
        rw [htq]
        have hv9 : ξ.2 (rfo o 18) 9 = (gV g2 9 : Int) := hX.1.2.2.2.2.2 9 (by decide)
        have e49 := e4 9
        rw [if_pos rfl] at e49
        have hrq := rqN_le (ad := ad) (el := el) (gv := gv) (n := n)
        rw [show Int.toNat 9 = 9 from rfl, hv9, m4]
        generalize hmem : decide ((ad.getD n adD).2.1 ∈ gv.map (fun z => z.1)) = mem
        have hmem' : mem = true ↔ (ad.getD n adD).2.1 ∈ gv.map (fun z => z.1) := by rw [← hmem]; exact decide_eq_true_iff
        have ev : (if b1 mem = 0 then (if (((ad.getD n adD).2.2.2.1 : Nat) : Int) = 1 then (1 : Int) else 0) else 0) = ((if ((ad.getD n adD).1 = el ∧ (ad.getD n adD).2.2.2.1 = 1 ∧ ¬ (ad.getD n adD).2.1 ∈ gv.map (fun z => z.1)) then 1 else 0 : Nat) : Int) := by
          cases hm : mem with
          | true =>
            rw [if_neg (by decide), if_neg (fun y => y.2.2 (hmem'.mp hm))]; rfl
          | false =>
            have hnm : ¬ (ad.getD n adD).2.1 ∈ gv.map (fun z => z.1) := fun y => by rw [hmem'.mpr y] at hm; cases hm
            rw [if_pos (by decide)]
            by_cases c1 : (ad.getD n adD).2.2.2.1 = 1
            · rw [if_pos (by omega), if_pos ⟨cE, c1, hnm⟩]; rfl
            · rw [if_neg (by omega), if_neg (fun y => c1 y.2.1)]; rfl
        rw [ev]
        generalize hn9 : (if ((ad.getD n adD).1 = el ∧ (ad.getD n adD).2.2.2.1 = 1 ∧ ¬ (ad.getD n adD).2.1 ∈ gv.map (fun z => z.1)) then 1 else 0 : Nat) = n9 at *
        have hn9' : n9 ≤ 1 := by rw [← hn9]; split <;> omega
        refine ⟨d2', ⟨by omega, by omega⟩, fun _ => ⟨by omega, by omega⟩, ⟨by omega, by omega⟩, ⟨by omega, by omega⟩, ?_⟩
        have hX9 := hX.vio (k := 9) (m := n9) ho (show (gV g2 9 : Int) + (n9 : Int) = ((gV g2 9 + n9 : Nat) : Int) by omega)
        generalize hY : pr ξ (rfo o 18) 9 ((gV g2 9 : Int) + (n9 : Int)) = Y at *
        have YF : Y.1 = ξ.1 := by rw [← hY]; rfl
        have YR : ∀ r, r ≠ rfo o 18 → Y.2 r = ξ.2 r := fun r z => by funext jj; rw [← hY, pr_2, if_neg (fun y => z y.1)]
        have hgv9 : ∀ k, gV ((gB g2, gC g2, gP g2, fun j => gV g2 j + if j = 9 then n9 else 0) : KG) k = gV g2 k + if k = 9 then n9 else 0 := fun _ => rfl
        cases hm : mem with
        | true =>
          rw [if_neg (by decide)]
          refine skip Y _ hX9 rfl rfl rfl ?_ hgv9 YF YR
          unfold dfn1
          rw [if_neg (fun y => y.2.2 (hmem'.mp hm))]
        | false =>
          have hnm : ¬ (ad.getD n adD).2.1 ∈ gv.map (fun z => z.1) := fun y => by rw [hmem'.mpr y] at hm; cases hm
          rw [if_pos (by decide), YR 202 (by omega), m4]
          refine ⟨⟨by omega, by omega⟩, fun _ => ⟨by omega, by omega⟩, ?_⟩
          have hk4 := hkd n c
          by_cases c3 : 3 ≤ (ad.getD n adD).2.2.2.1
          · rw [if_pos (by omega)]
            refine ⟨⟨by omega, by omega⟩, ⟨by omega, by omega⟩, ⟨by omega, by omega⟩, ⟨by omega, by omega⟩, ?_⟩
            obtain ⟨g1', g2'⟩ := m5 c3
            have hdf : dfn1 ad el gv n = some ((ad.getD n adD).2.1, (ad.getD n adD).2.2.2.2.1, some n) := by
              unfold dfn1
              rw [if_pos ⟨cE, c3, hnm⟩]
            have hTY : KAt o Y (gB g2) (gP g2) ad (at0 ++ gv ++ dflN ad el gv n) := hT.dep kle.refl cle.refl (by rw [YF]) (fun k z1 z2 => YR _ (by have := rf_8 ho z1 z2; omega))
            have hDY : KAd Y (gB g2) (gP g2) ad := hD.dep kle.refl cle.refl (by rw [YF]) (by rw [YF]; exact Int.le_refl _) (fun r z1 z2 => YR r (by omega)) (fun i _ => by rw [YR 207 (by omega)])
            have hlen := dflN_le (ad := ad) (el := el) (gv := gv) (n := n)
            have hcapn : kcL (gB g2) (plk (ad.getD n adD).2.1) := by
              obtain ⟨rr, hrr⟩ := dflN_pre (ad := ad) (el := el) (gv := gv) (n := n + 1) (m := ad.length) (by omega)
              rw [dfl_N, hrr, dflN_s, hdf] at hbk
              rw [List.flatMap_append, List.flatMap_append, List.append_assoc] at hbk
              have := (kcL_app.mp hbk).2
              rw [← e1] at this
              have this2 := (kcL_app.mp this).1
              have e5 : ((some ((ad.getD n adD).2.1, (ad.getD n adD).2.2.2.2.1, some n) : Option Att).toList).flatMap (fun z => plk z.1) = plk (ad.getD n adD).2.1 := by
                show plk _ ++ [] = _
                rw [List.append_nil]
              rw [e5] at this2
              exact this2
            refine sp_K_add (g := (gB g2, gC g2, gP g2, fun j => gV g2 j + if j = 9 then n9 else 0)) (at_ := at0 ++ gv ++ dflN ad el gv n) (ad := ad) (s := (ad.getD n adD).2.1) (val := (ad.getD n adD).2.2.2.2.1) (d := some n) hL hX9 hTY (by rw [YR 200 (by omega)]; exact m2) (hnc n c) (by rw [YR 203 (by omega)]; exact g1') (by rw [YR 204 (by omega)]; exact g2') (by rw [YR 201 (by omega)]; exact m3) (hty n c) (by rw [List.length_append, List.length_append]; omega) hcapn (fun τ u1 u2 u3 u4 => ?_)
            have hkl2 : kle (gB g2) (kpL (gB g2) (plk (ad.getD n adD).2.1)) := kpL_pre
            refine ⟨⟨by omega, by omega⟩, hI _ _ ⟨n + 1, (kpL (gB g2) (plk (ad.getD n adD).2.1), gC g2, gP g2, fun j => gV g2 j + if j = 9 then n9 else 0), by omega, by omega, u1, ?_, ?_, ?_, e2, e3, fun k => ?_, ?_⟩ (by omega)⟩
            · exact hDY.dep hkl2 cle.refl (u3 16 56 (by omega)) (by rw [u3 16 58 (by omega)]; exact Int.le_refl _) (fun r z1 z2 => u4 r (by omega)) (fun i _ => by rw [u4 207 (by omega)])
            · rw [dflN_s, hdf, ← List.append_assoc]
              exact u2
            · show kpL (gB g2) (plk (ad.getD n adD).2.1) = _
              rw [dflN_s, hdf, List.flatMap_append, kpL_app, ← e1]
              show _ = kpL (gB g2) (plk _ ++ [])
              rw [List.append_nil]
            · show gV g2 k + (if k = 9 then n9 else 0) = _
              rw [e4, rqN_s, hn9]
              by_cases k9 : k = 9
              · rw [if_pos k9, if_pos k9, if_pos k9]; omega
              · rw [if_neg k9, if_neg k9, if_neg k9]
            · exact hF.trans ⟨fun pp kk z => by rw [u3 pp kk (by omega), YF], fun r z => by rw [u4 r (by omega), YR r (by omega)]⟩
          · rw [if_neg (by omega)]
            refine skip Y _ hX9 rfl rfl rfl ?_ hgv9 YF YR
            unfold dfn1
            rw [if_neg (fun y => c3 y.2.1)]
    · rw [if_neg (fun y => cE (iE.mp y))]
      refine skip ρ g2 hX rfl rfl rfl ?_ (fun k => ?_) rfl (fun _ _ => rfl)
      · unfold dfn1
        rw [if_neg (fun y => cE y.1)]
      · by_cases k9 : k = 9
        · rw [if_pos k9, if_neg (fun y => cE y.1)]; rfl
        · rw [if_neg k9]; rfl
  · rw [if_neg (by omega)]
    have hnl : n = ad.length := by omega
    subst hnl
    exact hq ρ g2 hX hD hT e1 e2 e3 e4 hF
end Kdf
