/-! ===== values in the class: as the pure machine finds them ===== -/
section JVal4
variable {L : Nat → Nat} {rm nd : Nat} {σ0 : IS}
set_option maxRecDepth 10000 in
set_option maxHeartbeats 4000000 in
theorem j_readValue {Q : Int → IS → Prop} {en : List Ent} {os : List Nat} {f2 : Nat × Nat} {t : List Frm} {q : Int} {l0 aft : List Int} {c0 m0 : Nat} {un : Bool} (hln : JLn L rm nd) (hZ : JZ L rm nd σ0) (h4 : σ0.1 2 4 = 0) (hF : JFr σ0 ((q :: (l0 ++ q :: aft), f2) :: t) os) (hE : JEn L σ0 en (((q :: (l0 ++ q :: aft), f2) :: t).map (fun z => z.2.1))) (hG : GO en ((q :: (l0 ++ q :: aft), f2) :: t))
    (hc : σ0.1 3 13 = (c0 : Int)) (hm : σ0.1 3 14 = (m0 : Int)) (hc0 : c0 ≤ rm) (hl0 : l0.length ≤ c0) (hm0 : m0 ≤ 700000) (hun : un = true ↔ ¬ (σ0.1 3 15 = 0 ∧ ¬ σ0.1 3 16 = 0)) (hq : isQt q = true) (hv : vlg (gd (l0 ++ q :: aft)) (l0 ++ q :: aft).length q ((l0 ++ q :: aft).length + 1) 0 = some (l0.length + 1)) (hcap : jtp σ0 + l0.length + (rm - c0) ≤ L 101) (hen : en.length < rm / 14 + 2)
    (hB : ∀ f σ', vrn rm en (f2.1 :: t.map (fun z => z.2.1)) un (2 * rm + 3) ([(l0, 0)], c0, m0, []) = .inl f → VB L rm nd σ0 (jtp σ0) f σ' → Q (jtp σ0 : Int) σ')
    (hC : ∀ c m out σ', vrn rm en (f2.1 :: t.map (fun z => z.2.1)) un (2 * rm + 3) ([(l0, 0)], c0, m0, []) = .inr (c, m, out) → JZ L rm nd σ' → σ'.1 2 4 = 0 → JFr σ' ((aft, f2) :: t) os → JEn L σ' en (f2.1 :: t.map (fun z => z.2.1)) → (σ'.1 3 13 = (c : Int) ∧ σ'.1 3 14 = (m : Int) ∧ σ'.1 2 6 = σ0.1 2 6) → (jtp σ' = jtp σ0 + out.length ∧ sl (σ'.2 101) (jtp σ0) out.length = out) → VX (jtp σ0) σ0 σ' → c ≤ rm → m ≤ m0 + 2 * rm + 2 → jtp σ' + (rm - c) ≤ L 101 → VE ((jtp σ0 : Int), t.length, σ0.1 2 3) σ' → Q (jtp σ0 : Int) σ') : w_Entities_readValue L Q σ0 := by
  have hrm := hln.2.1
  have hq34 : q = 34 ∨ q = 39 := by simpa [isQt] using hq
  obtain ⟨a, hjt, has, hatp⟩ := hF.jt hln hZ
  unfold w_Entities_readValue
  refine sp_Reader_peek hjt ?_
  have hT0 := sht_sl has
  have hq0 : lk (σ0.2 101) (a + (q :: (l0 ++ q :: aft), f2).1.length) a = q := by
    have := sh_lk hT0 0
    rw [show a + 0 = a by omega] at this
    rw [this]
    rfl
  rw [hq0, hjt.1]
  have hae : a + (l0.length + 1 + (aft.length + 1)) ≤ jtp σ0 := by
    have : (q :: (l0 ++ q :: aft), f2).1.length = l0.length + 1 + (aft.length + 1) := by simp; omega
    omega
  have hjl := hZ.1.jtp_le
  have h9 : L 101 < 1000000 := hln.1.2.2.2.2.2.2.2
  refine ⟨⟨by omega, by omega⟩, ?_⟩
  have hdep0 : σ0.1 3 12 = (t.length : Int) := hF.get.1
  generalize hR : vrn rm en (f2.1 :: t.map (fun z => z.2.1)) un (2 * rm + 3) ([(l0, 0)], c0, m0, []) = R at *
  generalize hb0 : jtp σ0 = b0 at *
  have hQ13 : σ0.1 1 3 = (b0 : Int) := by rw [← hjl.1]
  refine WL_ind (fun s σ => (s.1 = 1 ∧ 0 ≤ s.2 ∧ ∃ st lb c m out, VA L rm nd σ0 en os f2 t q aft b0 st lb c m out σ ∧ R = vrn rm en (f2.1 :: t.map (fun z => z.2.1)) un (2 * rm + 3) (st ++ [(lb, 0)], c, m, out) ∧ c ≤ rm ∧ ((vms rm (st ++ [(lb, 0)], c, m, out) : Nat) : Int) + s.2 ≤ 2 * (rm : Int) + 2 ∧ (m : Int) ≤ (m0 : Int) + s.2 ∧ jtp σ + vln (st ++ [(lb, 0)]) + (rm - c) ≤ L 101) ∨ (∃ f, R = .inl f ∧ VB L rm nd σ0 b0 f σ) ∨ (s.1 = 0 ∧ 0 ≤ s.2 ∧ ∃ c m out, R = .inr (c, m, out) ∧ JZ L rm nd σ ∧ σ.1 2 4 = 0 ∧ JFr σ ((aft, f2) :: t) os ∧ JEn L σ en (f2.1 :: t.map (fun z => z.2.1)) ∧ (σ.1 3 13 = (c : Int) ∧ σ.1 3 14 = (m : Int) ∧ σ.1 2 6 = σ0.1 2 6) ∧ (jtp σ = b0 + out.length ∧ sl (σ.2 101) b0 out.length = out) ∧ VX b0 σ0 σ ∧ c ≤ rm ∧ m ≤ m0 + 2 * rm + 2 ∧ jtp σ + (rm - c) ≤ L 101 ∧ VE ((b0 : Int), t.length, σ0.1 2 3) σ)) (fun s _ => (1000000 - s.2).toNat) ?_ (1, 0) _ ?_
  · rintro ⟨wi, tu⟩ σ hI K hK
    dsimp only at hI hK ⊢
    rcases hI with ⟨rfl, ht0, st, lb, c, m, out, hVA, hRs, hcr, hms, hmt, hcp⟩ | ⟨f, hRf, hvb⟩ | ⟨rfl, ht0, c, m, out, hRc, g1, g2, g3, g4, g5, g6, g7, g8, g9, g10, g11⟩
    · obtain ⟨v1, v2, v3, v4, v5, v6, v7, v8, v9, v10, v11⟩ := id hVA
      have hjl' := v1.1.jtp_le
      rw [if_pos ⟨by omega, by decide, v2⟩]
      have hdep : σ.1 3 12 + 1 = ((vfr st ++ (lb ++ q :: aft, f2) :: t).length : Int) := v3.1
      have hdl : (vfr st ++ (lb ++ q :: aft, f2) :: t).length = st.length + 1 + t.length := by
        rw [List.length_append, List.length_cons]
        unfold vfr
        rw [List.length_map]
        omega
      rw [hdl] at hdep
      have hstep := vrn_step (rm := rm) (en := en) (bus := f2.1 :: t.map (fun z => z.2.1)) (und := un) (s := (st ++ [(lb, 0)], c, m, out)) (N := 2 * rm + 3) (by simp) hcr (by omega)
      rw [hstep] at hRs
      have hdec := fun s' (h : vst rm en (f2.1 :: t.map (fun z => z.2.1)) un (st ++ [(lb, 0)], c, m, out) = .inr s') => vst_dec h (by simp) hcr
      -- a state that goes on
      have hnext : ∀ (s' : VS) (st' : List (List Int × Nat)) (lb' : List Int) (c' m' : Nat) (out' : List Int) (σ' : IS), vst rm en (f2.1 :: t.map (fun z => z.2.1)) un (st ++ [(lb, 0)], c, m, out) = .inr s' → s' = (st' ++ [(lb', 0)], c', m', out') → VA L rm nd σ0 en os f2 t q aft b0 st' lb' c' m' out' σ' → m' ≤ m + 1 → jtp σ' + vln (st' ++ [(lb', 0)]) + (rm - c') ≤ L 101 → inR (tu + 1) ∧ K (1, tu + 1) σ' := by
        intro s' st' lb' c' m' out' σ' hs' he hva hmm hcp'
        have hd := hdec s' hs'
        rw [hs'] at hRs
        dsimp only at hRs
        subst he
        refine ⟨⟨by omega, by omega⟩, hK _ _ (Or.inl ⟨rfl, by dsimp only; omega, st', lb', c', m', out', hva, hRs, hd.2, by dsimp only; omega, by dsimp only; omega, hcp'⟩) (by dsimp only; omega)⟩
      have hbad : ∀ (f : Nat) (wi : Int) (σ' : IS), vst rm en (f2.1 :: t.map (fun z => z.2.1)) un (st ++ [(lb, 0)], c, m, out) = .inl f → VB L rm nd σ0 b0 f σ' → inR (tu + 1) ∧ K (wi, tu + 1) σ' := by
        intro f wi σ' hs' hvb
        rw [hs'] at hRs
        dsimp only at hRs
        exact ⟨⟨by omega, by omega⟩, hK _ _ (Or.inr (Or.inl ⟨f, hRs, hvb⟩)) (by dsimp only; omega)⟩
      -- a character, or a reference, of the text that is gone through
      have hgo : ∀ (x : Int) (r R' : List Int) (w : Nat) (st0 : List (List Int × Nat)) (g : Nat × Nat) (FR : List Frm), VT x r R' w st0 g FR st lb f2 t q aft → (st = [] → x ≠ q) → w_Reader_peek L (fun v8 σ7 => WJ (fun (s11 : Int) (σ12 : IS) => inR (tu + 1) ∧ K (s11, (tu + 1)) σ12) (fun J9 => if v8 = (-1) ∧ ((σ0.1 3 12) < (σ7.1 3 12)) then w_Entities_leave L (fun σ14 => J9 1 σ14) σ7 else WJ (fun (s18 : Unit) (σ19 : IS) => inR ((σ19.1 2 2) + 1) ∧ J9 0 (pf σ19 2 2 ((σ19.1 2 2) + 1))) (fun J16 => if v8 = (-1) then J16 () σ7 else if ¬ v8 = q ∨ (¬ (σ7.1 3 12) = (σ0.1 3 12)) then if v8 = 38 then w_Reader_readReference L (fun σ35 => WJ (fun (s39 : Int) (σ40 : IS) => WJ (fun (s43 : Unit) (σ44 : IS) => J9 1 σ44) (fun J41 => if s39 = (-1) then J41 () σ40 else w_Store_add L s39 (fun σ46 => J41 () σ46) σ40)) (fun J37 => if (σ35.1 2 4) = 0 then w_Entities_mean L (-1) (fun v50 σ49 => J37 v50 σ49) σ35 else J37 (-1) σ35)) σ7 else if v8 = 60 then w_Reader_fail L 11 (fun σ33 => J9 1 σ33) σ7 else w_Reader_isSpace L v8 (fun v25 σ24 => w_Store_add L (if v25 = 0 then v8 else (32 : Int)) (fun σ26 => inR ((σ26.1 2 2) + 1) ∧ J9 1 (pf σ26 2 2 ((σ26.1 2 2) + 1))) σ24) σ7 else J16 () σ7))) σ := by
        intro x r R' w st0 g FR hVT hxq
        obtain ⟨t1, t2, ⟨y, t3⟩, t4, t5⟩ := id hVT
        have v3' := v3
        rw [t2] at v3'
        obtain ⟨a1, hjt1, has1, hatp1⟩ := v3'.jt hln v1
        have hlR : (x :: R', g).1.length = R'.length + 1 := rfl
        rw [hlR] at hjt1 has1 hatp1
        have hT1 : SHT (gd (x :: R')) (σ.2 101) (R'.length + 1) a1 := sht_sl (l := x :: R') has1
        have hrR : R'.length = r.length + y.length := by rw [t3, List.length_append]
        have hpre : ∀ i, i < r.length + 1 → σ.2 101 (a1 + i) = gd (x :: r) i := by
          intro i hi
          rw [hT1 i (by omega), t3]
          exact gd_app (l := x :: r) (by rw [List.length_cons]; exact hi)
        have hpk : lk (σ.2 101) (a1 + (R'.length + 1)) a1 = x := by
          have := sh_lk hT1 0
          rw [show a1 + 0 = a1 by omega] at this
          rw [this]
          rfl
        have hx0 : σ.2 101 a1 = x := by
          have := hpre 0 (by omega)
          rw [show a1 + 0 = a1 by omega] at this
          exact this
        have hxr := v1.2.1 a1 (by omega)
        rw [hx0] at hxr
        refine sp_Reader_peek hjt1 ?_
        rw [hpk]
        refine WJ_dir ?_
        dsimp only
        rw [if_neg (fun z => by omega)]
        refine WJ_dir ?_
        dsimp only
        have hgoc : ¬ x = q ∨ ¬ σ.1 3 12 = σ0.1 3 12 := by
          cases st with
          | nil => exact Or.inl (hxq rfl)
          | cons z st1 =>
            rw [List.length_cons] at hdep
            exact Or.inr (by omega)
        rw [if_neg (by omega), if_pos hgoc]
        have hvc : vst rm en (f2.1 :: t.map (fun z => z.2.1)) un (st ++ [(lb, 0)], c, m, out) = vst rm en (f2.1 :: t.map (fun z => z.2.1)) un ((x :: r, w) :: st0, c, m, out) := by rw [t1]
        rw [vst_cons] at hvc
        have hvl : vln (st ++ [(lb, 0)]) = r.length + 1 + vln st0 := by
          rw [t1]
          unfold vln
          rw [List.map_cons, List.sum_cons, List.length_cons]
        have hjsm : jtp σ < L 101 := by omega
        by_cases c38 : x = 38
        · rw [if_pos c38]
          rw [if_neg (by omega), if_neg (by simp [c38])] at hvc
          have hJS : JS L σ (a1 + (R'.length + 1)) := ⟨hjt1.2.1, hjt1.2.2.1, h9, v2, v1.2.2.2.2.2.1⟩
          have hrfS : rfp (σ.2 101) (a1 + (R'.length + 1)) (some a1) = mvo a1 (rfp (gd (x :: r)) (r.length + 1) (some 0)) := by
            have h := sh_rfp hT1 (some 0)
            rw [mvo_some, show a1 + 0 = a1 by omega] at h
            rw [h, t4 c38]
          refine j_readReference (k := 0) hJS (by omega) v1.2.1 (show a1 < a1 + (R'.length + 1) by omega) (by rw [hx0]; exact c38) (pf_self hjt1.1).symm (fun ja hex k0 hja h35 hhex hk0 τ' hτ => ?_) (fun ja hja h35 τ' hτ => ?_) (fun hja τ' hτ => ?_)
          · -- a number
            rw [hrfS] at hja
            obtain ⟨j, hj, hjj⟩ := mvo_eq_some.mp hja
            have hjp := rfp_pos (l := x :: r) hj
            rw [List.length_cons] at hjp
            rw [hj] at hvc
            dsimp only at hvc
            have g1 : gd (x :: r) 1 = 35 := by rw [← hpre 1 (by omega)]; exact h35
            have g2 : (hex = true ↔ gd (x :: r) 2 = 120) := by rw [← hpre 2 (by omega)]; exact hhex
            have hnum : numl (if hex = true then 16 else 10) (sl (σ.2 101) k0 (ja - 1 - k0)) = rfN (x :: r) j := by
              unfold rfN
              cases hex with
              | true =>
                rw [if_pos rfl] at hk0
                rw [if_pos (g2.mp rfl), if_pos rfl, hk0, hjj, show a1 + j - 1 - (a1 + 3) = j - 1 - 3 by omega]
                congr 1
                exact sl_ext (fun i hi => by rw [Nat.add_assoc]; exact hpre _ (by omega))
              | false =>
                rw [if_neg (by decide)] at hk0
                rw [if_neg (fun z => absurd (g2.mpr z) (by decide)), if_neg (by decide), hk0, hjj, show a1 + j - 1 - (a1 + 2) = j - 1 - 2 by omega]
                congr 1
                exact sl_ext (fun i hi => by rw [Nat.add_assoc]; exact hpre _ (by omega))
            have hNpos : 0 ≤ rfN (x :: r) j := by
              obtain ⟨n1, n2, n3, n4⟩ := rfp_num hj g1 hex g2 (if hex = true then 3 else 2) (by split <;> rfl)
              rw [← hnum]
              refine numl_pos (by split <;> omega) _ (fun ch hch => ?_)
              obtain ⟨i, hi, rfl⟩ := List.mem_map.mp hch
              have hi' := List.mem_range.mp hi
              have hall := sk_all (p := hxP hex) (T := gd (x :: r)) (e := r.length + 1) (i := if hex = true then 3 else 2)
              cases hex with
              | true =>
                rw [if_pos rfl] at hk0 n4 hall n1
                have h5 := hall (3 + i) (by omega) (by rw [n4]; omega)
                rw [hk0, Nat.add_assoc, hpre (3 + i) (by omega)]
                exact h5
              | false =>
                rw [if_neg (by decide)] at hk0 n4 hall n1
                have h5 := hall (2 + i) (by omega) (by rw [n4]; omega)
                rw [hk0, Nat.add_assoc, hpre (2 + i) (by omega)]
                exact dg_hex h5
            rw [hnum] at hτ
            have hτe : τ' = pf (pf σ 2 7 (clmp 1114112 (rfN (x :: r) j))) 2 2 (ja : Int) := hτ.2
            have hcl := clmp_in hNpos
            have hτZ : JZ L rm nd τ' ∧ sgr σ τ' := by
              have := v1.jb (σ' := τ') (e := a1 + (R'.length + 1)) (k := 0) ⟨by rw [hτe]; rfl, fun o i hi => by rw [hτe, pf_1, if_neg (by omega), pf_1, if_neg (by omega)], ⟨ja, by rw [hτe, pf_eq], by omega⟩, by rw [hτe]; exact (v1.2.2.2.2.2.1.fld hcl).low (by decide)⟩
              exact this
            have hτ4 : τ'.1 2 4 = 0 := by rw [hτe, pf_1, if_neg (by omega), pf_1, if_neg (by omega)]; exact v2
            have hτX : VX b0 σ0 τ' := by rw [hτe]; exact (v9.fld rfl).fld rfl
            have hτf : ∀ o k, ¬ (o = 2 ∧ (k = 2 ∨ k = 7)) → τ'.1 o k = σ.1 o k := fun o k hk => by rw [hτe, pf_1, if_neg (by omega), pf_1, if_neg (by omega)]
            have hτr : τ'.2 = σ.2 := by rw [hτe]; rfl
            have hτ2 : τ'.1 2 2 = σ.1 2 2 + (j : Int) := by rw [hτe, pf_eq, hjt1.1]; omega
            have hτj : jtp τ' = jtp σ := by unfold jtp; rw [hτf 1 3 (by omega)]
            unfold WJ
            dsimp only
            rw [if_pos hτ4]
            have hK2 : rfK (x :: r) j = if isCh (rfN (x :: r) j) = true then rfN (x :: r) j else -2 := by
              unfold rfK
              rw [if_pos g1]
            refine sp_mean_num (N := rfN (x :: r) j) (by rw [hτe, pf_nk (by decide), pf_eq]) hNpos (fun hch => ?_) (fun hch => ?_)
            · rw [if_pos hch] at hK2
              rw [hK2, if_pos hNpos] at hvc
              have hNc := isCh_le hch
              rw [if_neg (by omega)]
              refine sp_Store_add hτZ.1.1 hln.1 (by rw [hτj]; exact hjsm) ?_
              have hA := hτZ.1.ad (c := rfN (x :: r) j) (by rw [hτj]; exact hjsm) hNc
              obtain ⟨st', lb', hva, hs1, hs2⟩ := VA_go (σ' := pf (pr τ' 101 (jtp τ') (rfN (x :: r) j)) 1 3 ((jtp τ' : Int) + 1)) (m' := m) (out' := out ++ [rfN (x :: r) j]) hln hVA hVT (show j ≤ r.length + 1 by omega) (fun z => absurd c38 z) (fun _ => hj) hA.1 (by rw [pf_no (by decide), pr_1]; exact hτ4) (hτZ.2.trans hA.2) (by rw [pf_no (by decide), pr_1]; exact hτf 3 12 (by omega)) (by rw [pf_no (by decide), pr_1]; exact hτf 2 3 (by omega)) (fun r h1 h2 => by rw [pf_2]; funext i; rw [pr_2, if_neg (by omega), hτr]) (by rw [pf_no (by decide), pr_1]; exact hτ2) ⟨fun o k hk => by simp [fEn] at hk; rw [pf_no (by omega), pr_1]; exact hτf o k (by omega), fun r hr => by simp [rEn] at hr; rw [pf_2]; funext i; rw [pr_2, if_neg (by omega), hτr]⟩ ⟨by rw [pf_no (by decide), pr_1, hτf 3 13 (by omega)]; exact v7.1, by rw [pf_no (by decide), pr_1, hτf 3 14 (by omega)]; exact v7.2.1, by rw [pf_no (by decide), pr_1, hτf 2 6 (by omega)]; exact v7.2.2⟩ ⟨by rw [jtp_ad, hτj, v8.1, List.length_append, List.length_singleton]; omega, sl_ad (by rw [hτj]; exact v8.1) (by rw [hτr]; exact v8.2)⟩ (hτX.ad (by rw [hτj]; omega))
              refine hnext _ st' lb' c m (out ++ [rfN (x :: r) j]) _ hvc (by rw [hs1]) hva (by omega) ?_
              rw [hs1, jtp_ad, hτj]
              have : vln (((x :: r).drop j, w) :: st0) = r.length + 1 - j + vln st0 := by
                unfold vln
                rw [List.map_cons, List.sum_cons, List.length_drop, List.length_cons]
              omega
            · rw [if_neg (by rw [hch]; decide)] at hK2
              rw [hK2, if_neg (by decide), if_pos rfl] at hvc
              rw [if_pos rfl]
              refine hbad 12 1 _ hvc ⟨hτZ.1.ft, by rw [flt_val hτ4, pf_eq]; rfl, by decide, hτX.ft, by rw [jtp_ft, hτj]; omega, a1 + (R'.length + 1), ja, ⟨?_, ?_, hjt1.2.2.1, h9, by omega⟩, by omega⟩
              · rw [flt_val hτ4, pf_nk (by decide), hτe, pf_eq]
              · rw [flt_val hτ4, pf_nk (by decide), hτf 2 3 (by omega)]; exact hjt1.2.1
          · -- a name
            rw [hrfS] at hja
            obtain ⟨j, hj, hjj⟩ := mvo_eq_some.mp hja
            have hjp := rfp_pos (l := x :: r) hj
            rw [List.length_cons] at hjp
            rw [hj] at hvc
            dsimp only at hvc
            have g1 : ¬ gd (x :: r) 1 = 35 := by rw [← hpre 1 (by omega)]; exact h35
            have hτe : τ' = pf (pf (pf (pf σ 2 7 (-1)) 2 8 ((a1 : Int) + 1)) 2 9 ((ja : Int) - 1 - ((a1 : Int) + 1))) 2 2 (ja : Int) := hτ.2
            have hτZ : JZ L rm nd τ' ∧ sgr σ τ' := by
              have := v1.jb (σ' := τ') (e := a1 + (R'.length + 1)) (k := 0) ⟨by rw [hτe]; rfl, fun o i hi => by rw [hτe, pf_1, if_neg (by omega), pf_1, if_neg (by omega), pf_1, if_neg (by omega), pf_1, if_neg (by omega)], ⟨ja, by rw [hτe, pf_eq], by omega⟩, by rw [hτe]; exact (((v1.2.2.2.2.2.1.fld (by omega)).fld (by omega)).fld (by omega)).low (by decide)⟩
              exact this
            have hτf : ∀ o k, ¬ (o = 2 ∧ (k = 2 ∨ k = 7 ∨ k = 8 ∨ k = 9)) → τ'.1 o k = σ.1 o k := fun o k hk => by rw [hτe, pf_1, if_neg (by omega), pf_1, if_neg (by omega), pf_1, if_neg (by omega), pf_1, if_neg (by omega)]
            have hτ4 : τ'.1 2 4 = 0 := by rw [hτf 2 4 (by omega)]; exact v2
            have hτX : VX b0 σ0 τ' := by rw [hτe]; exact (((v9.fld rfl).fld rfl).fld rfl).fld rfl
            have hτr : τ'.2 = σ.2 := by rw [hτe]; rfl
            have hτ2 : τ'.1 2 2 = σ.1 2 2 + (j : Int) := by rw [hτe, pf_eq, hjt1.1]; omega
            have hτj : jtp τ' = jtp σ := by unfold jtp; rw [hτf 1 3 (by omega)]
            have hτ7 : τ'.1 2 7 = -1 := by rw [hτe, pf_nk (by decide), pf_nk (by decide), pf_nk (by decide), pf_eq]
            have hτ8 : τ'.1 2 8 = (a1 : Int) + 1 := by rw [hτe, pf_nk (by decide), pf_nk (by decide), pf_eq]
            have hτ9 : τ'.1 2 9 = (ja : Int) - 1 - ((a1 : Int) + 1) := by rw [hτe, pf_nk (by decide), pf_eq]
            have hstr : sl (τ'.2 101) (τ'.1 2 8).toNat (τ'.1 2 9).toNat = sl (gd (x :: r)) 1 (j - 2) := by
              rw [hτ8, hτ9, hτr, show ((a1 : Int) + 1).toNat = a1 + 1 by omega, show ((ja : Int) - 1 - ((a1 : Int) + 1)).toNat = j - 2 by omega]
              exact sl_ext (fun i hi => by rw [Nat.add_assoc]; exact hpre _ (by omega))
            have hK2 : rfK (x :: r) j = alw (sl (gd (x :: r)) 1 (j - 2)) := by
              unfold rfK
              rw [if_neg g1]
            rw [hK2] at hvc
            -- the state behind the reference, whatever was looked for
            have hA : ∀ (z : Int) (m' : Nat) (σ'' : IS), (∀ o k, ¬ (o = 1 ∧ k = 13) → ¬ (o = 3 ∧ k = 14) → σ''.1 o k = τ'.1 o k) → σ''.2 = τ'.2 → σ''.1 3 14 = (m' : Int) → z = σ''.1 1 13 → ∃ st' lb', VA L rm nd σ0 en os f2 t q aft b0 st' lb' c m' out σ'' ∧ st' ++ [(lb', 0)] = ((x :: r).drop j, w) :: st0 ∧ vfr st' ++ (lb' ++ q :: aft, f2) :: t = ((x :: R').drop j, g) :: FR := by
              intro z m' σ'' hf hr h14 _
              have hS2 := SI_of hτZ.1.1 (σ' := σ'') (hf 1 14 (by omega) (by omega)) (by rw [hf 1 3 (by omega) (by omega)]; have := hτZ.1.1.1; omega) (fun r _ _ => by rw [hr]) (fun i _ => by rw [hr])
              have hZ2 : JZ L rm nd σ'' := hτZ.1.dep hS2.1 hS2.2 (jch_row hτZ.1.2.1 (by rw [hr])) (rng_of hτZ.1.2.2.2.2.2.1 (fun i _ _ => hf 2 i (by omega) (by omega))) ⟨fun o k hk => hf o k (by simp [fZ] at hk; omega) (by simp [fZ] at hk; omega), fun r _ => by rw [hr]⟩
              refine VA_go (σ' := σ'') (m' := m') (out' := out) hln hVA hVT (show j ≤ r.length + 1 by omega) (fun z => absurd c38 z) (fun _ => hj) hZ2 (by rw [hf 2 4 (by omega) (by omega)]; exact hτ4) (hτZ.2.trans hS2.2) (by rw [hf 3 12 (by omega) (by omega)]; exact hτf 3 12 (by omega)) (by rw [hf 2 3 (by omega) (by omega)]; exact hτf 2 3 (by omega)) (fun r _ _ => by rw [hr, hτr]) (by rw [hf 2 2 (by omega) (by omega)]; exact hτ2) ⟨fun o k hk => by simp [fEn] at hk; rw [hf o k (by omega) (by omega)]; exact hτf o k (by omega), fun r _ => by rw [hr, hτr]⟩ ⟨by rw [hf 3 13 (by omega) (by omega), hτf 3 13 (by omega)]; exact v7.1, h14, by rw [hf 2 6 (by omega) (by omega), hτf 2 6 (by omega)]; exact v7.2.2⟩ ⟨by unfold jtp; rw [hf 1 3 (by omega) (by omega)]; exact hτj.trans v8.1, by rw [hr, hτr]; exact v8.2⟩ ⟨hτX.1.trans ⟨fun o k hk => hf o k (by simp [fV] at hk; omega) (by simp [fV] at hk; omega), fun r _ => by rw [hr]⟩, fun i hi => by rw [hr]; exact hτX.2 i hi⟩
            have hvln : vln (((x :: r).drop j, w) :: st0) = r.length + 1 - j + vln st0 := by
              unfold vln
              rw [List.map_cons, List.sum_cons, List.length_drop, List.length_cons]
            unfold WJ
            dsimp only
            rw [if_pos hτ4]
            refine sp_mean_name (s := sl (gd (x :: r)) 1 (j - 2)) (en := en) hln hτZ.1 hτ7 ⟨by omega, by omega, by omega⟩ hstr (v4.2.2.1.gr hτZ.2 hτZ.1.1 hln.1 (by rw [hτr])) (by rw [hτf 3 14 (by omega), v7.2.1]; omega) (fun hal z => ?_) (fun hal hno hcond z => ?_) (fun hal hno hcond z => ?_) (fun hal i hi z => ?_)
            · -- one of the five
              have halr : alw (sl (gd (x :: r)) 1 (j - 2)) ≤ 1114111 := by
                unfold alw
                split
                · omega
                · split
                  · omega
                  · split
                    · omega
                    · split
                      · omega
                      · split <;> omega
              rw [if_pos hal] at hvc
              rw [if_neg (by omega)]
              have hf1 : ∀ o k, ¬ (o = 1 ∧ k = 13) → (pf τ' 1 13 z).1 o k = τ'.1 o k := fun o k hk => by rw [pf_1, if_neg hk]
              have hj1 : jtp (pf τ' 1 13 z) = jtp σ := by unfold jtp; rw [hf1 1 3 (by omega)]; exact hτj
              obtain ⟨hS1, hg1⟩ := SI_pf (o := 1) (k := 13) (x := z) hτZ.1.1 (by omega)
              have hZ1 : JZ L rm nd (pf τ' 1 13 z) := hτZ.1.dep hS1 hg1 hτZ.1.2.1 (rng_of hτZ.1.2.2.2.2.2.1 (fun i _ _ => hf1 2 i (by omega))) (ag.refl.pf rfl)
              refine sp_Store_add hS1 hln.1 (by rw [hj1]; exact hjsm) ?_
              have hA2 := hZ1.ad (c := alw (sl (gd (x :: r)) 1 (j - 2))) (by rw [hj1]; exact hjsm) ⟨hal, halr⟩
              obtain ⟨st', lb', hva, hs1, hs2⟩ := VA_go (σ' := pf (pr (pf τ' 1 13 z) 101 (jtp (pf τ' 1 13 z)) (alw (sl (gd (x :: r)) 1 (j - 2)))) 1 3 ((jtp (pf τ' 1 13 z) : Int) + 1)) (m' := m) (out' := out ++ [alw (sl (gd (x :: r)) 1 (j - 2))]) hln hVA hVT (show j ≤ r.length + 1 by omega) (fun z => absurd c38 z) (fun _ => hj) hA2.1 (by rw [pf_no (by decide), pr_1, hf1 2 4 (by omega)]; exact hτ4) ((hτZ.2.trans hg1).trans hA2.2) (by rw [pf_no (by decide), pr_1, hf1 3 12 (by omega)]; exact hτf 3 12 (by omega)) (by rw [pf_no (by decide), pr_1, hf1 2 3 (by omega)]; exact hτf 2 3 (by omega)) (fun r h1 h2 => by rw [pf_2]; funext i; rw [pr_2, if_neg (by omega), pf_2, hτr]) (by rw [pf_no (by decide), pr_1, hf1 2 2 (by omega)]; exact hτ2) ⟨fun o k hk => by simp [fEn] at hk; rw [pf_no (by omega), pr_1, hf1 o k (by omega)]; exact hτf o k (by omega), fun r hr => by simp [rEn] at hr; rw [pf_2]; funext i; rw [pr_2, if_neg (by omega), pf_2, hτr]⟩ ⟨by rw [pf_no (by decide), pr_1, hf1 3 13 (by omega), hτf 3 13 (by omega)]; exact v7.1, by rw [pf_no (by decide), pr_1, hf1 3 14 (by omega), hτf 3 14 (by omega)]; exact v7.2.1, by rw [pf_no (by decide), pr_1, hf1 2 6 (by omega), hτf 2 6 (by omega)]; exact v7.2.2⟩ ⟨by rw [jtp_ad, hj1, v8.1, List.length_append, List.length_singleton]; omega, sl_ad (by rw [hj1]; exact v8.1) (by rw [pf_2, hτr]; exact v8.2)⟩ ((hτX.fld rfl).ad (by rw [hj1]; omega))
              refine hnext _ st' lb' c m _ _ hvc (by rw [hs1]) hva (by omega) ?_
              rw [hs1, jtp_ad, hj1, hvln]
              omega
            · -- nothing stands there
              rw [hal, if_neg (by decide), if_neg (by decide), hno] at hvc
              dsimp only at hvc
              have hun' : ¬ un = true := by
                rw [hun, Classical.not_not]
                rw [hτf 3 15 (by omega), hτf 3 16 (by omega)] at hcond
                rw [v9.1.1 3 15 rfl, v9.1.1 3 16 rfl] at hcond
                exact hcond
              rw [if_neg hun'] at hvc
              rw [if_pos rfl, hτf 3 14 (by omega), v7.2.1]
              obtain ⟨st', lb', hva, hs1, hs2⟩ := hA z (m + 1) (pf (pf τ' 1 13 z) 3 14 ((m : Int) + 1)) (fun o k h1 h2 => by rw [pf_1, if_neg h2, pf_1, if_neg h1]) rfl (by rw [pf_eq]; omega) (by rw [pf_no (by decide), pf_eq])
              refine hnext _ st' lb' c (m + 1) out _ hvc (by rw [hs1]) hva (by omega) ?_
              have hjj2 : jtp (pf (pf τ' 1 13 z) 3 14 ((m : Int) + 1)) = jtp σ := by
                unfold jtp
                rw [pf_1, if_neg (by omega), pf_1, if_neg (by omega)]
                exact hτj
              rw [hs1, hjj2, hvln]
              omega
            · -- not declared
              rw [hal, if_neg (by decide), if_neg (by decide), hno] at hvc
              dsimp only at hvc
              have hun' : un = true := by
                rw [hun]
                rw [hτf 3 15 (by omega), hτf 3 16 (by omega)] at hcond
                rw [v9.1.1 3 15 rfl, v9.1.1 3 16 rfl] at hcond
                exact hcond
              rw [if_pos hun'] at hvc
              rw [if_pos rfl]
              have hz4 : (pf τ' 1 13 z).1 2 4 = 0 := by rw [pf_no (by decide)]; exact hτ4
              have hZ1 : JZ L rm nd (pf τ' 1 13 z) := by
                obtain ⟨hS1, hg1⟩ := SI_pf (o := 1) (k := 13) (x := z) hτZ.1.1 (by omega)
                exact hτZ.1.dep hS1 hg1 hτZ.1.2.1 (rng_of hτZ.1.2.2.2.2.2.1 (fun i _ _ => pf_no (by decide))) (ag.refl.pf rfl)
              have hj1 : jtp (pf τ' 1 13 z) = jtp σ := by unfold jtp; rw [pf_nk (by decide)]; exact hτj
              refine hbad 9 1 _ hvc ⟨hZ1.ft, by rw [flt_val hz4, pf_eq]; rfl, by decide, (hτX.fld rfl).ft, by rw [jtp_ft, hj1]; omega, a1 + (R'.length + 1), ja, ⟨?_, ?_, hjt1.2.2.1, h9, by omega⟩, by omega⟩
              · rw [flt_val hz4, pf_nk (by decide), pf_no (by decide), hτe, pf_eq]
              · rw [flt_val hz4, pf_nk (by decide), pf_no (by decide), hτf 2 3 (by omega)]; exact hjt1.2.1
            · -- an entity's text
              rw [hal, if_neg (by decide), if_neg (by decide), hi] at hvc
              dsimp only at hvc
              have hf1 : ∀ o k, ¬ (o = 1 ∧ k = 13) → ¬ (o = 3 ∧ k = 14) → (pf τ' 1 13 z).1 o k = τ'.1 o k := fun o k hk _ => by rw [pf_1, if_neg hk]
              obtain ⟨st', lb', hva, hs1, hs2⟩ := hA z m (pf τ' 1 13 z) hf1 rfl (by rw [pf_no (by decide), hτf 3 14 (by omega)]; exact v7.2.1) pf_eq.symm
              obtain ⟨w1, w2, w3, w4, w5, w6, w7, w8, w9, w10, w11⟩ := id hva
              rw [hs2] at w3 w4 w5
              have hin : i < en.length := by
                have := List.findIdx?_eq_some_iff_getElem.mp hi
                exact this.1
              have hlenF := w5.len
              rw [List.length_cons] at hlenF
              have hmem : ((i + 1) ∈ f2.1 :: t.map (fun z => z.2.1) ∨ (i + 1) ∈ ((x :: r, w) :: st0).map (fun z => z.2)) ↔ (i + 1) ∈ (((x :: R').drop j, g) :: FR).map (fun z => z.2.1) := by
                have e1 : (((x :: R').drop j, g) :: FR).map (fun z => z.2.1) = (vfr st ++ (lb ++ q :: aft, f2) :: t).map (fun z => z.2.1) := by rw [t2]; rfl
                have e2 : ((x :: r, w) :: st0).map (fun z => z.2) = st.map (fun z => z.2) ++ [0] := by rw [← t1, List.map_append]; rfl
                have e3 : (vfr st).map (fun z => z.2.1) = st.map (fun z => z.2) := by unfold vfr; rw [List.map_map]; rfl
                rw [e1, e2, List.map_append, e3, List.map_cons]
                simp only [List.mem_append, List.mem_cons, List.mem_singleton]
                constructor
                · rintro (h | h)
                  · exact Or.inr h
                  · rcases h with h | h
                    · exact Or.inl h
                    · simp at h
                · rintro (h | h)
                  · exact Or.inr (Or.inl h)
                  · exact Or.inl h
              have hz4 : (pf τ' 1 13 z).1 2 4 = 0 := w2
              have hj1 : jtp (pf τ' 1 13 z) = jtp σ := by unfold jtp; rw [pf_nk (by decide)]; exact hτj
              have hbadS : ∀ f : Nat, f ≠ 0 → VB L rm nd σ0 b0 f (flt (pf τ' 1 13 z) (f : Int)) := by
                intro f hf
                refine ⟨w1.ft, by rw [flt_val hz4, pf_eq], hf, w9.ft, by rw [jtp_ft, hj1]; omega, a1 + (R'.length + 1), ja, ⟨?_, ?_, hjt1.2.2.1, h9, by omega⟩, by omega⟩
                · rw [flt_val hz4, pf_nk (by decide), pf_no (by decide), hτe, pf_eq]
                · rw [flt_val hz4, pf_nk (by decide), pf_no (by decide), hτf 2 3 (by omega)]; exact hjt1.2.1
              refine sp_enter (c := c) (k := 0) (os := os) hln w1 w3 w4 hin hen w7.1 (by omega) (by omega) rfl rfl (fun hlt => ?_) (fun hlt hbu => ?_) (fun hlt hbu σ3 hF3 hE3 h13 hag hZ3 hg3 hVE3 => ?_)
              · rw [if_pos hlt] at hvc
                rw [if_pos rfl]
                exact hbad 4 1 _ hvc (hbadS 4 (by decide))
              · rw [if_neg hlt, if_pos (hmem.mpr hbu)] at hvc
                rw [if_pos rfl]
                exact hbad 10 1 _ hvc (hbadS 10 (by decide))
              · rw [if_neg hlt, if_neg (fun z => hbu (hmem.mp z))] at hvc
                rw [if_pos rfl]
                have hva3 : VA L rm nd σ0 en os f2 t q aft b0 (((en.getD i ([], false, [])).2.2, i + 1) :: st') lb' (c + (en.getD i ([], false, [])).2.2.length) m out σ3 := by
                  have e1 : vfr (((en.getD i ([], false, [])).2.2, i + 1) :: st') ++ (lb' ++ q :: aft, f2) :: t = ((en.getD i ([], false, [])).2.2, i + 1, 0) :: (((x :: R').drop j, g) :: FR) := by rw [← hs2]; rfl
                  refine ⟨hZ3, by rw [hag.1 2 4 rfl]; exact w2, by rw [e1]; exact hF3, by rw [e1]; exact hE3, ?_, ?_, ⟨h13, by rw [hag.1 3 14 rfl]; exact w7.2.1, by rw [hag.1 2 6 rfl]; exact w7.2.2⟩, ⟨?_, ?_⟩, w9.ex hag, w10, hVE3 _ w11 ?_ ?_⟩
                  · rw [e1]
                    refine ⟨?_, fun f hf => ?_⟩
                    · rw [List.map_cons, List.nodup_cons]
                      exact ⟨hbu, w5.1⟩
                    · rcases List.mem_cons.mp hf with rfl | hf
                      · show i + 1 ≤ en.length
                        omega
                      · exact w5.2 f hf
                  · intro z hz
                    rcases List.mem_cons.mp hz with rfl | hz
                    · show 0 < i + 1
                      omega
                    · exact w6 z hz
                  · have : jtp σ3 = jtp (pf τ' 1 13 z) := by unfold jtp; rw [hag.1 1 3 rfl]
                    rw [this]; exact w8.1
                  · rw [hag.2 101 rfl]; exact w8.2
                  · have h5 := congrArg List.length hs2
                    rw [List.length_append, List.length_cons, List.length_cons] at h5
                    have h6 := w3.1
                    rw [List.length_cons] at h6
                    dsimp only
                    omega
                  · rw [w9.1.2 107 rfl]
                    obtain ⟨y, y1, y2, -⟩ := (hE.2.1 i hin).1
                    rw [hb0] at y2
                    rw [y1]
                    omega
                refine hnext _ _ lb' _ m out σ3 hvc ?_ hva3 (by omega) ?_
                · show (((en.getD i ([], false, [])).2.2, i + 1) :: ((x :: r).drop j, w) :: st0, c + (en.getD i ([], false, [])).2.2.length, m, out) = _
                  rw [← hs1]
                  rfl
                · have hj3 : jtp σ3 = jtp σ := by
                    have : jtp σ3 = jtp (pf τ' 1 13 z) := by unfold jtp; rw [hag.1 1 3 rfl]
                    rw [this, hj1]
                  have hv3 : vln ((((en.getD i ([], false, [])).2.2, i + 1) :: st') ++ [(lb', 0)]) = (en.getD i ([], false, [])).2.2.length + (r.length + 1 - j + vln st0) := by
                    rw [List.cons_append, hs1, ← hvln]
                    unfold vln
                    rw [List.map_cons, List.sum_cons]
                  rw [hj3, hv3]
                  omega
          · -- no reference
            rw [hrfS] at hja
            have hj := mvo_eq_none.mp hja
            rw [hj] at hvc
            dsimp only at hvc
            have hf5 : τ'.1 2 4 = 5 := hτ.2
            unfold WJ
            dsimp only
            rw [if_neg (by rw [hf5]; decide), if_pos rfl]
            obtain ⟨p', hp', hpk'⟩ := hτ.1.2.2.1
            refine hbad 5 1 _ hvc ⟨(v1.jb hτ.1).1, hf5, by decide, v9.jb hτ.1, ?_, a1 + (R'.length + 1), p', ⟨hp', by rw [hτ.1.2.1 2 3 (by omega)]; exact hjt1.2.1, hjt1.2.2.1, h9, by omega⟩, by omega⟩
            have : jtp τ' = jtp σ := by unfold jtp; rw [hτ.1.2.1 1 3 (by omega)]
            omega
        · rw [if_neg c38]
          by_cases c60 : x = 60
          · rw [if_pos c60]
            rw [if_pos c60] at hvc
            refine sp_Reader_fail (hbad 11 1 _ hvc ⟨v1.ft, by rw [flt_val v2, pf_eq]; rfl, by decide, v9.ft, by rw [jtp_ft]; omega, a1 + (R'.length + 1), a1, ⟨?_, ?_, hjt1.2.2.1, h9, by omega⟩, by omega⟩)
            · rw [flt_val v2, pf_nk (by decide)]; exact hjt1.1
            · rw [flt_val v2, pf_nk (by decide)]; exact hjt1.2.1
          · rw [if_neg c60]
            rw [if_neg c60, if_pos c38] at hvc
            refine sp_Reader_isSpace ?_
            have hch : (if b1 (isSp x) = 0 then x else (32 : Int)) = (if isSp x = true then 32 else x) := by
              cases isSp x <;> rfl
            rw [hch]
            have hcr2 : 0 ≤ (if isSp x = true then (32 : Int) else x) ∧ (if isSp x = true then (32 : Int) else x) ≤ 1114111 := by split <;> omega
            refine sp_Store_add v1.1 hln.1 hjsm ?_
            have hA2 := v1.ad hjsm hcr2
            generalize hy : (if isSp x = true then (32 : Int) else x) = yc at *
            have hp22 : (pf (pr σ 101 (jtp σ) yc) 1 3 ((jtp σ : Int) + 1)).1 2 2 = (a1 : Int) := by rw [pf_no (by decide), pr_1]; exact hjt1.1
            rw [hp22]
            refine ⟨⟨by omega, by omega⟩, ?_⟩
            have hZ3 := hA2.1.out (σ' := pf (pf (pr σ 101 (jtp σ) yc) 1 3 ((jtp σ : Int) + 1)) 2 2 ((a1 : Int) + 1)) (fun o k hk => by rw [pf_1, if_neg (by omega)]) (fun _ _ => rfl)
            obtain ⟨st', lb', hva, hs1, hs2⟩ := VA_go (j := 1) (σ' := pf (pf (pr σ 101 (jtp σ) yc) 1 3 ((jtp σ : Int) + 1)) 2 2 ((a1 : Int) + 1)) (m' := m) (out' := out ++ [yc]) hln hVA hVT (by omega) (fun _ => rfl) (fun z => absurd z c38) hZ3.1 (by rw [pf_nk (by decide), pf_no (by decide), pr_1]; exact v2) (hA2.2.trans hZ3.2) (by rw [pf_no (by decide), pf_no (by decide), pr_1]) (by rw [pf_nk (by decide), pf_no (by decide), pr_1]) (fun r h1 h2 => by rw [pf_2, pf_2]; funext i; rw [pr_2, if_neg (by omega)]) (by rw [pf_eq, hjt1.1]; rfl) (((ag.refl.pr rfl).pf rfl).pf rfl) ⟨by rw [pf_no (by decide), pf_no (by decide), pr_1]; exact v7.1, by rw [pf_no (by decide), pf_no (by decide), pr_1]; exact v7.2.1, by rw [pf_nk (by decide), pf_no (by decide), pr_1]; exact v7.2.2⟩ ⟨by
                have : jtp (pf (pf (pr σ 101 (jtp σ) yc) 1 3 ((jtp σ : Int) + 1)) 2 2 ((a1 : Int) + 1)) = jtp σ + 1 := by
                  rw [← jtp_ad (c := yc)]
                  unfold jtp
                  rw [pf_no (by decide)]
                rw [this, v8.1, List.length_append, List.length_singleton]; omega, sl_ad v8.1 v8.2⟩ ((v9.ad (by omega)).fld rfl)
            refine hnext _ st' lb' c m _ _ hvc (by rw [hs1]; rfl) hva (by omega) ?_
            have hj3 : jtp (pf (pf (pr σ 101 (jtp σ) yc) 1 3 ((jtp σ : Int) + 1)) 2 2 ((a1 : Int) + 1)) = jtp σ + 1 := by
              rw [← jtp_ad (c := yc)]
              unfold jtp
              rw [pf_no (by decide)]
            have hvln : vln (((x :: r).drop 1, w) :: st0) = r.length + vln st0 := by
              unfold vln
              rw [List.map_cons, List.sum_cons]
              rfl
            rw [hs1, hj3, hvln]
            omega
      cases st with
      | nil =>
        cases lb with
        | nil =>
          -- the quote
          have v3' : JFr σ ((q :: aft, f2) :: t) os := v3
          obtain ⟨a1, hjt1, has1, hatp1⟩ := v3'.jt hln v1
          have hT1 : SHT (gd (q :: aft)) (σ.2 101) (aft.length + 1) a1 := sht_sl (l := q :: aft) has1
          have hlR : (q :: aft, f2).1.length = aft.length + 1 := rfl
          rw [hlR] at hjt1 hatp1
          have hpk : lk (σ.2 101) (a1 + (aft.length + 1)) a1 = q := by
            have := sh_lk hT1 0
            rw [show a1 + 0 = a1 by omega] at this
            rw [this]
            rfl
          refine sp_Reader_peek hjt1 ?_
          rw [hpk]
          refine WJ_dir ?_
          dsimp only
          rw [if_neg (by omega)]
          refine WJ_dir ?_
          dsimp only
          have hdd : σ.1 3 12 = σ0.1 3 12 := by rw [List.length_nil] at hdep; omega
          rw [if_neg (by omega), if_neg (by rw [hdd]; omega), hjt1.1]
          refine ⟨⟨by omega, by omega⟩, ⟨by omega, by omega⟩, ?_⟩
          have hRe : R = .inr (c, m, out) := hRs
          have hZ3 := v1.out (σ' := pf σ 2 2 ((a1 : Int) + 1)) (fun o k hk => by rw [pf_1, if_neg (by omega)]) (fun _ _ => rfl)
          have hj3 : jtp (pf σ 2 2 ((a1 : Int) + 1)) = jtp σ := by unfold jtp; rw [pf_no (by decide)]
          refine hK _ _ (Or.inr (Or.inr ⟨rfl, by dsimp only; omega, c, m, out, hRe, hZ3.1, by rw [pf_nk (by decide)]; exact v2, ?_, ?_, ⟨by rw [pf_no (by decide)]; exact v7.1, by rw [pf_no (by decide)]; exact v7.2.1, by rw [pf_nk (by decide)]; exact v7.2.2⟩, ⟨by rw [hj3]; exact v8.1, v8.2⟩, v9.fld rfl, hcr, by omega, (by rw [hj3]; omega), ⟨by rw [pf_nk (by decide)]; exact v11.1, fun j hj => (by rw [pf_no (by decide)] at hj; exact v11.2.1 j hj), fun hd => (by rw [pf_no (by decide)] at hd; rw [pf_nk (by decide)]; exact v11.2.2.1 hd), fun hd => (by rw [pf_no (by decide)] at hd; exact v11.2.2.2 hd)⟩⟩)) (by dsimp only; omega)
          · have := v3'.adv (j := 1) (σ' := pf σ 2 2 ((a1 : Int) + 1)) (by rw [List.length_cons]; omega) hZ3.2 (pf_no (by decide)) (pf_nk (by decide)) (fun _ _ _ => rfl) (by rw [pf_eq, hjt1.1]; rfl)
            exact this
          · exact v4.dep hZ3.2 hZ3.1.1 hln.1 (ag.refl.pf rfl)
        | cons x r =>
          obtain ⟨⟨hxq, -⟩, hvt⟩ := VT_bot (f2 := f2) (t := t) v10
          exact hgo x r _ _ _ _ _ hvt (fun _ => hxq)
      | cons z st1 =>
        obtain ⟨l, w⟩ := z
        cases l with
        | nil =>
          -- the end of an entity's text
          have v3' : JFr σ (([], w, 0) :: (vfr st1 ++ (lb ++ q :: aft, f2) :: t)) os := v3
          have v4' : JEn L σ en ((([], w, 0) :: (vfr st1 ++ (lb ++ q :: aft, f2) :: t)).map (fun z => z.2.1)) := v4
          have v5' : GO en (([], w, 0) :: (vfr st1 ++ (lb ++ q :: aft, f2) :: t)) := v5
          obtain ⟨a1, hjt1, has1, hatp1⟩ := v3'.jt hln v1
          have hlR : (([], w, 0) : Frm).1.length = 0 := rfl
          rw [hlR] at hjt1
          have hpk : lk (σ.2 101) (a1 + 0) a1 = -1 := by unfold lk; rw [if_neg (by omega)]
          refine sp_Reader_peek hjt1 ?_
          rw [hpk]
          refine WJ_dir ?_
          dsimp only
          rw [List.length_cons] at hdep
          rw [if_pos ⟨rfl, by omega⟩]
          have hne : ∃ F0 FT, vfr st1 ++ (lb ++ q :: aft, f2) :: t = F0 :: FT := by
            cases hh : vfr st1 ++ (lb ++ q :: aft, f2) :: t with
            | nil => simp at hh
            | cons F0 FT => exact ⟨F0, FT, rfl⟩
          obtain ⟨F0, FT, hFF⟩ := hne
          rw [hFF] at v3' v4' v5'
          have hlen5 := v5'.len
          rw [List.length_cons, List.length_cons] at hlen5
          have hw0 := v6 ([], w) List.mem_cons_self
          have hnd := v5'.1
          rw [List.map_cons, List.nodup_cons] at hnd
          refine sp_leave hln v1 v3' v4' ⟨hw0, v5'.2 _ List.mem_cons_self, hnd.1⟩ hen (by omega) (fun σ3 hF3 hE3 h13 hag hZ3 hg3 hVE3 => ?_)
          have hva3 : VA L rm nd σ0 en os f2 t q aft b0 st1 lb c m out σ3 := by
            refine ⟨hZ3, by rw [hag.1 2 4 rfl]; exact v2, by rw [hFF]; exact hF3, by rw [hFF]; exact hE3, by rw [hFF]; exact ⟨hnd.2, fun f hf => v5'.2 f (List.mem_cons_of_mem _ hf)⟩, fun z hz => v6 z (List.mem_cons_of_mem _ hz), ⟨by rw [h13]; exact v7.1, by rw [hag.1 3 14 rfl]; exact v7.2.1, by rw [hag.1 2 6 rfl]; exact v7.2.2⟩, ⟨?_, by rw [hag.2 101 rfl]; exact v8.2⟩, v9.ex hag, v10, hVE3 _ v11⟩
            have : jtp σ3 = jtp σ := by unfold jtp; rw [hag.1 1 3 rfl]
            rw [this]; exact v8.1
          refine hnext _ st1 lb c m out σ3 rfl rfl hva3 (by omega) ?_
          have hj3 : jtp σ3 = jtp σ := by unfold jtp; rw [hag.1 1 3 rfl]
          have : vln ((([], w) :: st1) ++ [(lb, 0)]) = vln (st1 ++ [(lb, 0)]) := by
            unfold vln
            rw [List.cons_append, List.map_cons, List.sum_cons]
            simp
          rw [hj3, ← this]
          exact hcp
        | cons x r => exact hgo x r _ _ _ _ _ (VT_ent v10) (fun z => by cases z)
    · rw [if_neg (fun z => by have h1 := hvb.2.1; have h2 := hvb.2.2.1; rw [h1] at z; omega), hQ13]
      exact hB f σ hRf hvb
    · rw [if_neg (fun z => z.2.1 rfl), hQ13]
      exact hC c m out σ hRc g1 g2 g3 g4 g5 g6 g7 g8 g9 g10 g11
  · have hZ3 := hZ.out (σ' := pf σ0 2 2 ((a : Int) + 1)) (fun o k hk => by rw [pf_1, if_neg (by omega)]) (fun _ _ => rfl)
    have hj3 : jtp (pf σ0 2 2 ((a : Int) + 1)) = b0 := by rw [← hb0]; unfold jtp; rw [pf_no (by decide)]
    have hms0 : vms rm ([(l0, 0)], c0, m0, []) = 2 * (rm - c0) + (2 * l0.length + 1) := by
      unfold vms
      simp
    have hvl0 : vln [(l0, 0)] = l0.length := by unfold vln; simp
    have hVE0 : VE ((b0 : Int), t.length, σ0.1 2 3) (pf σ0 2 2 ((a : Int) + 1)) := by
      obtain ⟨u1, u2, u3, u4⟩ := hF.get
      refine ⟨by rw [pf_nk (by decide), hjt.2.1]; omega, fun j hj => ?_, fun _ => pf_nk (by decide), fun hd => (by rw [pf_no (by decide), u1] at hd; dsimp only at hd; omega)⟩
      rw [pf_no (by decide), u1] at hj
      obtain ⟨⟨y, y1, y2, -⟩, y3, -⟩ := u4 j (by omega)
      rw [pf_2, y3, y1]
      rw [hb0] at y2
      omega
    refine Or.inl ⟨rfl, by dsimp only; omega, [], l0, c0, m0, [], ⟨hZ3.1, by rw [pf_nk (by decide)]; exact h4, ?_, ?_, ?_, fun z hz => absurd hz (by simp), ⟨by rw [pf_no (by decide)]; exact hc, by rw [pf_no (by decide)]; exact hm, by rw [pf_nk (by decide)]⟩, ⟨by rw [hj3]; rfl, rfl⟩, ⟨ag.refl.pf rfl, fun _ _ => rfl⟩, hv, hVE0⟩, hR.symm, hc0, ?_, by dsimp only; omega, ?_⟩
    · have := hF.adv (j := 1) (σ' := pf σ0 2 2 ((a : Int) + 1)) (by rw [List.length_cons]; omega) hZ3.2 (pf_no (by decide)) (pf_nk (by decide)) (fun _ _ _ => rfl) (by rw [pf_eq, hjt.1]; rfl)
      exact this
    · exact hE.dep hZ3.2 hZ3.1.1 hln.1 (ag.refl.pf rfl)
    · refine ⟨hG.1, fun f hf => ?_⟩
      have hf' : f ∈ (l0 ++ q :: aft, f2) :: t := hf
      rcases List.mem_cons.mp hf' with rfl | hf'
      · exact hG.2 (q :: (l0 ++ q :: aft), f2) List.mem_cons_self
      · exact hG.2 f (List.mem_cons_of_mem _ hf')
    · dsimp only
      rw [List.nil_append, hms0]
      omega
    · rw [List.nil_append, hvl0, hj3]
      exact hcap
end JVal4
