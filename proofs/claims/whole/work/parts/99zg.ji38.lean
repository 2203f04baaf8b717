/-! ===== items of the class: tags (7): one attribute ===== -/
section JI38
variable {L : Nat → Nat} {rm nd : Nat} {ρ : IS} {B : AS} {KK : Int → IS → Prop}
theorem trr_adv {l : List Int} {f : Nat × Nat} {t : List Frm} {n3 i : Nat} {L' : List Elm} {B' : List Att} {S' : List Evt} {O' : List Nat} (hF : aF B = (l, f) :: t) : trr (adv B i) n3 L' B' S' O' = adv (trr B n3 L' B' S' O') i := by
  have hF1 : aF (trr B n3 L' B' S' O') = (l, f) :: t := hF
  rw [adv_of hF, adv_of hF1]
  rfl
/-- the type that a value of an attribute has -/
def tyO (ad : List ADc) (o : Option Nat) : Nat := match o with
  | none => 0
  | some d => (ad.getD d ([], [], 0, 0, [], [])).2.2.1
set_option maxHeartbeats 4000000 in
theorem j_at1 {l : List Int} {g : Nat × Nat} {t : List Frm} {p y b v j : Nat} {xe s11 : Int} {el : Str} {ns : List Str} (hln : JLn L rm nd) (hR : RJ L rm nd ρ (adv B y)) (hF : aF B = (l, g) :: t) (hp : ρ.1 2 2 = ((p + y : Nat) : Int)) (h23 : ρ.1 2 3 = ((p + l.length : Nat) : Int)) (hT : SHT (gd l) (ρ.2 101) l.length p) (htp : p + l.length ≤ jtp ρ) (hxe : Jn ρ xe el) (hMK : MK s11 ns ρ)
    (hb : nmg (gd l) l.length true (some y) = some b) (hv : eqs (gd l) l.length (some b) = some v) (hj : vlp (gd l) l.length (some v) = some j) (hcw : jw ρ + 2 ≤ L 102)
    (hGO : GO (aE B) (aF B)) (hen : (aE B).length < rm / 14 + 2) (hN5 : aN B 5 ≤ 1) (hc : aN B 0 ≤ rm) (hl : l.length ≤ aN B 0) (hm : aN B 1 ≤ 700000) (hcapT : jtp ρ + (j - v) + (rm - aN B 0) ≤ L 101) (hnA : (aA B).length ≤ rm / 8)
    (hn : (aL B).length ≤ nd) (hbB : (aB B).length ≤ nd) (hn3 : aN B 3 ≤ 300000) (ho : ∀ e r, aO B = e :: r → e < (aL B).length ∧ ((aL B).getD e elD).2.2.2.1 ≤ 300000 ∧ ((aL B).getD e elD).2.2.2.2.1 ≤ 300000) (hes : evl (aS B) ≤ rm)
    (hbad8 : sl (gd l) y (b - y) ∈ ns → ∀ v ρ', BR L rm nd 300001 8 (ρ.1 2 5) ρ' → KK v ρ')
    (hbadv : ¬ sl (gd l) y (b - y) ∈ ns → ∀ f, val rm B (sl (gd l) (v + 1) (j - 1 - (v + 1))) (aN B 0) (aN B 1) = .inl f → ∀ v ρ', BR L rm nd 300001 f (ρ.1 2 5) ρ' → KK v ρ')
    (hgood : ¬ sl (gd l) y (b - y) ∈ ns → ∀ c m out vl od L' B' ρ', val rm B (sl (gd l) (v + 1) (j - 1 - (v + 1))) (aN B 0) (aN B 1) = .inr (c, m, out) → od = adf (aA B) el (sl (gd l) y (b - y)) → vl = nrt (tyO (aA B) od) out → RJ L rm nd ρ' (adv (trr (sN (sN B 0 c) 1 m) (aN B 3 + 1) L' B' (aS B) (aO B)) (sk isSp (gd l) l.length j)) → ((∃ e r, aO B = e :: r ∧ (aB B).length < nd ∧ L' = (aL B).modify e (elp 1) ∧ B' = aB B ++ [(sl (gd l) y (b - y), vl, od)]) ∨ ((aO B = [] ∨ ¬ (aB B).length < nd) ∧ L' = aL B ∧ B' = aB B)) → MK s11 (ns ++ [sl (gd l) y (b - y)]) ρ' → sgr ρ ρ' → jw ρ' ≤ jw ρ + 1 + (if vl = [] then 0 else 1) → jtp ρ' ≤ jtp ρ + vl.length → c ≤ rm → (ρ'.1 1 2 = ρ.1 1 2 ∧ ρ'.1 4 16 = ρ.1 4 16 ∧ ρ'.1 2 5 = ρ.1 2 5 ∧ ρ'.1 2 3 = ρ.1 2 3 ∧ ρ'.1 1 16 = ρ.1 1 16) → KK (if sk isSp (gd l) l.length j = j then 0 else 1) ρ') :
    w_Reader_readName L (fun v53 σ52 => WJ (fun (s56 : Int) (σ57 : IS) => WJ (fun (s60 : Unit) (σ61 : IS) => w_Reader_skipSpace L (fun v63 σ62 => w_Reader_need L 1012 (fun σ64 => w_Reader_skipSpace L (fun v67 σ66 => WJ (fun (s70 : Unit) (σ71 : IS) => w_Reader_skipSpace L (fun v73 σ72 => KK v73 σ72) σ71) (fun J68 => if (1 : Int) = 0 then w_Reader_checkValue L (fun σ93 => J68 () σ93) σ66 else if (σ66.1 2 4) = 0 then inL L 155 s56 ∧ w_Declared_find L xe s56 (fun v78 σ77 => w_Entities_readValue L (fun v80 σ79 => ((¬ v78 = (-1) → inL L 118 v78)) ∧ w_Entities_keepValue L v80 (if v78 = (-1) then (10 : Int) else (σ79.2 118 (Int.toNat v78))) (fun v83 σ82 => w_Tree_addAttribute L s56 v83 v78 1 (fun σ84 => J68 () σ84) σ82) σ79) σ77) (pr σ66 155 (Int.toNat s56) s11) else J68 () σ66)) σ64) σ62) σ61) (fun J58 => ((¬ (1 : Int) = 0 → inL L 155 s56)) ∧ if ¬ (1 : Int) = 0 ∧ ((σ57.2 155 (Int.toNat s56)) = s11) then w_Reader_fail L 8 (fun σ96 => J58 () σ96) σ57 else J58 () σ57)) (fun J54 => if (1 : Int) = 0 then J54 (-1) σ52 else inR ((σ52.1 2 2) - v53) ∧ w_Store_intern L v53 ((σ52.1 2 2) - v53) (fun v107 σ106 => J54 v107 σ106) σ52)) ρ := by
  have h9 : L 101 < 1000000 := hln.1.2.2.2.2.2.2.2
  have h155 : L 102 = L 155 := hln.1.2.2.2.1
  have hrm := hln.2.1
  have hjl := hR.1.1.jtp_le
  have g1 := nmg_lt hb
  have g2 := eqs_gt g1.2.2 hv
  have g3 := vlp_gt hj
  have hcur : ∀ (X : AS) (i : Nat), aF X = (l, g) :: t → (cur (adv X i)).length = l.length - i := fun X i hX => by
    rw [adv_of hX]
    show (l.drop i).length = _
    rw [List.length_drop]
  have hJS : JS L ρ (p + l.length) := ⟨h23, by omega, h9, hR.2.2.2.2.2.2.2.2.2.2.2.1, hR.1.2.2.2.2.2.1⟩
  refine p_readName hJS (by omega) (show jp (p + l.length) 0 ρ (some (p + y)) ρ from jp.start' hJS (by omega) hp) (fun v53 ρa ha hv53 _ => ?_)
  rw [sh_nmgs hT, hb, mvo_some] at ha
  have e53 := hv53 (p + y) rfl
  have hap := ha.at.1
  have hB3 : (cur (adv B y)).length = l.length - y := hcur B y hF
  obtain ⟨hRa, hga⟩ := hR.rd hln hp (show b - y ≤ _ by rw [hB3]; omega) (show jp (p + l.length) 0 ρ (some (p + y + (b - y))) ρa from by rw [show p + y + (b - y) = p + b by omega]; exact ha)
  rw [adv_adv, show y + (b - y) = b by omega] at hRa
  obtain ⟨s1, s2, s3, s4, s5⟩ := ha.store
  have hstr : sl (ρa.2 101) (p + y) (b - y) = sl (gd l) y (b - y) := by rw [ha.row]; exact sh_sl hT (by omega)
  generalize hsn : sl (gd l) y (b - y) = s at *
  refine WJ_of (fun x ρb => RJ L rm nd ρb (adv B b) ∧ sgr ρ ρb ∧ Jn ρb x s ∧ jw ρb ≤ jw ρ + 1 ∧ jtp ρb = jtp ρ ∧ (∀ o k, ¬ (o = 1 ∧ (k = 13 ∨ k = 14)) → ¬ (o = 2 ∧ (k = 2 ∨ (7 ≤ k ∧ k ≤ 11))) → ρb.1 o k = ρ.1 o k) ∧ (∀ r, 106 < r → ρb.2 r = ρ.2 r) ∧ ρb.1 2 2 = ((p + b : Nat) : Int)) (fun J hJ => ?_) ?_
  · rw [if_neg (by decide), hap, e53]
    refine ⟨⟨by omega, by omega⟩, ?_⟩
    refine sp_int (s := p + y) (n := b - y) hln hRa (by omega) (by omega) rfl (by omega) (fun x ρb hRb hgb hJn hjwb hjtb hfr => hJ _ _ ⟨hRb, hga.trans hgb, by rw [hstr] at hJn; exact hJn, by omega, by omega, fun o k k1 k2 => ?_, fun r hr => ?_, by rw [hfr.1 2 2 (by omega)]; exact hap⟩)
    · rw [hfr.1 o k k1]
      exact ha.cells.1 o k k2 (by omega)
    · rw [hfr.2 r (by omega), ha.row]
  · rintro x ρb ⟨hRb, hgb, hJn, hjwb, hjtb, hfb, hrb, hpb⟩
    have hMKb := hMK.gr hgb (hfb 1 16 (by omega) (by omega)) (hrb 155 (by omega))
    have hhit := hMKb.hit hRb.1.1 hJn
    have hxr := hJn.rng hRb.1.1
    have hinx : inL L 155 x := ⟨hxr.1, by omega⟩
    have e25 : ρb.1 2 5 = ρ.1 2 5 := hfb 2 5 (by omega) (by omega)
    have e23 : ρb.1 2 3 = ((p + l.length : Nat) : Int) := by rw [hfb 2 3 (by omega) (by omega)]; exact h23
    have hTb : SHT (gd l) (ρb.2 101) l.length p := hT.gr htp hgb
    have h4b : ρb.1 2 4 = 0 := hRb.2.2.2.2.2.2.2.2.2.2.2.1
    obtain ⟨o1, o2, o3, o4, o5, o6, o7, o8, o9, o10⟩ := adv_other (a := B) (k := b)
    have htsb : JTs L nd 300000 ρb := hRb.ts2 hln (by rw [o7]; exact hn) (fun e r hO => by rw [o10] at hO; rw [o7]; exact (ho e r hO).1) (by rw [o2]; exact hn3) (by rw [o9]; exact hes) (by omega)
    refine WJ_of (fun _ ρc => (s ∈ ns ∧ ρc = flt ρb 8) ∨ (¬ s ∈ ns ∧ ρc = ρb)) (fun J hJ => ⟨fun _ => hinx, ?_⟩) ?_
    · by_cases c : s ∈ ns
      · rw [if_pos ⟨by decide, hhit.mpr c⟩]
        exact sp_Reader_fail (hJ _ _ (Or.inl ⟨c, rfl⟩))
      · rw [if_neg (fun z => c (hhit.mp z.2))]
        exact hJ _ _ (Or.inr ⟨c, rfl⟩)
    · rintro _ ρc (⟨c, rfl⟩ | ⟨c, rfl⟩)
      · have hB := hRb.ft (n := 8) (by decide)
        rw [e25] at hB
        have hBR : BR L rm nd 300001 8 (ρ.1 2 5) (flt ρb 8) := by
          refine ⟨hB, ?_, p + l.length, p + b, ?_, by omega⟩
          · obtain ⟨q1, q2, q3, q4⟩ := htsb
            unfold JTs
            rw [flt_val h4b, pf_no (by decide), pf_no (by decide), pf_no (by decide), pf_no (by decide)]
            exact ⟨q1, by omega, by omega, q4⟩
          · rw [flt_val h4b]
            exact ⟨by rw [pf_nk (by decide)]; exact hpb, by rw [pf_nk (by decide)]; exact e23, by omega, h9, by omega⟩
        refine br_skipSpace hBR (fun _ ρ1 h1 => br_need ti_1012 (by decide) h1 (fun ρ2 h2 => br_skipSpace h2 (fun _ ρ3 h3 => WJ_dir ?_)))
        dsimp only
        rw [if_neg (by decide), if_neg h3.ne]
        exact br_skipSpace h3 (fun v ρ4 h4 => hbad8 c v ρ4 h4)
      · have hjlc := hRb.1.1.jtp_le
        have hJSb : JS L ρc (p + l.length) := ⟨e23, by omega, h9, h4b, hRb.1.2.2.2.2.2.1⟩
        refine p_skipSpace hJSb (by omega) (show jp (p + l.length) 0 ρc (some (p + b)) ρc from jp.start' hJSb (by omega) hpb) (fun _ ρ1 h1 _ _ => p_need hJSb (by omega) ti_1012 (by decide) h1 (fun ρ2 h2 => p_skipSpace hJSb (by omega) h2 (fun _ ρ3 h3 _ _ => WJ_dir ?_)))
        have h3' : jp (p + l.length) 0 ρc (some (p + v)) ρ3 := by
          have h3e : jp (p + l.length) 0 ρc (eqs (ρc.2 101) (p + l.length) (some (p + b))) ρ3 := h3
          rw [sh_eqss hTb, hv, mvo_some] at h3e
          exact h3e
        dsimp only
        rw [if_neg (by decide), if_pos (h3'.f0 hJSb)]
        have hcb : (cur (adv B b)).length = l.length - b := hcur B b hF
        obtain ⟨hR3, hg3⟩ := hRb.rd hln hpb (show v - b ≤ _ by rw [hcb]; omega) (show jp (p + l.length) 0 ρc (some (p + b + (v - b))) ρ3 from by rw [show p + b + (v - b) = p + v by omega]; exact h3')
        rw [adv_adv, show b + (v - b) = v by omega] at hR3
        have hMK3 := hMKb.gr hg3 (h3'.keep (by omega) (by omega)) (by rw [h3'.row])
        obtain ⟨hR4, hg4⟩ := hR3.mark (w := x.toNat) (v := s11) hln (by rw [hMK3.1]; omega)
        have hMK4 := hMK3.set hR3.1.1 (hJn.gr hg3) hg4
        refine ⟨hinx, ?_⟩
        generalize hρ4 : pr ρ3 155 x.toNat s11 = ρ4 at *
        have hf4 : ∀ o k, ρ4.1 o k = ρ3.1 o k := fun o k => by rw [← hρ4]; rfl
        have hr4 : ∀ r, r ≠ 155 → ρ4.2 r = ρ3.2 r := fun r hr => by rw [← hρ4]; funext i; rw [pr_2, if_neg (fun z => hr z.1)]
        obtain ⟨w1, w2, w3, w4, w5, w6, w7, w8, w9, w10⟩ := adv_other (a := B) (k := v)
        have hAd4 := hR4.2.2.2.2.2.2.1
        rw [w5] at hAd4
        have hkeep : ∀ o k, ¬ (o = 1 ∧ (k = 13 ∨ k = 14)) → ¬ (o = 2 ∧ (k = 2 ∨ (7 ≤ k ∧ k ≤ 11))) → ρ4.1 o k = ρ.1 o k := fun o k k1 k2 => by rw [hf4, h3'.cells.1 o k k2 (by omega)]; exact hfb o k k1 k2
        have hj34 : jw ρ4 = jw ρc ∧ jtp ρ4 = jtp ρ := by
          have := h3'.store
          unfold jw jtp at *
          rw [hf4, hf4]
          exact ⟨this.1, by rw [this.2.1]; exact hjtb⟩
        have hgo : ∀ (d z : Int) (od : Option Nat), od = adf (aA B) el s → d + 1 = en1 od → (∀ i, od = some i → i < (aA B).length) → w_Entities_readValue L (fun v80 σ79 => ((¬ d = (-1) → inL L 118 d)) ∧ w_Entities_keepValue L v80 (if d = (-1) then (10 : Int) else (σ79.2 118 (Int.toNat d))) (fun v83 σ82 => w_Tree_addAttribute L x v83 d 1 (fun σ84 => w_Reader_skipSpace L (fun v73 σ72 => KK v73 σ72) σ84) σ82) σ79) (pf ρ4 4 14 z) := by
          intro d z od hod hd hdi
          obtain ⟨hR5, hg5⟩ := hR4.f414 (x := z) hln
          have hf5 : ∀ o k, ¬ (o = 4 ∧ k = 14) → (pf ρ4 4 14 z).1 o k = ρ4.1 o k := fun o k hk => by rw [pf_1, if_neg hk]
          have hj45 : jw (pf ρ4 4 14 z) = jw ρ4 ∧ jtp (pf ρ4 4 14 z) = jtp ρ4 := by unfold jw jtp; rw [hf5 1 14 (by omega), hf5 1 3 (by omega)]; exact ⟨rfl, rfl⟩
          have hEl5 := hR5.2.2.2.2.2.2.2.2.1
          rw [w7, w10] at hEl5
          have hAt5 := hR5.2.2.2.2.2.2.2.2.2.1.1
          rw [w8] at hAt5
          have hx5 : Jn (pf ρ4 4 14 z) x s := ((hJn.gr hg3).gr hg4).gr hg5
          refine sp_value2 (ty := tyO (aA B) od) hln hR5 hF hj hGO hen hN5 hc (by omega) hm (by omega) (by omega) ?_ (fun f ρ6 x6 hvf hB6 hk6 hr6 hjt6 => ?_) (fun c' m' out x6 ρ6 hvo hR6 hg6 hJ6 hjw6 hjt6 hcr hf6 hr6 h623 => ?_)
          · cases hoo : od with
            | none =>
              rw [hoo] at hd
              have hd' : d + 1 = 0 := hd
              exact Or.inl ⟨by omega, rfl⟩
            | some i =>
              rw [hoo] at hd
              have hd' : d + 1 = (i : Int) + 1 := hd
              have hi := hdi i hoo
              exact Or.inr ⟨i, by omega, by omega, (hAd4.2.1 i hi).2.1⟩
          · have e25' : (pf ρ4 4 14 z).1 2 5 = ρ.1 2 5 := by rw [hf5 2 5 (by omega)]; exact hkeep 2 5 (by omega) (by omega)
            rw [e25'] at hB6
            have hts6 : JTs L nd 300000 ρ6 := by
              refine htsb.same (fun k => ?_)
              rw [hk6 k, hf5 6 k (by omega), hf4, h3'.keep (by omega) (by omega)]
            refine br_addAtt (n := 300000) (m := 300000) hln ⟨hB6, hts6, hjt6⟩ (by omega) (by rw [hk6, hAt5]; omega) (fun h3 => ?_) (by omega) (fun ρ7 h7 => br_skipSpace h7 (fun v ρ8 h8 => hbadv c f hvf v ρ8 h8))
            rw [hk6, hEl5.2.1] at h3 ⊢
            cases hO : aO B with
            | nil =>
              rw [hO] at h3
              exact absurd h3 (by decide)
            | cons e r =>
              obtain ⟨he, k1, k2⟩ := ho e r hO
              have hie := hEl5.2.2 e he
              rw [show (opn (e :: r)).toNat = e from Int.toNat_natCast e, hr6 131 (by omega), hr6 132 (by omega), hie.2.2.2.1, hie.2.2.2.2.1]
              omega
          · obtain ⟨y1, y2, y3, y4, y5, y6, y7, y8, y9, y10⟩ := adv_other (a := sN (sN B 0 c') 1 m') (k := j)
            have hFc : aF (sN (sN B 0 c') 1 m') = (l, g) :: t := hF
            refine sp_addAtt (nm := s) (vl := nrt (tyO (aA B) od) out) (od := od) (gn := 1) hln hR6 (by rw [y7]; exact hn) (by rw [y8]; exact hbB) (by rw [y2]; exact hn3) (fun e r hO => by rw [y10] at hO; rw [y7]; exact ho e r hO) (hx5.gr hg6) hJ6 hd rfl (by omega) (fun ρ7 L' B' hR7 hs7 hf7 hr7 => ?_)
            rw [y7, y8, y10] at hs7
            rw [y9, y10, y2, trr_adv hFc] at hR7
            replace hR7 : RJ L rm nd ρ7 (adv (trr (sN (sN B 0 c') 1 m') (aN B 3 + 1) L' B' (aS B) (aO B)) j) := hR7
            replace hs7 : ((∃ e r, aO B = e :: r ∧ (aB B).length < nd ∧ L' = (aL B).modify e (elp 1) ∧ B' = aB B ++ [(s, nrt (tyO (aA B) od) out, od)]) ∨ ((aO B = [] ∨ ¬ (aB B).length < nd) ∧ L' = aL B ∧ B' = aB B)) := hs7
            have hFd : aF (trr (sN (sN B 0 c') 1 m') (aN B 3 + 1) L' B' (aS B) (aO B)) = (l, g) :: t := hF
            obtain ⟨p', g', t', hF', hp', hS', hT', htp', hj'⟩ := hR7.at hln
            have hc7 : (cur (adv (trr (sN (sN B 0 c') 1 m') (aN B 3 + 1) L' B' (aS B) (aO B)) j)).length = l.length - j := hcur _ j hFd
            have e237 : ρ7.1 2 3 = ((p + l.length : Nat) : Int) := by rw [hf7 2 3 (by decide), h623, hf5 2 3 (by omega), hkeep 2 3 (by omega) (by omega)]; exact h23
            have hS1 := hS'.1
            rw [e237, hc7] at hS1
            have hpj : p' = p + j := by omega
            have hsg7 : sgr ρ6 ρ7 := (hR6.1.out (σ' := ρ7) (fun o k hk => by
              rcases hk with hk | hk | hk | hk
              · exact hf7 o k (by omega)
              · exact hf7 o k (by omega)
              · rw [hk.1, hk.2, hR7.1.2.2.2.1.2.2]; exact hR6.1.2.2.2.1.2.2.symm
              · exact hf7 o k (by omega)) (fun r hr => hr7 r (by omega))).2
            have hgall : sgr ρ ρ7 := ((((hgb.trans hg3).trans hg4).trans hg5).trans hg6).trans hsg7
            have hT7 : SHT (gd l) (ρ7.2 101) l.length p := hT.gr htp hgall
            have hjl7 := hR7.1.1.jtp_le
            have hle7 := hgall.2.1
            have hJS7 : JS L ρ7 (p + l.length) := ⟨e237, by omega, h9, hR7.2.2.2.2.2.2.2.2.2.2.2.1, hR7.1.2.2.2.2.2.1⟩
            refine p_skipSpace hJS7 (by omega) (show jp (p + l.length) 0 ρ7 (some (p + j)) ρ7 from jp.start' hJS7 (by omega) (by rw [hp', hpj])) (fun v73 ρ8 h8 _ hv73 => ?_)
            have hv8 := hv73 (p + j) rfl
            rw [sh_sk hT7] at hv8
            rw [sh_asps hT7] at h8
            have h8' : jp (p + l.length) 0 ρ7 (some (p + sk isSp (gd l) l.length j)) ρ8 := h8
            have hyl := sk_le (p := isSp) (T := gd l) g3.2.1
            obtain ⟨hR8, hg8⟩ := hR7.rd hln hp' (show sk isSp (gd l) l.length j - j ≤ _ by rw [hc7]; omega) (show jp (p + l.length) 0 ρ7 (some (p' + (sk isSp (gd l) l.length j - j))) ρ8 from by rw [show p' + (sk isSp (gd l) l.length j - j) = p + sk isSp (gd l) l.length j by omega]; exact h8')
            rw [adv_adv, show j + (sk isSp (gd l) l.length j - j) = sk isSp (gd l) l.length j by omega] at hR8
            obtain ⟨x1, x2, x3, x4, x5⟩ := h8'.store
            have hkk : ∀ o k, ¬ (o = 1 ∧ (k = 3 ∨ k = 13 ∨ k = 14)) → ¬ (o = 2 ∧ k ≠ 5) → ¬ (o = 3 ∧ 12 ≤ k ∧ k ≤ 14) → ¬ (o = 4 ∧ k = 14) → o ≠ 6 → ρ7.1 o k = ρ.1 o k := fun o k q1 q2 q3 q4 q5 => by
              rw [hf7 o k q5, hf6 o k q1 q2 q3, hf5 o k q4]
              exact hkeep o k (by omega) (by omega)
            have hMK8 : MK s11 (ns ++ [s]) ρ8 := by
              have hm5 := hMK4.gr hg5 (hf5 1 16 (by omega)) rfl
              have hm6 := hm5.gr hg6 (hf6 1 16 (by omega) (by omega) (by omega)) (hr6 155 (by omega))
              have hm7 := hm6.gr hsg7 (hf7 1 16 (by decide)) (hr7 155 (by omega))
              exact hm7.gr hg8 (h8'.keep (by omega) (by omega)) (by rw [h8'.row])
            have hvv : v73 = if sk isSp (gd l) l.length j = j then 0 else 1 := by
              rw [hv8]
              by_cases cz : sk isSp (gd l) l.length j = j
              · rw [if_pos cz, if_pos (by omega)]
              · rw [if_neg cz, if_neg (by omega)]
            rw [hvv]
            have hj67 : jw ρ7 = jw ρ6 ∧ jtp ρ7 = jtp ρ6 := by unfold jw jtp; rw [hf7 1 14 (by decide), hf7 1 3 (by decide)]; exact ⟨rfl, rfl⟩
            refine hgood c c' m' out (nrt (tyO (aA B) od) out) od L' B' ρ8 hvo hod rfl hR8 hs7 hMK8 (hgall.trans hg8) ?_ (by omega) hcr ⟨by rw [x3]; exact hkk 1 2 (by omega) (by omega) (by omega) (by omega) (by decide), by rw [x4]; exact hkk 4 16 (by omega) (by omega) (by omega) (by omega) (by decide), by rw [x5]; exact hkk 2 5 (by omega) (by omega) (by omega) (by omega) (by decide), by rw [h8'.keep (by omega) (by omega), e237, h23], by rw [h8'.keep (by omega) (by omega)]; exact hkk 1 16 (by omega) (by omega) (by omega) (by omega) (by decide)⟩
            by_cases cz : nrt (tyO (aA B) od) out = []
            · have := hjw6.2 cz
              rw [if_pos cz]
              omega
            · have := hjw6.1
              rw [if_neg cz]
              omega
        refine sp_fnd (a := B) hln hR4.1 hAd4 hnA (((hxe.gr hgb).gr hg3).gr hg4) ((hJn.gr hg3).gr hg4) (fun i z hi => hgo _ z (some i) hi.symm rfl (fun i' hi' => ?_)) (fun hi l' _ => hgo _ _ none hi.symm rfl (fun i' hi' => by cases hi'))
        cases hi'
        unfold adf at hi
        exact (List.findIdx?_eq_some_iff_findIdx_eq.mp hi).1
end JI38
