/-! ===== items of the class: tags (10): one attribute, from between to between ===== -/
section JI41
variable {L : Nat → Nat} {rm nd : Nat} {ρ σ τ : IS} {a : AS} {KK : Int → IS → Prop}
theorem pl_eq {p p' e q : Nat} (h : ((p + e : Nat) : Int) = ((p' + (e - q) : Nat) : Int)) (hq : q ≤ e) : ((p' : Nat) : Int) = ((p + q : Nat) : Int) := by omega
theorem cnt_ok {cnt : Int} {i e : Nat} (h1 : 0 ≤ cnt) (h2 : cnt ≤ (i : Int)) (h3 : i ≤ e) (h4 : e ≤ 200000) : -2147483648 ≤ cnt + 1 ∧ cnt + 1 ≤ 2147483647 ∧ (1000000 - (cnt + 1)).toNat < (1000000 - cnt).toNat ∧ cnt < 1000000 ∧ 0 ≤ cnt + 1 := by omega
theorem cnt_nx {cnt : Int} {i y b v j : Nat} (h2 : cnt ≤ (i : Int)) (h3 : i < y) (h4 : y < b) (h5 : b < v) (h6 : v + 1 < j) : cnt + 1 ≤ (j : Int) := by omega
/-- room after an attribute -/
theorem att_num {rmA c c' m m' i y b v j al jw1 jw2 jt1 jt2 bg n8 f16 rs rs' oO vl lit out sv dv : Nat} (h1 : c ≤ c') (h2 : m ≤ m') (h3 : out + m' + c ≤ lit + m + c') (h4 : lit = j - 1 - (v + 1)) (h5 : vl ≤ out) (h6 : dv ≤ vl) (h7 : dv ≤ 1) (hsv : sv + y ≤ b + 1) (hiy : i < y) (hyb : y < b) (hbv : b < v) (hvj : v + 1 < j) (k1 : 2 * jw1 + rs + rmA ≤ c + 38 + oO + 2 + i) (k2 : jt1 + rmA ≤ bg + n8 + c + i) (k3 : 2 * f16 + rmA ≤ c + i) (k4 : 2 * jw1 + rmA ≤ c + 38 + i) (u4 : m + rmA ≤ c + i) (hjw : jw2 ≤ jw1 + 1 + dv) (hjt : jt2 ≤ jt1 + vl) (hrs : rs' ≤ rs + sv) (hal : al ≤ i) : 2 * jw2 + rs' + rmA ≤ c' + 38 + oO + 2 + j ∧ jt2 + rmA ≤ bg + n8 + c' + j ∧ 2 * f16 + rmA ≤ c' + j ∧ 2 * jw2 + rmA ≤ c' + 38 + j ∧ m' + rmA ≤ c' + j ∧ al + 1 ≤ j := by
  omega
set_option maxHeartbeats 4000000 in
theorem TJ.att {l : List Int} {g : Nat × Nat} {t : List Frm} {p i y b v j c m : Nat} {pl xe s11 : Int} {nm : Str} {acc : List Att} (hln : JLn L rm nd) (hG : GA rm nd a) (hF : aF a = (l, g) :: t) (hremc : l.length ≤ rem a) (hTJ : TJ L rm nd pl a l p nm xe s11 i y c m acc ρ) (hiy : i < y) (hnm : nmg (gd l) l.length true (some y) = some b) (hev : eqs (gd l) l.length (some b) = some v) (hvl : vlp (gd l) l.length (some v) = some j)
    (hbad8 : sl (gd l) y (b - y) ∈ acc.map (fun z => z.1) → ∀ v ρ', BR L rm nd 300001 8 pl ρ' → KK v ρ')
    (hbadv : ¬ sl (gd l) y (b - y) ∈ acc.map (fun z => z.1) → ∀ f, val rm a (sl (gd l) (v + 1) (j - 1 - (v + 1))) c m = .inl f → ∀ v ρ', BR L rm nd 300001 f pl ρ' → KK v ρ')
    (hgood : ¬ sl (gd l) y (b - y) ∈ acc.map (fun z => z.1) → ∀ c' m' out vl od ρ', val rm a (sl (gd l) (v + 1) (j - 1 - (v + 1))) c m = .inr (c', m', out) → od = adf (aA a) nm (sl (gd l) y (b - y)) → vl = nrt (tyO (aA a) od) out → TJ L rm nd pl a l p nm xe s11 j (sk isSp (gd l) l.length j) c' m' (acc ++ [(sl (gd l) y (b - y), vl, od)]) ρ' → KK (if sk isSp (gd l) l.length j = j then 0 else 1) ρ') :
    w_Reader_readName L (fun v53 σ52 => WJ (fun (s56 : Int) (σ57 : IS) => WJ (fun (s60 : Unit) (σ61 : IS) => w_Reader_skipSpace L (fun v63 σ62 => w_Reader_need L 1012 (fun σ64 => w_Reader_skipSpace L (fun v67 σ66 => WJ (fun (s70 : Unit) (σ71 : IS) => w_Reader_skipSpace L (fun v73 σ72 => KK v73 σ72) σ71) (fun J68 => if (1 : Int) = 0 then w_Reader_checkValue L (fun σ93 => J68 () σ93) σ66 else if (σ66.1 2 4) = 0 then inL L 155 s56 ∧ w_Declared_find L xe s56 (fun v78 σ77 => w_Entities_readValue L (fun v80 σ79 => ((¬ v78 = (-1) → inL L 118 v78)) ∧ w_Entities_keepValue L v80 (if v78 = (-1) then (10 : Int) else (σ79.2 118 (Int.toNat v78))) (fun v83 σ82 => w_Tree_addAttribute L s56 v83 v78 1 (fun σ84 => J68 () σ84) σ82) σ79) σ77) (pr σ66 155 (Int.toNat s56) s11) else J68 () σ66)) σ64) σ62) σ61) (fun J58 => ((¬ (1 : Int) = 0 → inL L 155 s56)) ∧ if ¬ (1 : Int) = 0 ∧ ((σ57.2 155 (Int.toNat s56)) = s11) then w_Reader_fail L 8 (fun σ96 => J58 () σ96) σ57 else J58 () σ57)) (fun J54 => if (1 : Int) = 0 then J54 (-1) σ52 else inR ((σ52.1 2 2) - v53) ∧ w_Store_intern L v53 ((σ52.1 2 2) - v53) (fun v107 σ106 => J54 v107 σ106) σ52)) ρ := by
  obtain ⟨⟨n3, L', B', S', O', hRi, hTX⟩, ⟨h22, h23, hTρ, htρ, hJe⟩, hMK, ⟨u1, u2, u3, u4, u5⟩, ⟨k1, k2, k3, k4⟩, hpl, h16⟩ := hTJ
  have hln2 := hln
  obtain ⟨-, ⟨-, hrm2, -, hnd2, -⟩, hL101, h102, -⟩ := hln2
  obtain ⟨gO, -, ⟨-, r2, r3, r4⟩, ⟨c1, -, c3, c4, -, -⟩, ⟨b1', b2⟩, ⟨-, -, gp5, -⟩, -, -, -⟩ := id hG
  have h12ρ := hRi.1.2.2.2.2.2.2.2
  have hcapL : 256 + aN a 8 + rm ≤ L 101 := by
    split at hL101 <;> omega
  clear hL101
  have g6 := nmg_lt hnm
  have g7 := eqs_gt g6.2.2 hev
  have g8 := vlp_gt hvl
  obtain ⟨tx1, tx2, ⟨tx3, tx4, tx5⟩, tx6⟩ := id hTX
  refine j_at1 (B := sN (sN (trr a n3 L' B' S' O') 0 c) 1 m) (el := nm) (KK := KK) hln hRi hF h22 h23 hTρ htρ hJe hMK hnm hev hvl (by omega) gO (show (aE a).length < _ by omega) gp5 u3 (show l.length ≤ c by omega) (show m ≤ 700000 by omega) (show jtp ρ + (j - v) + (rm - c) ≤ L 101 by omega) (show (aA a).length ≤ _ by omega) tx3 tx4 (show n3 ≤ 300000 by omega) (fun e r hO => ?_) (show evl S' ≤ rm by omega) (fun hin v ρ' hB => hbad8 hin v ρ' (by rw [hpl] at hB; exact hB)) (fun hin f hvf v ρ' hB => hbadv hin f hvf v ρ' (by rw [hpl] at hB; exact hB)) (fun hin c' m' out vl od L2 B2 ρ' hvo hod hvl2 hR2 hs2 hMK2 hg2 hjw2 hjt2 hcr hkp => hgood hin c' m' out vl od ρ' hvo hod hvl2 ?_)
  · have h6 := tx6 e r hO
    refine ⟨h6.1, ?_, ?_⟩
    · show (L'.getD e elD).2.2.2.1 ≤ 300000
      omega
    · show (L'.getD e elD).2.2.2.2.1 ≤ 300000
      omega
  · have hvo' : val rm a (sl (gd l) (v + 1) (j - 1 - (v + 1))) c m = .inr (c', m', out) := hvo
    have hvm := val_mk hvo'
    rw [sl_len2] at hvm
    have hvl3 : vl = nrt (tyO (aA a) od) out := hvl2
    have hvle := nrt_len (tyO (aA a) od) out
    rw [← hvl3] at hvle
    have hR3 : RJ L rm nd ρ' (adv (trr (sN (sN (sN (sN (trr a n3 L' B' S' O') 0 c) 1 m) 0 c') 1 m') (n3 + 1) L2 B2 S' O') (sk isSp (gd l) l.length j)) := hR2
    rw [trr_mg2] at hR3
    have hT2 := hTX.add (x := (sl (gd l) y (b - y), vl, od)) (gn := 1) hG (by omega) hs2
    have hla2 : (acc ++ [(sl (gd l) y (b - y), vl, od)]).length = acc.length + 1 := by rw [List.length_append, List.length_singleton]
    rw [← hla2] at hT2
    have hrs := rsv_XT1 (a := a) (nm := nm) (acc := acc) (x := (sl (gd l) y (b - y), vl, od)) (g := 0)
    dsimp only at hrs
    have hsp3 : (if spt (sl (gd l) y (b - y)) = true then 4 else 0) + y ≤ b + 1 := by
      by_cases c3 : spt (sl (gd l) y (b - y)) = true
      · rw [if_pos c3]
        have := spt_len c3
        rw [sl_len2] at this
        omega
      · rw [if_neg c3]
        omega
    have hdv : (if vl = [] then 0 else 1) ≤ vl.length ∧ (if vl = [] then 0 else 1) ≤ 1 := by
      by_cases cv : vl = []
      · rw [if_pos cv]; omega
      · rw [if_neg cv]
        exact ⟨List.length_pos_iff.mpr cv, Nat.le_refl _⟩
    obtain ⟨kp1, kp2, kp3, kp4, kp5⟩ := hkp
    have hnum := att_num hvm.1 hvm.2.1 hvm.2.2 rfl hvle hdv.1 hdv.2 hsp3 hiy g6.2.1 g7.1 g8.1 k1 k2 k3 k4 u4 hjw2 hjt2 hrs u5
    have hyj := sk_le (p := isSp) (T := gd l) g8.2.1
    obtain ⟨p', g', t', hF', hp', hS', -, -, -⟩ := hR3.at hln
    have hFB2 : aF (sN (sN (trr a (n3 + 1) L2 B2 S' O') 0 c') 1 m') = (l, g) :: t := hF
    have hc3 : (cur (adv (sN (sN (trr a (n3 + 1) L2 B2 S' O') 0 c') 1 m') (sk isSp (gd l) l.length j))).length = l.length - sk isSp (gd l) l.length j := by
      rw [adv_of hFB2]
      show (l.drop _).length = _
      rw [List.length_drop]
    have hS1 := hS'.1
    rw [kp4, h23, hc3] at hS1
    refine ⟨⟨n3 + 1, L2, B2, S', O', hR3, hT2⟩, ⟨?_, by rw [kp4]; exact h23, hTρ.gr htρ hg2, Nat.le_trans htρ hg2.2.1, hJe.gr hg2⟩, ?_, ⟨hyj.2, Nat.le_trans u2 hvm.1, hcr, hnum.2.2.2.2.1, by rw [hla2]; exact hnum.2.2.2.2.2⟩, ⟨hnum.1, by rw [kp1]; exact hnum.2.1, by rw [kp2]; exact hnum.2.2.1, hnum.2.2.2.1⟩, by rw [kp3]; exact hpl, by rw [kp5]; exact h16⟩
    · rw [hp']
      exact pl_eq hS1 hyj.2
    · rw [List.map_append]
      exact hMK2
end JI41
