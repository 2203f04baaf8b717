/-! ===== the validator: all counts, one after another ===== -/
section Val
variable {L : Nat → Nat} {rm nd : Nat} {σ : IS} {a : AS} {Q : IS → Prop}
/-- how long tables are, and that they fit -/
theorem val_nums (hln : JLn L rm nd) (hlv : JLv L rm nd) (hG : GI rm nd a) : ((aL a).length ≤ L 129 ∧ (aL a).length ≤ L 130 ∧ (aL a).length ≤ L 131 ∧ (aL a).length ≤ L 132 ∧ (aL a).length ≤ L 133 ∧ (aL a).length ≤ L 146 ∧ (aL a).length ≤ L 150 ∧ (aL a).length ≤ L 151 ∧ (aL a).length ≤ L 152) ∧ ((aB a).length ≤ L 134 ∧ (aB a).length ≤ L 135 ∧ (aB a).length ≤ L 161) ∧ ((aD a).length ≤ L 116 ∧ (aD a).length ≤ L 117 ∧ (aD a).length ≤ L 147 ∧ (aD a).length ≤ L 153) ∧ ((∀ r, 118 ≤ r → r ≤ 123 → (aA a).length ≤ L r) ∧ (aA a).length ≤ L 148 ∧ (aA a).length ≤ L 154) ∧ ((aL a).length ≤ 16384 ∧ (aB a).length ≤ 16384 ∧ (aD a).length ≤ 6144 ∧ (aA a).length ≤ 12288) ∧ (0 < L 124 ∧ L 124 ≤ 49154 ∧ ∀ x : Int, 2 * x.toNat ≤ rm → x ≤ (L 124 : Int)) ∧ L 101 ≤ 164096 ∧ aN a 1 ≤ 98304 ∧ (aT a).length ≤ 98304 := by
  obtain ⟨hsl, ⟨hr1, hr2, hr3, hr4, -⟩, h101, h102, -, -, ⟨l116, l117, l147⟩, ⟨l118, l148⟩, l124, -, ⟨l129, l146, l161⟩, -⟩ := id hln
  obtain ⟨-, l149, ⟨l150, l151, l152⟩, l153, l154⟩ := id hlv
  obtain ⟨⟨-, -, ⟨g1, g2, -, -⟩, ⟨-, g3, g4, -, g5, -, g6⟩, ⟨g7, g8⟩, -⟩, -⟩ := id hG
  have a1 : (aL a).length ≤ nd := by omega
  have a2 : (aB a).length ≤ nd := by omega
  have a3 : (aD a).length ≤ rm / 16 + 2 := by omega
  have a4 : (aA a).length ≤ rm / 8 + 2 := by omega
  refine ⟨⟨by rw [l129 129 (by omega) (by omega)]; exact a1, by rw [l129 130 (by omega) (by omega)]; exact a1, by rw [l129 131 (by omega) (by omega)]; exact a1, by rw [l129 132 (by omega) (by omega)]; exact a1, by rw [l129 133 (by omega) (by omega)]; exact a1, by rw [l146]; exact a1, by rw [l150]; exact a1, by rw [l151]; exact a1, by rw [l152]; exact a1⟩, ⟨by rw [l129 134 (by omega) (by omega)]; exact a2, by rw [l129 135 (by omega) (by omega)]; exact a2, by rw [l161]; exact a2⟩, ⟨by rw [l116]; exact a3, by rw [l117]; exact a3, by rw [l147]; exact a3, by rw [l153]; exact a3⟩, ⟨fun r h1 h2 => by rw [l118 r h1 h2]; exact a4, by rw [l148]; exact a4, by rw [l154]; exact a4⟩, ⟨by omega, by omega, by omega, by omega⟩, ⟨by omega, by omega, fun x hx => by omega⟩, by split at h101 <;> omega, by omega, by omega⟩
set_option maxHeartbeats 2000000 in
theorem sp_Validator_countAll (hln : JLn L rm nd) (hlv : JLv L rm nd) (hS : SI L σ) (hR : JRo σ (aR a)) (hN : JNu σ (aN a)) (hD : JEd L σ (aD a)) (hA : JAd L σ (aA a)) (hT : JNt L σ (aT a)) (hE : JEl σ (aL a) (aO a)) (hB : JAt σ (aB a)) (hG : GI rm nd a) (hV : GV a) (hGS : GS a) (hGD : GDl a) (hel : aL a ≠ []) (hs : 0 ≤ σ.1 1 16 ∧ σ.1 1 16 ≤ 1100000000) (hm : ∀ w, σ.2 155 w ≤ σ.1 1 16) (hcap : 2 * jw σ + cnl (aD a) ≤ 2 * L 102) (h416 : 2 * (σ.1 4 16).toNat ≤ rm) (hcl : cnl (aD a) ≤ 99000)
    (hq : ∀ σ', VAx L σ σ' → (∀ w, σ'.2 155 w ≤ σ'.1 1 16) → (σ.1 1 16 ≤ σ'.1 1 16 ∧ σ'.1 1 16 ≤ σ.1 1 16 + 200000) → (∀ k, σ'.2 149 k = (cnV a k : Int)) → 2 * jw σ' ≤ 2 * jw σ + cnl (aD a) → Q σ') : w_Validator_countAll L Q σ := by
  obtain ⟨⟨n129, n130, n131, n132, n133, n146, n150, n151, n152⟩, ⟨n134, n135, n161⟩, ⟨n116, n117, n147, n153⟩, ⟨n118, n148, n154⟩, ⟨hLel, hLat, hLed, hLad⟩, ⟨h124a, h124b, h124c⟩, h101b, hN1, hTl⟩ := val_nums hln hlv hG
  have hsl : SL L := hln.1
  have l125 : L 125 = L 102 := hln.2.2.2.2.2.1.2.2.1
  have l126 : L 126 = L 102 := hln.2.2.2.2.2.1.2.2.2.1
  have l127 : L 127 = L 102 := hln.2.2.2.2.2.1.2.2.2.2
  have hML : MLn L := hlv.1
  have l149 : L 149 = 23 := hlv.2.1
  have gC := hG.2.2.1
  have h416 := h124c _ h416
  clear h124c hln hlv
  unfold w_Validator_countAll
  rw [hR.1]
  cases hr : aR a with
  | none =>
    rw [if_pos (by rfl), show Int.toNat 0 = 0 from rfl]
    refine ⟨⟨by omega, by omega⟩, hq _ (VAx.mk' hS (fun _ _ _ _ => rfl) (fun r y => ?_)) (fun w => ?_) ⟨by rw [pr_1, fa_1]; omega, by rw [pr_1, fa_1]; omega⟩ (fun k => ?_) ?_⟩
    · funext j
      rw [pr_2, if_neg (by omega), fa_2, if_neg (by omega)]
    · rw [pr_1, fa_1, pr_2, if_neg (by omega), fa_2, if_neg (by omega)]
      exact hm w
    · unfold cnV
      rw [hr, pr_2, fa_2, if_pos rfl]
      by_cases y : k = 0
      · rw [if_pos ⟨rfl, y⟩]; dsimp only; rw [if_pos y]; rfl
      · rw [if_neg (fun z => y z.2)]; dsimp only; rw [if_neg y]; rfl
    · have : jw (pr (fa σ 149 0) 149 0 1) = jw σ := rfl
      rw [this]
      exact Nat.le_add_right _ _
  | some s =>
    rw [if_neg (show ¬ ((if (some s).isSome = true then (1 : Int) else 0) = 0) by simp), show Int.toNat 0 = 0 from rfl, show Int.toNat 1 = 1 from rfl, show Int.toNat 20 = 20 from rfl, show Int.toNat 22 = 22 from rfl, fa_2, if_neg (show ¬ (146 = 149) by decide), hT.1, hN.2.1]
    have hl0 : 0 < (aL a).length := List.length_pos_iff.mpr hel
    have hJ0 := (hE.2.2 0 hl0).1
    have hJs := hR.2 s hr
    have e1 : (if σ.2 146 0 = σ.1 5 7 then (0 : Int) else 1) = ((if ((aL a).getD 0 elD).1 = s then 0 else 1 : Nat) : Int) := by
      by_cases y : ((aL a).getD 0 elD).1 = s
      · rw [if_pos y, if_pos (Jn.inj hS hJ0 (by rw [y]; exact hJs))]; rfl
      · rw [if_neg y, if_neg (fun z => y (Jn.fun hJ0 (by rw [z]; exact hJs)))]; rfl
    rw [e1]
    refine ⟨⟨by omega, by omega⟩, ⟨by omega, by omega⟩, ⟨by omega, by omega⟩, ⟨by omega, by omega⟩, ?_⟩
    generalize hσ0 : pr (pr (pr (fa σ 149 0) 149 1 ((if ((aL a).getD 0 elD).1 = s then 0 else 1 : Nat) : Int)) 149 20 (ndu (aT a) : Int)) 149 22 (aN a 1 : Int) = σ0
    have v0 : VAx L σ σ0 := VAx.mk' hS (fun _ _ _ _ => by rw [← hσ0]; rfl) (fun r y => by
      rw [← hσ0]
      funext j
      rw [pr_2, if_neg (by omega), pr_2, if_neg (by omega), pr_2, if_neg (by omega), fa_2, if_neg (by omega)])
    have f0 : σ0.1 = σ.1 := by rw [← hσ0]; rfl
    have r0 : ∀ r, r ≠ 149 → σ0.2 r = σ.2 r := fun r y => by
      rw [← hσ0]
      funext j
      rw [pr_2, if_neg (fun z => y z.1), pr_2, if_neg (fun z => y z.1), pr_2, if_neg (fun z => y z.1), fa_2, if_neg y]
    have t0 : ∀ k, σ0.2 149 k = (cn0 a s k : Int) := fun k => by
      unfold cn0
      rw [← hσ0, pr_2]
      by_cases y1 : k = 22
      · rw [if_pos ⟨rfl, y1⟩, if_pos y1]
      · rw [if_neg (fun z => y1 z.2), if_neg y1, pr_2]
        by_cases y2 : k = 20
        · rw [if_pos ⟨rfl, y2⟩, if_pos y2]
        · rw [if_neg (fun z => y2 z.2), if_neg y2, pr_2]
          by_cases y3 : k = 1
          · rw [if_pos ⟨rfl, y3⟩, if_pos y3]
          · rw [if_neg (fun z => y3 z.2), if_neg y3, fa_2, if_pos rfl]; rfl
    clear hσ0 e1
    have hnd := ndu_le (aT a)
    have b0 : ∀ k, cn0 a s k ≤ 98304 := fun k => by
      unfold cn0
      repeat' split
      all_goals omega
    have z0 : ∀ k, k ≠ 22 → k ≠ 20 → k ≠ 1 → cn0 a s k = 0 := fun k y1 y2 y3 => by unfold cn0; rw [if_neg y1, if_neg y2, if_neg y3]
    generalize hc0 : cn0 a s = c0 at *
    -- chains
    have hE0 := v0.el hE
    refine sp_Validator_link (ed := aD a) (el := aL a) v0.2.2.2 hsl hE0.1 (fun e he => ⟨(hE0.2.2 e he).1, (hE0.2.2 e he).2.1⟩) (v0.ed hsl hD) (fun e he => ?_) ⟨n129, n146, n150, n151, n152, by omega⟩ ⟨n153, l125, l149, by omega⟩ (by rw [t0 5, z0 5 (by decide) (by decide) (by decide)]; exact ⟨Int.le_refl _, by decide⟩) (fun σ1 q1 q2 q3 => ?_)
    · have := hV.2 e (e5 ((aL a).getD e elD)) (by rw [List.getElem?_map, List.getElem?_eq_getElem he, List.getD_eq_getElem?_getD, List.getElem?_eq_getElem he]; rfl)
      exact this
    have v1 : VAx L σ σ1 := v0.trans (q1.vax v0.2.2.2)
    obtain ⟨c1, hc1'⟩ : ∃ c1 : Nat → Nat, ∀ k, c1 k = (c0 k + (if k = 5 then nnk (kdc (aD a) (aL a)) (aL a).length 0 else 0)) := ⟨_, fun _ => rfl⟩
    have t1 : ∀ k, σ1.2 149 k = (c1 k : Int) := fun k => by
      rw [q3 k, t0 k, hc1' k]
      split <;> omega
    have s1 : σ1.1 1 16 = σ.1 1 16 := by rw [q1.1, f0]
    have m1 : ∀ w, σ1.2 155 w ≤ σ1.1 1 16 := fun w => by rw [q1.2 155 (by omega), r0 155 (by decide), s1]; exact hm w
    have j1 : jw σ1 = jw σ := by unfold jw; rw [q1.1, f0]
    have hnnl := nnk_le (κ := kdc (aD a) (aL a)) (n := (aL a).length) (j := 0)
    have b1' : ∀ k, c1 k ≤ 120000 := fun k => by have := b0 k; rw [hc1' k]; split <;> omega
    have z1 : ∀ k, k ≠ 22 → k ≠ 20 → k ≠ 1 → k ≠ 5 → c1 k = 0 := fun k y1 y2 y3 y4 => by rw [hc1' k, z0 k y1 y2 y3, if_neg y4]
    -- declarations of elements
    have hE1 := v1.el hE
    refine sp_Validator_countElements (ed := aD a) (el := aL a) v1.2.2.2 hsl hML (v1.ed hsl hD) hGD hE1.1 (fun i hi => ⟨(hE1.2.2 i hi).1, (hE1.2.2 i hi).2.2.2.2.2⟩) q2 ⟨n133, n146, n150, n151, n152⟩ ⟨n116, n117, n147, n153, l125, l149⟩ ⟨by omega, by omega, fun i => ?_⟩ (by rw [sn_lnE, j1]; exact hcap) (fun k _ _ => by rw [t1 k]; have := b1' k; omega) ⟨by omega, by omega⟩ m1 (fun σ2 p1 p2 p3 p4 p5 => ?_)
    · by_cases y : i < (aD a).length
      · have h3 := sn_ge (f := lnE (aD a)) y
        rw [sn_lnE] at h3
        omega
      · unfold lnE
        rw [List.getD_eq_getElem?_getD, List.getElem?_eq_none (by omega)]
        exact Nat.zero_le _
    rw [sn_lnE] at p3 p5
    rw [j1] at p5
    rw [s1] at p3
    have v2 : VAx L σ σ2 := v1.trans p1.vax
    obtain ⟨c2, hc2'⟩ : ∃ c2 : Nat → Nat, ∀ k, c2 k = (c1 k + sn (ctE (aD a) (aL a) k) (aD a).length) := ⟨_, fun _ => rfl⟩
    have t2 : ∀ k, σ2.2 149 k = (c2 k : Int) := fun k => by rw [p4 k, t1 k, hc2' k]; omega
    have z2 : ∀ k, k ≠ 22 → k ≠ 20 → k ≠ 1 → ¬ (2 ≤ k ∧ k ≤ 6) → c2 k = 0 := fun k y1 y2 y3 y4 => by rw [hc2' k, z1 k y1 y2 y3 (by omega), sn_0 (ctE_0 (by omega))]
    have b2 : ∀ k, c2 k ≤ 1000000000 := fun k => by
      rw [hc2' k]
      have h1 := b1' k
      have hmxb : ∀ x ∈ aD a, (mxN x).length ≤ 100000 := fun x hx => by
        obtain ⟨i, hi, hix⟩ := List.mem_iff_getElem.mp hx
        have h3 := sn_ge (f := lnE (aD a)) hi
        unfold lnE at h3
        rw [List.getD_eq_getElem?_getD, List.getElem?_eq_getElem hi, Option.getD_some, hix] at h3
        change x.2.2.length ≤ sn (lnE (aD a)) (aD a).length at h3
        rw [sn_lnE] at h3
        by_cases y : x.2.1 = 2
        · obtain ⟨-, -, gg⟩ := hGD x hx
          obtain ⟨z, zz1, zz2, zz3⟩ := gg y
          have := mxL_two _ _ _ _ (by omega) zz3
          unfold mxN
          rw [List.length_map]
          omega
        · have hany : ∀ (m i0 : Nat), (mxL (gd x.2.2) x.2.2.length m i0).length ≤ x.2.2.length - i0 := by
            intro m
            induction m with
            | zero => intro i0; exact Nat.zero_le _
            | succ m ih =>
              intro i0
              rw [mxL_u]
              split
              · split
                · exact Nat.zero_le _
                · rename_i j hj
                  have hjl := nmg_lt hj
                  have hs1 : i0 ≤ sk isSp (gd x.2.2) x.2.2.length i0 := sk_gt
                  have hs2 : sk isSp (gd x.2.2) x.2.2.length i0 + 1 ≤ sk isSp (gd x.2.2) x.2.2.length (sk isSp (gd x.2.2) x.2.2.length i0 + 1) := sk_gt
                  have := ih j
                  rw [List.length_cons]
                  omega
              · exact Nat.zero_le _
          have := hany (x.2.2.length + 1) (mx0 x.2.2)
          unfold mxN
          rw [List.length_map]
          omega
      have h2 : sn (ctE (aD a) (aL a) k) (aD a).length ≤ 100000 * (aD a).length := by
        rw [sn_ext (g := fun i => if i < (aD a).length then ctE (aD a) (aL a) k i else 0) (fun i hi => by rw [if_pos hi])]
        exact sn_le (fun i => by
          by_cases y : i < (aD a).length
          · rw [if_pos y]; exact ctE_le (by omega) hmxb (by omega) k i y
          · rw [if_neg y]; omega) _
      omega
    -- tags
    have hE2 := v2.el hE
    have hA2 := v2.ad hsl hA
    have h416' : ∀ υ : IS, VAx L σ υ → υ.1 4 16 ≤ (L 124 : Int) := fun υ hυ => by rw [hυ.1 4 16 (by omega) (by omega) (by omega) (by omega)]; exact h416
    have hseg : (segs (aL a)).length = (aB a).length := by
      have := congrArg List.length hGS.1
      rw [List.length_map, List.length_range] at this
      exact this
    have hmul1 : (aL a).length * (aA a).length ≤ 16384 * 12288 := Nat.mul_le_mul (by omega) hLad
    refine sp_Validator_countTags (el := aL a) (at_ := aB a) (ad := aA a) v2.2.2.2 hsl hE2.1 (fun e he => ⟨(hE2.2.2 e he).1, (hE2.2.2 e he).2.2.1, (hE2.2.2 e he).2.2.2.2.1⟩) (v2.at' hB) gC hV.1 hA2 ⟨n146, n130, n132⟩ ⟨n134, n135, n161⟩ ⟨n118, n148, l126, l149, by omega, h416' _ v2⟩ ⟨by omega, by omega, by omega, by omega, by omega⟩ (fun k y1 y2 => by rw [t2 k, z2 k (by omega) (by omega) (by omega) (by omega)]; exact ⟨Int.le_refl _, by decide⟩) ⟨by omega, by omega⟩ p2 (fun σ3 u1 u2 u3 => ?_)
    have v3 : VAx L σ σ3 := v2.trans (u1.vax v2.2.2.2)
    obtain ⟨c3, hc3'⟩ : ∃ c3 : Nat → Nat, ∀ k, c3 k = (c2 k + cnT (aA a) (aB a) (aL a) k) := ⟨_, fun _ => rfl⟩
    have t3 : ∀ k, σ3.2 149 k = (c3 k : Int) := fun k => by rw [u3 k, t2 k, hc3' k]; omega
    have j3 : jw σ3 = jw σ2 := u1.jwE
    have z3 : ∀ k, k ≠ 22 → k ≠ 20 → k ≠ 1 → ¬ (2 ≤ k ∧ k ≤ 10) → c3 k = 0 := fun k y1 y2 y3 y4 => by rw [hc3' k, z2 k y1 y2 y3 (by omega), cnT_0 (by omega)]
    have b3 : ∀ k, c3 k ≤ 1500000000 := fun k => by
      rw [hc3' k]
      have h1 := b2 k
      have h2 : cnT (aA a) (aB a) (aL a) k ≤ 400000000 := by
        unfold cnT
        have h3 := gsm_len (f := tga (aA a) (aB a) k) (tga_le k) (segs (aL a))
        have h4 := sum_take_le (f := ce9 (aA a) (aB a)) (m := (aA a).length) (fun _ => ce9_le) (aL a)
        split <;> omega
      omega
    -- identities
    have hE3 := v3.el hE
    have hB3 := v3.at' hB
    have hA3 := v3.ad hsl hA
    have hmul2 : (aL a).length * (aB a).length ≤ 16384 * 16384 := Nat.mul_le_mul (by omega) (by omega)
    refine sp_Validator_countIdentities (el := aL a) (at_ := aB a) (ad := aA a) v3.2.2.2 hsl hE3.1 hA3.1 (fun e he => ⟨(hE3.2.2 e he).2.2.1, (hE3.2.2 e he).2.2.2.1, (hE3.2.2 e he).2.2.2.2.1⟩) hB3 (fun x hx => (gC x hx).1) hV.1 (fun d hd => (hA3.2.1 d hd).2.1) ⟨n130, n131, n132⟩ ⟨n134, n135⟩ ⟨n118 118 (by omega) (by omega), n154⟩ l149 ⟨by omega, by omega, by omega, by omega⟩ (by rw [t3 11, z3 11 (by decide) (by decide) (by decide) (by omega)]; exact ⟨Int.le_refl _, by decide⟩) ⟨by omega, by omega⟩ u1.2.2.2 (fun σ4 hVI => ?_)
    obtain ⟨i1, i2, i3, i4, i5, i6⟩ := hVI
    have hid : ids (aA a) (aB a) (segs (aL a)) = idA a := rfl
    rw [hid] at i4 i5 i6
    have v4 : VAx L σ σ4 := v3.trans (i1.vax v3.2.2.2)
    have j4 : jw σ4 = jw σ3 := i1.jwE
    obtain ⟨c4, hc4'⟩ : ∃ c4 : Nat → Nat, ∀ k, c4 k = (c3 k + (if k = 11 then (idA a).2.1 else 0)) := ⟨_, fun _ => rfl⟩
    have t4 : ∀ k, σ4.2 149 k = (c4 k : Int) := fun k => by
      rw [i4 k, t3 k, hc4' k]
      split <;> omega
    have hid1 : (idA a).2.1 ≤ 16384 := by
      have := (ids_le (ad := aA a) (at_ := aB a) (segs (aL a)) ([], 0, fun _ => 0) 0 (Nat.le_refl _) (fun _ => Nat.le_refl _)).1
      have h' : (idA a).2.1 ≤ 0 + (segs (aL a)).length := this
      omega
    have z4 : ∀ k, k ≠ 22 → k ≠ 20 → k ≠ 1 → ¬ (2 ≤ k ∧ k ≤ 11) → c4 k = 0 := fun k y1 y2 y3 y4 => by rw [hc4' k, z3 k y1 y2 y3 (by omega), if_neg (by omega)]
    have b4 : ∀ k, c4 k ≤ 1600000000 := fun k => by have := b3 k; rw [hc4' k]; split <;> omega
    -- references
    have hE4 := v4.el hE
    have hB4 := v4.at' hB
    have hA4 := v4.ad hsl hA
    have hzl : ∀ z ∈ segs (aL a), z.1 < (aB a).length := fun z hz => by
      have q : z.1 ∈ (segs (aL a)).map Prod.fst := List.mem_map.mpr ⟨z, hz, rfl⟩
      rw [hGS.1] at q
      exact List.mem_range.mp q
    have hcR : ∀ k, gsm (wrd (aA a) (aB a) (idA a).1 k) (segs (aL a)) + sn (fun d => (idA a).2.2 d * wrv (aA a) (idA a).1 k d) (aA a).length = cnR (aA a) (aB a) (idA a).1 k := fun k => cnR_eq hGS.1 (fun z hz hb => by
      obtain ⟨d, y1, y2, y3, y4⟩ := hGS.2 z hz hb
      exact ⟨d, y1, y2, y4⟩)
    have hwl : ∀ x ∈ aB a, x.2.1.length ≤ L 101 := fun x hx => by
      obtain ⟨i, hi, hix⟩ := List.mem_iff_getElem.mp hx
      obtain ⟨w, y1, y2, y3⟩ := (hB.2 i hi).2.1
      have hix' : (aB a).getD i atD = x := by rw [List.getD_eq_getElem?_getD, List.getElem?_eq_getElem hi, Option.getD_some, hix]
      rw [hix'] at y3
      obtain ⟨-, -, -, -, l3⟩ := hS.word hsl y2
      rw [← y3]
      unfold wst
      rw [sl_ln]
      omega
    have hcRl : ∀ k, cnR (aA a) (aB a) (idA a).1 k ≤ 1400000000 := fun k => by
      have h1 := cnR_le (ad := aA a) (at_ := aB a) (seen := (idA a).1) (k := k) hwl
      have h2 : (L 101 + 1) * (aB a).length ≤ (164096 + 1) * 16384 := Nat.mul_le_mul (by omega) (by omega)
      omega
    refine sp_Validator_countReferences (el := aL a) (at_ := aB a) (ad := aA a) (seen := (idA a).1) (p := (idA a).2.2) v4.2.2.2 hsl hE4.1 hA4.1 (fun e he => ⟨(hE4.2.2 e he).2.2.1, (hE4.2.2 e he).2.2.2.2.1⟩) hB4 gC hV.1 (fun d hd => (hA4.2.1 d hd).2.1) (fun d hd hp => ?_) i6 ⟨n130, n132⟩ ⟨n134, n135⟩ ⟨n118 118 (by omega) (by omega), n118 120 (by omega) (by omega), n154⟩ l149 ⟨by omega, by omega, by omega⟩ (fun w hw => ?_) (fun s' hs' => ?_) (fun k => by rw [t4 k]; omega) (fun k => ?_) (fun σ5 hY => ?_)
    · obtain y | ⟨z, y1, y2, y3⟩ := ids_app (ad := aA a) (at_ := aB a) (segs (aL a)) ([], 0, fun _ => 0) hp
      · exact absurd y (Nat.lt_irrefl _)
      · obtain ⟨d', w1, w2, w3, w4⟩ := hGS.2 z y1 y2
        rw [y3] at w1
        have : d = d' := Option.some.inj w1
        rw [← this] at w3
        exact (hA4.2.1 d hd).2.2.2.1 w3
    · rw [j4] at hw
      rw [i3, i1.wstE]
      exact i5 w hw
    · obtain y | ⟨z, y1, y2⟩ := ids_seen (ad := aA a) (at_ := aB a) (segs (aL a)) ([], 0, fun _ => 0) s' hs'
      · cases y
      · obtain ⟨w, w1, w2, w3⟩ := (hB4.2 z.1 (hzl z y1)).2.1
        exact ⟨w, w2, by rw [w3, y2]⟩
    · rw [hcR k, t4 k]
      by_cases y : k = 12 ∨ k = 21
      · rw [z4 k (by omega) (by omega) (by omega) (by omega)]
        have := hcRl k
        omega
      · rw [cnR_0 (by omega)]
        have := b4 k
        omega
    simp only [hcR] at hY
    have v5 : VAx L σ σ5 := v4.trans (hY.vax v4.2.2.2)
    have j5 : jw σ5 = jw σ4 := hY.jwE
    have t5 : ∀ k, σ5.2 149 k = ((c4 k + cnR (aA a) (aB a) (idA a).1 k : Nat) : Int) := fun k => by
      have h5 := hY.2.2 k
      dsimp only at h5
      rw [h5, t4 k]
      omega
    have z5 : ∀ k, 13 ≤ k → k ≤ 19 → (c4 k + cnR (aA a) (aB a) (idA a).1 k) = 0 := fun k y1 y2 => by rw [z4 k (by omega) (by omega) (by omega) (by omega), cnR_0 (by omega)]
    have s5 : σ5.1 1 16 = σ4.1 1 16 := hY.1 1 16 (by omega)
    have m5 : ∀ w, σ5.2 155 w ≤ σ5.1 1 16 := fun w => by rw [hY.2.1 155 (by decide), s5]; exact i1.2.2.2 w
    -- declared attributes
    have hmul3 : L 124 * (aA a).length ≤ 49154 * 12288 := Nat.mul_le_mul (by omega) hLad
    have hVD : VD L σ5 (aD a) (aA a) (aT a) := ⟨v5.2.2.2, hsl, v5.ed hsl hD, v5.ad hsl hA, v5.nt hsl hT, ⟨n118, n116, l149, l125, l126, l127⟩, h416' _ v5, by omega, by omega, by omega, by omega, by omega⟩
    refine sp_Validator_countAttributes hVD (fun k y1 y2 => by rw [t5 k, z5 k y1 y2]; exact ⟨Int.le_refl _, by decide⟩) ⟨by omega, by omega⟩ m5 (fun σ6 x1 x2 x3 => ?_)
    have hs6 := x1.2.2.1
    refine hq σ6 (v5.trans (x1.vax v5.2.2.2)) x1.2.2.2 ⟨by omega, by omega⟩ (fun k => ?_) ?_
    · rw [x3 k, t5 k]
      unfold cnV
      rw [hr]
      dsimp only
      rw [hc0, ← hc1' k, ← hc2' k, ← hc3' k, ← hc4' k]
      omega
    · have : jw σ6 = jw σ5 := x1.jwE
      omega
end Val
