/-! ===== the reference: a tag, the first time through ===== -/
section Ktg
variable {L : Nat → Nat} {rm nd o : Nat} {σ ρ τ : IS} {T : Nat → Int} {p e : Nat} {CONT : Int → Int → IS → Prop}
theorem isNm_47 {c : Int} (h : isNm c = true) : c ≠ 47 := by
  intro z
  rw [z] at h
  exact absurd h (by decide)
set_option maxHeartbeats 2000000 in
theorem sp_tag0 {v2 v4 : Int} (hK : KT L σ (p + e)) (hc : chs σ (p + e)) (hS : SHT T (σ.2 176) e p) (h1 : 1 ≤ e) (hv2 : v2 = enc (mvo p (nmg T e true (some 1)))) (hv4 : v4 = enc (mvo p (spc T e (nmg T e true (some 1))))) (h : ∀ s19 : Int, (s19 = 0 ∨ s19 = 1) → (∀ k, tgk T e 0 = some k → (s19 = 0 ↔ ¬ T (k - 2) = 47)) → CONT s19 (enc (mvo p (tgk T e 0))) σ) :
    WL (fun (K5 : Int × Int → IS → Prop) (s7 : Int × Int) (σ8 : IS) => WJ (fun (s11 : Unit) (σ12 : IS) => WJ (fun (s15 : Int) (σ16 : IS) => WJ (fun (s19 : Int) (σ20 : IS) => WJ (fun (s23 : Int) (σ24 : IS) => CONT s19 s23 σ24) (fun J21 => if s19 = 0 then w_KReader_word L s15 1124 (fun v120 σ119 => J21 v120 σ119) σ20 else inR (s15 + 2) ∧ J21 (s15 + 2) σ20)) (fun J17 => WJ (fun (s124 : Unit) (σ125 : IS) => J17 0 σ125) (fun J122 => if s15 < 0 then J122 () σ16 else w_KReader_says L s15 1152 (fun v128 σ127 => if v128 = 0 then J122 () σ127 else J17 1 σ127) σ16))) (fun J13 => if s7.1 < 0 then J13 (-1) σ12 else w_KReader_anySpaces L s7.1 (fun v132 σ131 => J13 v132 σ131) σ12)) (fun J9 => if s7.2 < 0 then J9 () σ8 else w_KReader_name L s7.2 (fun v135 σ134 => if v135 < 0 then J9 () σ134 else w_KReader_name L s7.2 (fun v138 σ137 => w_KReader_equal L v138 (fun v140 σ139 => w_KReader_value L v140 (fun v142 σ141 => w_KReader_spaces L v142 (fun v144 σ143 => K5 (v142, v144) σ143) σ141) σ139) σ137) σ134) σ8)) (v2, v4) σ := by
  have hK2 := hK.2.2
  have etg : tgk T e 0 = wd T e [62] (skp T e [47] (asp T e ((nmg T e true (some 1)).bind (atk T e (e + 1))))) := rfl
  have hneg : ∀ q : Option Nat, enc (mvo p q) < 0 ↔ q = none := fun q => by
    cases q with
    | none => exact ⟨fun _ => rfl, fun _ => by show (-1 : Int) < 0; decide⟩
    | some i => exact ⟨fun z => absurd z (by show ¬ ((p + i : Nat) : Int) < 0; omega), fun z => by cases z⟩
  refine WL_ind (fun s ρ => ρ = σ ∧ ∃ ko : Option Nat, s = (enc (mvo p ko), enc (mvo p (spc T e ko))) ∧ ple e ko ∧ (nmg T e true (some 1)).bind (atk T e (e + 1)) = ko.bind (atk T e (e + 1)) ∧ ∀ i, ko = some i → 1 ≤ i ∧ T (i - 1) ≠ 47) (fun s _ => if s.1 < 0 then 0 else ((((p + e + 2 : Nat) : Int)) - s.1).toNat) ?_ _ σ ⟨rfl, nmg T e true (some 1), by rw [hv2, hv4], nmg_le, rfl, fun i hi => ?_⟩
  · rintro s ρ ⟨rfl, ko, rfl, k1, k2, k3⟩ K hI
    try dsimp only
    -- behind the last attribute
    have fin_ : ko.bind (atk T e (e + 1)) = ko → WJ (fun (s15 : Int) (σ16 : IS) => WJ (fun (s19 : Int) (σ20 : IS) => WJ (fun (s23 : Int) (σ24 : IS) => CONT s19 s23 σ24) (fun J21 => if s19 = 0 then w_KReader_word L s15 1124 (fun v120 σ119 => J21 v120 σ119) σ20 else inR (s15 + 2) ∧ J21 (s15 + 2) σ20)) (fun J17 => WJ (fun (s124 : Unit) (σ125 : IS) => J17 0 σ125) (fun J122 => if s15 < 0 then J122 () σ16 else w_KReader_says L s15 1152 (fun v128 σ127 => if v128 = 0 then J122 () σ127 else J17 1 σ127) σ16))) (fun J13 => if enc (mvo p ko) < 0 then J13 (-1) ρ else w_KReader_anySpaces L (enc (mvo p ko)) (fun v132 σ131 => J13 v132 σ131) ρ) := fun hko => by
      rw [k2, hko] at etg
      refine WJ_dir ?_
      cases ko with
      | none =>
        have et : tgk T e 0 = none := etg
        rw [if_pos ((hneg none).mpr rfl)]
        dsimp only
        refine WJ_dir ?_
        refine WJ_dir ?_
        rw [if_pos (by decide)]
        dsimp only
        refine WJ_dir ?_
        rw [if_pos rfl]
        refine kr_word hK hS none rfl (fun i hi => by cases hi) ti_1124 ?_
        have := h 0 (Or.inl rfl) (fun k hk => by rw [et] at hk; cases hk)
        rw [et] at this
        exact this
      | some i =>
        have hie := k1 i rfl
        have hi3 := k3 i rfl
        rw [if_neg (fun z => by have := (hneg _).mp z; cases this)]
        refine kr_asp hK hS (some i) rfl k1 ?_
        have easp : asp T e (some i) = some (sk isSp T e i) := rfl
        have hyl := sk_le (p := isSp) (T := T) hie
        rw [easp] at etg ⊢
        generalize hy : sk isSp T e i = y at *
        have ey : enc (mvo p (some y)) = ((p + y : Nat) : Int) := rfl
        rw [ey]
        dsimp only
        refine WJ_dir ?_
        refine WJ_dir ?_
        rw [if_neg (by omega)]
        refine kr_says hK hS y rfl hyl.2 ti_1152 ?_
        have etg' : tgk T e 0 = wd T e [62] (if mt T e y [47] = true then some (y + 1) else some y) := etg
        have e2 : mt T e y [47, 62] = (mt T e y [47] && mt T e (y + 1) [62]) := by
          show ((lk T e y == 47) && ((lk T e (y + 1) == 62) && true)) = (((lk T e y == 47) && true) && ((lk T e (y + 1) == 62) && true))
          rw [Bool.and_true, Bool.and_true]
        cases hm : mt T e y [47, 62] with
        | true =>
          rw [hm] at e2
          have e3 := Bool.and_eq_true _ _ ▸ e2.symm
          have hm1 : mt T e y [47] = true := by
            cases hq : mt T e y [47] with
            | true => rfl
            | false => rw [hq] at e2; cases e2
          have hm2 : mt T e (y + 1) [62] = true := by
            rw [hm1] at e2
            exact e2.symm
          rw [if_pos hm1, wd_mt, if_pos hm2] at etg'
          rw [if_neg (by decide)]
          dsimp only
          refine WJ_dir ?_
          rw [if_neg (by decide)]
          refine ⟨⟨by omega, by omega⟩, ?_⟩
          have h47 := lk_lt (by decide) (mt_hd hm1)
          have := h 1 (Or.inr rfl) (fun k hk => by
            rw [etg'] at hk
            have hk' : y + 1 + 1 = k := Option.some.inj hk
            refine ⟨fun z => absurd z (by decide), fun z => absurd ?_ z⟩
            rw [← hk', show y + 1 + 1 - 2 = y by omega]
            exact h47.2)
          rw [etg'] at this
          have e5 : ((p + y : Nat) : Int) + 2 = ((p + (y + 1 + 1) : Nat) : Int) := by omega
          show CONT 1 (((p + y : Nat) : Int) + 2) ρ
          rw [e5]
          exact this
        | false =>
          rw [hm] at e2
          rw [if_pos (by decide)]
          dsimp only
          refine WJ_dir ?_
          rw [if_pos rfl]
          refine kr_word hK hS (some y) rfl (fun q hq => by cases hq; exact hyl.2) ti_1124 ?_
          have ew : wd T e [62] (some y) = tgk T e 0 := by
            rw [etg']
            by_cases c47 : mt T e y [47] = true
            · rw [if_pos c47]
              rw [c47] at e2
              have hm2 : mt T e (y + 1) [62] = false := e2.symm
              rw [wd_c (mt_hd c47) (by decide), wd_mt, if_neg (by rw [hm2]; decide)]
            · rw [if_neg c47]
          rw [ew]
          refine h 0 (Or.inl rfl) (fun k hk => ⟨fun _ => ?_, fun _ => rfl⟩)
          rw [← ew] at hk
          have hk1 := wd1 (by decide) hk
          rw [hk1.1, show y + 1 - 2 = y - 1 by omega]
          by_cases cy : i < y
          · exact sp_last hy cy
          · rw [show y = i by omega]
            exact hi3.2
    refine WJ_dir ?_
    cases hsp : spc T e ko with
    | none =>
      rw [if_pos ((hneg none).mpr rfl)]
      refine fin_ ?_
      cases ko with
      | none => rfl
      | some i =>
        show atk T e (e + 1) i = some i
        rw [atk_step (k1 i rfl), hsp]
    | some xx =>
      have hxe : ple e (some xx) := by rw [← hsp]; exact spc_le k1
      rw [if_neg (fun z => by have := (hneg _).mp z; cases this)]
      refine kr_name hK hS (some xx) rfl hxe ?_
      cases ko with
      | none => cases hsp
      | some i =>
        have hst := atk_step (T := T) (e := e) (k1 i rfl)
        rw [hsp] at hst
        cases hnm : nmg T e true (some xx) with
        | none =>
          rw [if_pos ((hneg none).mpr rfl)]
          refine fin_ ?_
          show atk T e (e + 1) i = some i
          rw [hst]
          show (match nmg T e true (some xx) with
            | none => some i
            | some b => _) = _
          rw [hnm]
        | some b =>
          have hbl := nmg_lt hnm
          have pb : ple e (some b) := fun q hq => by cases hq; exact hbl.2.2
          rw [if_neg (fun z => by have := (hneg _).mp z; cases this)]
          refine kr_name hK hS (some xx) rfl hxe ?_
          rw [hnm]
          refine kr_equal hK hS (some b) rfl pb ?_
          refine kr_value hK hc hS _ rfl (eqs_le pb) ?_
          refine kr_spc hK hS _ rfl vlp_le ?_
          have hst2 : atk T e (e + 1) i = match vlp T e (eqs T e (some b)) with
              | none => none
              | some j => atk T e (e + 1) j := by
            rw [hst]
            show (match nmg T e true (some xx) with
              | none => some i
              | some b => match vlp T e (eqs T e (some b)) with
                | none => none
                | some j => atk T e (e + 1) j) = _
            rw [hnm]
          refine hI _ _ ⟨rfl, vlp T e (eqs T e (some b)), rfl, vlp_le, ?_, fun q hq => ?_⟩ ?_
          · rw [k2]
            show atk T e (e + 1) i = _
            rw [hst2]
            cases vlp T e (eqs T e (some b)) <;> rfl
          · cases heq : eqs T e (some b) with
            | none => rw [heq] at hq; cases hq
            | some vq =>
              rw [heq] at hq
              have hg := vlp_gt hq
              refine ⟨by omega, ?_⟩
              have hq' : (if isQt (lk T e vq) = true then vlg T e (T vq) (e + 1) (vq + 1) else none) = some q := hq
              by_cases cq : isQt (lk T e vq) = true
              · rw [if_pos cq] at hq'
                have := (vlg_le _ _ _ hq').2.2
                rw [this]
                unfold isQt at cq
                rw [Bool.or_eq_true, beq_iff_eq, beq_iff_eq] at cq
                rcases cq with y | y
                · rw [(lk_lt (by decide) y).2]; decide
                · rw [(lk_lt (by decide) y).2]; decide
              · rw [if_neg cq] at hq'; cases hq'
          · show (if enc (mvo p (vlp T e (eqs T e (some b)))) < 0 then 0 else (((p + e + 2 : Nat) : Int) - enc (mvo p (vlp T e (eqs T e (some b))))).toNat) < (if enc (mvo p (some i)) < 0 then 0 else (((p + e + 2 : Nat) : Int) - enc (mvo p (some i))).toNat)
            have hie := k1 i rfl
            rw [if_neg (show ¬ enc (mvo p (some i)) < 0 from (fun z => by have := (hneg _).mp z; cases this)), show enc (mvo p (some i)) = ((p + i : Nat) : Int) from rfl]
            cases hvq : vlp T e (eqs T e (some b)) with
            | none => rw [if_pos ((hneg none).mpr rfl)]; omega
            | some q =>
              rw [if_neg (show ¬ enc (mvo p (some q)) < 0 from (fun z => by have := (hneg _).mp z; cases this)), show enc (mvo p (some q)) = ((p + q : Nat) : Int) from rfl]
              have hbi : i < q := by
                cases heq : eqs T e (some b) with
                | none => rw [heq] at hvq; cases hvq
                | some vq =>
                  rw [heq] at hvq
                  have hg := vlp_gt hvq
                  have hb2 := (eqs_gt hbl.2.2 heq).1
                  have hx2 := (spc_gt hie hsp).1
                  omega
              have hqe := vlp_le q hvq
              omega
  · have hl := nmg_lt hi
    exact ⟨by omega, isNm_47 (nmg_all hi (i - 1) (by omega) (by omega))⟩
end Ktg
