/-! ===== items of the reference: the declaration ===== -/
/-- the name that the declaration keeps -/
def nmD (a : AS) : List Str := match dtn (gd (cur a)) (cur a).length 0, spc (gd (cur a)) (cur a).length (some 9), dtk (gd (cur a)) (cur a).length 0 with
  | some n, some s, some _ => if dtO (gd (cur a)) (cur a).length n = true then [] else [sl (gd (cur a)) s (n - s)]
  | _, _, _ => []
section Kdd
variable {L : Nat → Nat} {rm nd o : Nat} {σ τ : IS} {g g' : KG} {a a' A : AS} {Q : IS → Prop} {R : Int → IS → Prop} {T : Nat → Int} {x y v w : Int} {s : Str} {e : Nat}
/-- a string is kept, whatever the rest of the picture -/
theorem sp_K_bkZ {r p n : Nat} (hL : KLn L o rm nd) (h : KZ rm nd o σ g) (hr : r < 211 ∨ 215 < r) (hp : p + n ≤ L r ∧ L r ≤ 262144) (hx : x = (p : Int)) (hy : y = (n : Int)) (hs : sl (σ.2 r) p n = s) (hcap : kcS (gB g) s) (hq : ∀ v τ, Kn (kpS (gB g) s) v s → KZ rm nd o τ (kpS (gB g) s, g.2) → frB σ τ → R v τ) : w_KBook_keep L r x y R σ := by
  subst hx hy
  obtain ⟨⟨b1', b2, b3, b4⟩, -⟩ := id h
  refine sp_KBook_keep b1' hL.1 ⟨by omega, by omega, by omega, by omega⟩ (by omega) (fun z => by omega) (fun hn => ?_) (fun v τ hk => ?_)
  · rw [show Int.toNat (p : Int) = p from rfl, show Int.toNat (n : Int) = n from rfl, hs] at hn
    rcases hcap with c | c
    · obtain ⟨j, j1, j2⟩ := mem_gd c
      exact absurd ((b4 j j1).trans j2) (hn j (by omega))
    · have : s.length = n := by rw [← hs]; exact sl_ln
      omega
  · have hk' : kept σ τ s v := by rw [← hs]; exact hk
    exact hq v τ (h.kpt hL.2.1 hk').2 (h.kpt hL.2.1 hk').1 hk'.2.2.2.1
theorem outs_none {p : Nat} (h1 : ¬ mt T e p [83, 89, 83, 84, 69, 77] = true) (h2 : ¬ mt T e p [80, 85, 66, 76, 73, 67] = true) : outs T e (some p) = none := by
  have e1 : wd T e [83, 89, 83, 84, 69, 77] (some p) = none := by rw [wd_mt, if_neg h1]
  have e2 : wd T e [80, 85, 66, 76, 73, 67] (some p) = none := by rw [wd_mt, if_neg h2]
  unfold outs
  rw [e1, e2]
  rfl
theorem mt_hd {c : Int} {l : List Int} {p : Nat} (h : mt T e p (c :: l) = true) : lk T e p = c := by
  have h' : ((lk T e p == c) && mt T e (p + 1) l) = true := h
  rw [Bool.and_eq_true, beq_iff_eq] at h'
  exact h'.1
theorem dtb_none {k : Nat} {c : Int} (h : lk T e k = c) (h1 : c ≠ 91) (h2 : c ≠ 62) : dtb T e k = none := by
  unfold dtb
  rw [if_neg (fun z => h1 (h.symm.trans (mt_hd z)))]
  exact wd_c h h2
theorem dt_eq {n : Nat} : (dtE T e n).bind (dtb T e) = (asp T e (if outs T e (spc T e (some n)) = none then some n else outs T e (spc T e (some n)))).bind (dtb T e) ∧ ∀ k, (dtE T e n).bind (dtb T e) = some k → (dtO T e n = true ↔ outs T e (spc T e (some n)) ≠ none) := by
  have hsp : spc T e (some n) = if sk isSp T e n = n then none else some (sk isSp T e n) := rfl
  rw [hsp]
  by_cases c1 : sk isSp T e n = n
  · have h0 : dtO T e n = false := by
      unfold dtO
      rw [c1]
      simp
    rw [if_pos c1, if_pos (show outs T e none = none from rfl)]
    unfold dtE
    rw [h0, if_neg (by decide)]
    exact ⟨rfl, fun k _ => ⟨fun z => absurd z (by decide), fun z => absurd rfl z⟩⟩
  · rw [if_neg c1]
    by_cases c2 : mt T e (sk isSp T e n) [83, 89, 83, 84, 69, 77] = true ∨ mt T e (sk isSp T e n) [80, 85, 66, 76, 73, 67] = true
    · have h0 : dtO T e n = true := by
        unfold dtO
        rw [Bool.and_eq_true, Bool.or_eq_true, Bool.not_eq_true', beq_eq_false_iff_ne]
        exact ⟨c1, c2⟩
      unfold dtE
      rw [h0, if_pos rfl]
      cases ho : outs T e (some (sk isSp T e n)) with
      | none =>
        rw [if_pos rfl]
        have hno : dtb T e (sk isSp T e n) = none := by
          rcases c2 with y | y
          · exact dtb_none (mt_hd y) (by decide) (by decide)
          · exact dtb_none (mt_hd y) (by decide) (by decide)
        refine ⟨?_, fun k hk => by cases hk⟩
        show none = dtb T e (sk isSp T e n)
        exact hno.symm
      | some w =>
        rw [if_neg (by simp)]
        exact ⟨rfl, fun k _ => ⟨fun _ => by simp, fun _ => rfl⟩⟩
    · have h0 : dtO T e n = false := by
        unfold dtO
        rw [Bool.and_eq_false_iff, Bool.or_eq_false_iff]
        right
        constructor
        · cases hb : mt T e (sk isSp T e n) [83, 89, 83, 84, 69, 77] with
          | true => exact absurd (Or.inl hb) c2
          | false => rfl
        · cases hb : mt T e (sk isSp T e n) [80, 85, 66, 76, 73, 67] with
          | true => exact absurd (Or.inr hb) c2
          | false => rfl
      have hn := outs_none (T := T) (e := e) (p := sk isSp T e n) (fun z => c2 (Or.inl z)) (fun z => c2 (Or.inr z))
      rw [hn, if_pos rfl]
      unfold dtE
      rw [h0, if_neg (by decide)]
      exact ⟨rfl, fun k _ => ⟨fun z => absurd z (by decide), fun z => absurd rfl z⟩⟩
set_option maxHeartbeats 2000000 in
theorem qI_dtd (hL : KLn L o rm nd) (h : RK rm nd o σ g a) (hC : KC rm g a) (hm : 9 ≤ (cur a).length) (hcap : kcL (gB g) (nmD a)) (hq : KO rm nd o σ g Q (iDtd a) (nmD a) (fun _ => 0)) : w_KReader_declaration L Q σ := by
  obtain ⟨p, q, t, hF', h1, h2, hK, hc, hS, hp⟩ := h.at_ hL
  have hK2 := hK.2.2
  have ho := hL.2.1
  have l176 := hL.2.2.2.1
  unfold w_KReader_declaration
  rw [h1]
  have p9 : ple (cur a).length (some 9) := fun i hi => by cases hi; exact hm
  refine ⟨⟨by omega, by omega⟩, kr_spc hK hS (some 9) rfl p9 ?_⟩
  refine kr_name hK hS _ rfl (spc_le p9) ?_
  have edtn : dtn (gd (cur a)) (cur a).length 0 = nmg (gd (cur a)) (cur a).length true (spc (gd (cur a)) (cur a).length (some 9)) := rfl
  cases hs0 : spc (gd (cur a)) (cur a).length (some 9) with
  | none =>
    rw [hs0] at edtn
    have edtn' : dtn (gd (cur a)) (cur a).length 0 = none := edtn
    refine WJ_dir ?_
    rw [if_pos (show enc (mvo p (nmg (gd (cur a)) (cur a).length true none)) < 0 from (by show (-1 : Int) < 0; decide))]
    dsimp only
    refine kr_spc hK hS none rfl (fun i hi => by cases hi) ?_
    refine kr_outside hK hc hS none rfl (fun i hi => by cases hi) ?_
    refine kr_asp hK hS none rfl (fun i hi => by cases hi) ?_
    refine WJ_dir ?_
    refine WJ_dir ?_
    rw [if_pos (show enc (mvo p (asp (gd (cur a)) (cur a).length none)) < 0 from (by show (-1 : Int) < 0; decide))]
    dsimp only
    refine WJ_dir ?_
    refine WJ_dir ?_
    rw [if_pos (show enc (mvo p (asp (gd (cur a)) (cur a).length none)) < 0 from (by show (-1 : Int) < 0; decide))]
    dsimp only
    refine sp_K_written (x := none) rfl h.f3 (fun _ => ?_) (fun k hk => by cases hk)
    rw [if_pos rfl]
    exact hq.1 5 (by unfold iDtd; rw [edtn']) _ pf_eq (pf_nk (by decide))
  | some s0 =>
    have hs0l : s0 ≤ (cur a).length := spc_le p9 _ hs0
    rw [hs0] at edtn
    cases hn0 : nmg (gd (cur a)) (cur a).length true (some s0) with
    | none =>
      rw [hn0] at edtn
      refine WJ_dir ?_
      rw [if_pos (show enc (mvo p none) < 0 from (by show (-1 : Int) < 0; decide))]
      dsimp only
      refine kr_spc hK hS none rfl (fun i hi => by cases hi) ?_
      refine kr_outside hK hc hS none rfl (fun i hi => by cases hi) ?_
      refine kr_asp hK hS none rfl (fun i hi => by cases hi) ?_
      refine WJ_dir ?_
      refine WJ_dir ?_
      rw [if_pos (show enc (mvo p (asp (gd (cur a)) (cur a).length none)) < 0 from (by show (-1 : Int) < 0; decide))]
      dsimp only
      refine WJ_dir ?_
      refine WJ_dir ?_
      rw [if_pos (show enc (mvo p (asp (gd (cur a)) (cur a).length none)) < 0 from (by show (-1 : Int) < 0; decide))]
      dsimp only
      refine sp_K_written (x := none) rfl h.f3 (fun _ => ?_) (fun k hk => by cases hk)
      rw [if_pos rfl]
      exact hq.1 5 (by unfold iDtd; rw [edtn]) _ pf_eq (pf_nk (by decide))
    | some n =>
      rw [hn0] at edtn
      have hnl := nmg_lt hn0
      refine WJ_dir ?_
      rw [if_neg (show ¬ enc (mvo p (some n)) < 0 from (by show ¬ ((p + n : Nat) : Int) < 0; omega)), h1]
      refine ⟨⟨by omega, by omega⟩, kr_spc hK hS (some 9) rfl p9 ?_⟩
      rw [hs0]
      refine kr_spc hK hS (some n) rfl (fun i hi => by cases hi; exact hnl.2.2) ?_
      have psp : ple (cur a).length (spc (gd (cur a)) (cur a).length (some n)) := spc_le (fun i hi => by cases hi; exact hnl.2.2)
      refine kr_outside hK hc hS _ rfl psp ?_
      obtain ⟨d1, d2⟩ := dt_eq (T := gd (cur a)) (e := (cur a).length) (n := n)
      have edtk : dtk (gd (cur a)) (cur a).length 0 = (dtE (gd (cur a)) (cur a).length n).bind (dtb (gd (cur a)) (cur a).length) := by
        unfold dtk
        rw [edtn]
        rfl
      rw [← edtk] at d1 d2
      generalize hO : outs (gd (cur a)) (cur a).length (spc (gd (cur a)) (cur a).length (some n)) = O at *
      have pO : ple (cur a).length O := by rw [← hO]; exact outs_le
      have pX : ple (cur a).length (if O = none then some n else O) := by
        split
        · exact fun i hi => by cases hi; exact hnl.2.2
        · exact pO
      have eX : (if enc (mvo p O) < 0 then enc (mvo p (some n)) else enc (mvo p O)) = enc (mvo p (if O = none then some n else O)) := by
        cases O with
        | none => rfl
        | some z => rw [if_neg (show ¬ enc (mvo p (some z)) < 0 from (by show ¬ ((p + z : Nat) : Int) < 0; omega)), if_neg (by simp)]
      rw [eX]
      refine kr_asp hK hS _ rfl pX ?_
      have haX : ∃ X, asp (gd (cur a)) (cur a).length (if O = none then some n else O) = some X ∧ X ≤ (cur a).length := by
        cases O with
        | none => exact ⟨_, rfl, (sk_le hnl.2.2).2⟩
        | some z => exact ⟨_, rfl, (sk_le (pO z rfl)).2⟩
      obtain ⟨X, hX, hXl⟩ := haX
      rw [hX] at d1 ⊢
      have d1' : dtk (gd (cur a)) (cur a).length 0 = dtb (gd (cur a)) (cur a).length X := d1
      have eX2 : enc (mvo p (some X)) = ((p + X : Nat) : Int) := rfl
      rw [eX2]
      refine WJ_dir ?_
      refine WJ_dir ?_
      rw [if_neg (by omega)]
      refine kr_look hK hS X rfl ?_
      -- how it goes on
      have main : ∀ b : Int, (b = 0 ∨ b = 1) → (b = 1 ↔ lk (gd (cur a)) (cur a).length X = 91) → (lk (gd (cur a)) (cur a).length X = 91 ∨ lk (gd (cur a)) (cur a).length X = 62) → w_KReader_written L ((p + X : Nat) : Int) (fun v24 σ23 => if v24 = 0 then Q σ23 else if enc (mvo p O) < 0 then inR (enc (mvo p (some n)) - enc (mvo p (some s0))) ∧ w_KReader_keep L (enc (mvo p (some s0))) (enc (mvo p (some n)) - enc (mvo p (some s0))) (fun v28 σ27 => inR (((p + X : Nat) : Int) + 1) ∧ Q (pf (pf (pf σ27 16 24 v28) 16 16 (((p + X : Nat) : Int) + 1)) 16 19 (if b = 0 then (0 : Int) else (1 : Int)))) (pf σ23 16 20 1) else w_KReader_fail L 3 (fun v36 σ35 => Q σ35) σ23) σ := fun b hb1 hb2 hb3 => by
        have hXe : X < (cur a).length ∧ lk (gd (cur a)) (cur a).length X = gd (cur a) X := by
          rcases hb3 with y | y
          · have := lk_lt (by decide) y; exact ⟨this.1, y.trans this.2.symm⟩
          · have := lk_lt (by decide) y; exact ⟨this.1, y.trans this.2.symm⟩
        have hdk : dtk (gd (cur a)) (cur a).length 0 = some (X + 1) := by
          rw [d1']
          unfold dtb
          rcases hb3 with y | y
          · rw [if_pos (by rw [mt_1, y]; rfl)]
          · rw [if_neg (by rw [mt_1, y]; decide), wd_mt, if_pos (by rw [mt_1, y]; rfl)]
            rfl
        refine sp_K_written (x := some (p + X)) rfl h.f3 (fun hk => by cases hk) (fun k0 hk0 hv0 => ?_)
        rw [if_neg (by decide)]
        have d2' := d2 _ hdk
        have hid : iDtd a = if dtO (gd (cur a)) (cur a).length n = true then .inl 3 else .inr (adv (sN (sR a (some (sl (gd (cur a)) s0 (n - s0)))) 4 (if gd (cur a) (X + 1 - 1) = 91 then 1 else 0)) (X + 1)) := by
          unfold iDtd
          rw [edtn, hs0, hdk]
        cases hOO : O with
        | some z =>
          rw [if_neg (show ¬ enc (mvo p (some z)) < 0 from (by show ¬ ((p + z : Nat) : Int) < 0; omega))]
          refine sp_K_fail h.f3 ?_
          rw [if_pos (d2'.mpr (by rw [hOO]; simp))] at hid
          exact hq.1 3 hid _ pf_eq (pf_nk (by decide))
        | none =>
          rw [if_pos (show enc (mvo p none) < 0 from (by show (-1 : Int) < 0; decide))]
          have hdO : ¬ dtO (gd (cur a)) (cur a).length n = true := fun z => (d2'.mp z) hOO
          rw [if_neg hdO] at hid
          have hnm : nmD a = [sl (gd (cur a)) s0 (n - s0)] := by
            unfold nmD
            rw [edtn, hs0, hdk]
            exact if_neg hdO
          rw [hnm] at hcap hq
          have e2 : enc (mvo p (some n)) - enc (mvo p (some s0)) = ((n - s0 : Nat) : Int) := by show ((p + n : Nat) : Int) - ((p + s0 : Nat) : Int) = _; omega
          have e3 : enc (mvo p (some s0)) = ((p + s0 : Nat) : Int) := rfl
          rw [e2, e3]
          refine ⟨⟨by omega, by omega⟩, ?_⟩
          have esl : sl (σ.2 176) (p + s0) (n - s0) = sl (gd (cur a)) s0 (n - s0) := sh_sl hS (by omega)
          have hZ0 : KZ rm nd o (pf σ 16 20 1) g := h.1.dep ho (fun pp kk x => by rw [pf_1, if_neg (by omega)]) (fun r x => rfl)
          refine ⟨by rw [pf_nk (by decide)]; exact (h.dy ho).2, sp_K_bkZ (p := p + s0) (n := n - s0) hL hZ0 (Or.inl (by decide)) ⟨by omega, by omega⟩ rfl rfl esl hcap.1 (fun v28 τ hv1 hZ1 hf1 => ?_)⟩
          refine ⟨⟨by omega, by omega⟩, ?_⟩
          generalize hsn : sl (gd (cur a)) s0 (n - s0) = s at *
          generalize hph : (if gd (cur a) (X + 1 - 1) = 91 then 1 else 0) = ph at hid
          have hbv : (if b = 0 then (0 : Int) else 1) = (ph : Int) := by
            rw [← hph, Nat.add_sub_cancel, ← hXe.2]
            by_cases cb : b = 1
            · rw [if_neg (by omega), if_pos (hb2.mp cb)]; rfl
            · rw [if_pos (by omega), if_neg (fun z => cb (hb2.mpr z))]; rfl
          rw [hbv]
          have hfin : RK rm nd o (pf (pf (pf τ 16 24 v28) 16 16 (((p + X : Nat) : Int) + 1)) 16 19 (ph : Int)) (kpS (gB g) s, g.2) (sN (sR (adv a (X + 1)) (some s)) 4 ph) := by
            have hg := h.go hL (k := X + 1) (by omega)
            have h0 := h
            have h := hg
            have hF : ∀ pp kk, ¬ ((pp = 13 ∧ (kk = 1 ∨ kk = 6)) ∨ (pp = 16 ∧ (kk = 24 ∨ kk = 19 ∨ kk = 20))) → (pf (pf (pf τ 16 24 v28) 16 16 (((p + X : Nat) : Int) + 1)) 16 19 (ph : Int)).1 pp kk = (pf σ 16 16 (σ.1 16 16 + ((X + 1 : Nat) : Int))).1 pp kk := fun pp kk z => by
              rw [pf_1, if_neg (by omega), pf_1, pf_1]
              by_cases c : pp = 16 ∧ kk = 16
              · rw [if_pos c, pf_1, if_pos c, h1]; omega
              · rw [if_neg c, pf_1, if_neg (by omega), if_neg c, hf1.1 pp kk (by omega), pf_1, if_neg (by omega)]
            have hR : ∀ r : Nat, ¬ (211 ≤ r ∧ r ≤ 215) → (pf (pf (pf τ 16 24 v28) 16 16 (((p + X : Nat) : Int) + 1)) 16 19 (ph : Int)).2 r = (pf σ 16 16 (σ.1 16 16 + ((X + 1 : Nat) : Int))).2 r := fun r z => funext (fun i => hf1.2 r i (by omega))
            have hZ2 : KZ rm nd o (pf (pf (pf τ 16 24 v28) 16 16 (((p + X : Nat) : Int) + 1)) 16 19 (ph : Int)) (kpS (gB g) s, g.2) := hZ1.dep ho (fun pp kk x => by rw [pf_1, if_neg (by omega), pf_1, if_neg (by omega), pf_1, if_neg (by omega)]) (fun r x => rfl)
            obtain ⟨n1, n2, n3, n4, n5, n6, n7⟩ := h0.2.2.2.1
            refine (RK.mk' ho h kpS_pre cle.refl cle.refl hZ2 (Or.inl ⟨fun k x y => hF 16 k (by omega), fun r x y => hR r (by omega), rfl⟩) (Or.inl ⟨hF 16 32 (by omega), fun r x y => hR r (by omega), rfl, rfl⟩) (Or.inr ?_) (Or.inr ?_) (Or.inl ⟨hF 16 40 (by omega), hF 16 47 (by omega), hF 16 58 (by omega), fun r x => hR r (by omega), rfl⟩) (Or.inl ⟨hF 16 56 (by omega), hF 16 58 (by omega), fun r x y => hR r (by omega), rfl⟩) (Or.inl ⟨hF 16 34 (by omega), hR 187 (by omega), rfl⟩) (Or.inl ⟨hF o 7 (by omega), fun k x y => hR _ (by have := rf_3 ho x y; omega), rfl⟩) (Or.inl ⟨hF 16 64 (by omega), hF 16 66 (by omega), fun r x y => hR r (by omega), hR 181 (by omega), rfl, rfl, rfl⟩) (Or.inl ⟨hF o 14 (by omega), fun k x y => hR _ (by have := rf_8 ho x y; omega), rfl, rfl⟩) (Or.inl ⟨fun k x => hF o k (by omega), hR _ (by have := rf_1 ho; omega), rfl, rfl, rfl⟩) (hF 16 3 (by omega)) (Or.inl ⟨hF 16 18 (by omega), hR 178 (by omega), rfl, rfl, rfl, hF 16 47 (by omega), hF 16 58 (by omega), rfl, rfl⟩))
            · have e25 := (hF 16 25 (by omega)).trans (pf_nk (by decide))
              have e26 := (hF 16 26 (by omega)).trans (pf_nk (by decide))
              have e21 := (hF 16 21 (by omega)).trans (pf_nk (by decide))
              have e22 := (hF 16 22 (by omega)).trans (pf_nk (by decide))
              have r1 := rf_1 ho
              have e19 := hR (rfo o 19) (by omega)
              have hNa : aN (adv a (X + 1)) = aN a := (adv_other).2.1
              unfold KNu
              rw [e25, e26, e21, e22, e19]
              show σ.1 16 25 = (aN (adv a (X + 1)) 0 : Int) ∧ σ.2 (rfo o 19) 5 = (aN (adv a (X + 1)) 2 : Int) ∧ σ.1 16 26 = (aN (adv a (X + 1)) 3 : Int) ∧ _ ∧ (σ.1 16 21 = if aN (adv a (X + 1)) 5 = 1 then 1 else 0) ∧ (σ.1 16 22 = if aN (adv a (X + 1)) 6 = 0 then 0 else 1) ∧ _
              rw [hNa]
              exact ⟨n1, n2, n3, pf_eq, n5, n6, n7⟩
            · refine ⟨?_, fun s' hs' => ?_⟩
              · rw [pf_nk (by decide), pf_nk (by decide), pf_nk (by decide), hf1.1 16 20 (by omega), pf_eq]
                rfl
              · have : s' = s := (Option.some.inj hs').symm
                rw [this, pf_nk (by decide), pf_nk (by decide), pf_eq]
                exact hv1
          have eA : adv (sN (sR a (some s)) 4 ph) (X + 1) = sN (sR (adv a (X + 1)) (some s)) 4 ph := by
            unfold adv
            show (match aF a with
              | [] => sN (sR a (some s)) 4 ph
              | f :: t => sF (sN (sR a (some s)) 4 ph) ((f.1.drop (X + 1), f.2) :: t)) = _
            rw [hF']
            rfl
          rw [eA] at hid
          have hr3 : rem (adv a (X + 1)) + (X + 1) = rem a := rem_adv (by omega)
          have hNa : aN (adv a (X + 1)) = aN a := (adv_other).2.1
          obtain ⟨c1, c2, c3, c4⟩ := hC
          refine hq.2 _ hid _ _ hfin rfl (fun _ => rfl) (fun _ _ => rfl) ⟨?_, ?_, ?_, ?_⟩ (by rw [pf_nk (by decide), pf_nk (by decide), pf_nk (by decide), hf1.1 16 4 (by omega), pf_nk (by decide)]) (by rw [pf_nk (by decide), pf_nk (by decide), pf_nk (by decide), hf1.1 16 15 (by omega), pf_nk (by decide)]; omega)
          · show (gP g).length + rem (adv a (X + 1)) ≤ aN (adv a (X + 1)) 0
            rw [hNa]; omega
          · show (gC g).length + rem (adv a (X + 1)) ≤ aN (adv a (X + 1)) 8 + aN (adv a (X + 1)) 0
            rw [hNa]; omega
          · show aN (adv a (X + 1)) 0 ≤ rm
            rw [hNa]; exact c3
          · show gV g 22 = aN (adv a (X + 1)) 1
            rw [hNa]; exact c4
      by_cases c91 : lk (gd (cur a)) (cur a).length X = 91
      · rw [if_pos c91]
        dsimp only
        refine WJ_dir ?_
        refine WJ_dir ?_
        rw [if_neg (by omega)]
        refine WJ_dir ?_
        rw [if_neg (by decide)]
        exact main 1 (Or.inr rfl) ⟨fun _ => c91, fun _ => rfl⟩ (Or.inl c91)
      · rw [if_neg c91]
        dsimp only
        refine WJ_dir ?_
        refine WJ_dir ?_
        rw [if_neg (by omega)]
        refine WJ_dir ?_
        rw [if_pos rfl]
        refine kr_look hK hS X rfl ?_
        by_cases c62 : lk (gd (cur a)) (cur a).length X = 62
        · rw [if_pos c62]
          exact main 0 (Or.inl rfl) ⟨fun z => absurd z (by decide), fun z => absurd z c91⟩ (Or.inr c62)
        · rw [if_neg c62]
          refine sp_K_written (x := none) rfl h.f3 (fun _ => ?_) (fun k hk => by cases hk)
          rw [if_pos rfl]
          refine hq.1 5 ?_ _ pf_eq (pf_nk (by decide))
          have : dtk (gd (cur a)) (cur a).length 0 = none := by rw [d1']; exact dtb_none rfl c91 c62
          unfold iDtd
          rw [edtn, hs0, this]
end Kdd
