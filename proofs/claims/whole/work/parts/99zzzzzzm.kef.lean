/-! ===== items of the reference: a declared element, whole ===== -/
section Kef
variable {L : Nat → Nat} {rm nd o : Nat} {σ ρ τ : IS} {g g' g2 : KG} {a : AS} {Q : IS → Prop} {R : Int → IS → Prop} {bk bk' : List Str} {ed : List EDc} {x : EDc} {v : Int}
theorem kcL_hd {l l' : List Str} {s : Str} (h : kcL bk (l ++ s :: l')) : kcS (kpL bk l) s := (kcL_app.mp h).2.1
theorem fEi_mem {s : Str} : (fEi ed s).isSome = true ↔ s ∈ (fE ed).map (fun y => y.1) := edf_mem
theorem cnt_le {T : Nat → Int} {e c z : Nat} (hc : c ≤ e) (h : cnt T e c = some z) : z ≤ e := by
  unfold cnt at h
  by_cases c0 : cnK T e c = 0
  · rw [if_pos c0] at h
    have hm : mt T e c [69, 77, 80, 84, 89] = true := by
      unfold cnK at c0
      split at c0
      · assumption
      · split at c0
        · omega
        · split at c0 <;> omega
    have := mt_le _ c (by decide) hc hm
    rw [← Option.some.inj h]
    exact this
  · rw [if_neg c0] at h
    by_cases c1 : cnK T e c = 1
    · rw [if_pos c1] at h
      have hm : mt T e c [65, 78, 89] = true := by
        unfold cnK at c1
        split at c1
        · omega
        · split at c1
          · assumption
          · split at c1 <;> omega
      have := mt_le _ c (by decide) hc hm
      rw [← Option.some.inj h]
      exact this
    · rw [if_neg c1] at h
      by_cases c2 : cnK T e c = 2
      · rw [if_pos c2] at h
        have hp : mt T e (sk isSp T e (c + 1)) [35, 80, 67, 68, 65, 84, 65] = true := by
          unfold cnK at c2
          split at c2
          · omega
          · split at c2
            · omega
            · split at c2
              · assumption
              · omega
        by_cases c4 : mt T e c [40] = true
        · rw [if_pos c4] at h
          have h1 := mt_le _ c (by decide) hc c4
          have h1' : ([40] : List Int).length = 1 := rfl
          have h2 := sk_le (p := isSp) (T := T) (show c + 1 ≤ e by omega)
          have h3 := mt_le _ _ (by decide) h2.2 hp
          exact (mxk_le _ _ _ _ h3 h).2
        · rw [if_neg c4] at h; cases h
      · rw [if_neg c2] at h
        cases hr : mdl T e c with
        | none => rw [hr] at h; cases h
        | some r =>
          rw [hr] at h
          have hz : r.1 = z := Option.some.inj h
          unfold mdl at hr
          by_cases c4 : mt T e c [40] = true
          · rw [if_pos c4] at hr
            have h1 := mt_le _ c (by decide) hc c4
            have h1' : ([40] : List Int).length = 1 := rfl
            have := (mdk_le _ _ _ _ _ _ _ (by omega) hr).2.1
            omega
          · rw [if_neg c4] at hr; cases hr
set_option maxHeartbeats 8000000 in
theorem qI_eld (hL : KLn L o rm nd) (h : RK rm nd o σ g a) (hG : GK rm nd a) (hC : KC rm g a) (hm : 9 ≤ (cur a).length) (h65 : (cur a).length ≤ 65536) (hdl : (aD a).length < 8300) (hnd : nNd (aD a) + elB a ≤ 50000) (hnls : nLs (aD a) (aA a) + (nmX (gd (cur a)) (cur a).length (elc (gd (cur a)) (cur a).length 0)).length ≤ 50000) (hV : ∀ k, gV g k ≤ 800000000) (hcap : kcL (gB g) (nmEl a)) (hq : KO rm nd o σ g Q (iEld a) (nmEl a) (dvE a)) : w_KReader_element L Q σ := by
  obtain ⟨p, q, t, hF', h1, h2, hK, hc, hS, hp⟩ := h.at_ hL
  have hK2 := hK.2.2
  have ho := hL.2.1
  have r1 := rf_1 ho
  have l176 := hL.2.2.2.1
  have l9 := hL.2.2.2.2.2.2.2.2.1
  have l189 := l9 189 (by omega) (by omega)
  have l190 := l9 190 (by omega) (by omega)
  have l191 := l9 191 (by omega) (by omega)
  have l192 := l9 192 (by omega) (by omega)
  have hL9 := hL.2.2.2.2.2.2.2.2.2.1
  have h17 := hL.2.2.2.2.2.2.2.2.2.2.2.2.2.1
  have l18 : L (rfo o 18) = 23 := hL.2.2.2.2.2.2.2.2.2.2.2.2.2.2.2.2.2.2.2.1
  obtain ⟨d1, d2⟩ := h.dy ho
  have d2o : dyD (o : Int) := by rw [← d1]; exact d2
  have hn := h.1.2.1
  have hpl := h.pl
  have hEd : KEd σ (gB g) (aD a) := h.2.2.2.2.2.1
  have hfl := fE_len _ (aD a) rfl
  have hstd : iEld a = match spc (gd (cur a)) (cur a).length (some 9), elk (gd (cur a)) (cur a).length 0 with
    | some s, some k => (match nmg (gd (cur a)) (cur a).length true (some s), elc (gd (cur a)) (cur a).length 0 with
      | some n, some c => if cnK (gd (cur a)) (cur a).length c = 3 ∧ (255 < ((mdl (gd (cur a)) (cur a).length c).getD (0, 0, 0)).2.1 ∨ 60 < ((mdl (gd (cur a)) (cur a).length c).getD (0, 0, 0)).2.2) then .inl 4
        else .inr (adv (sD a (aD a ++ [(sl (gd (cur a)) s (n - s), cnK (gd (cur a)) (cur a).length c, sl (gd (cur a)) c (k - c))])) k)
      | _, _ => .inl 5)
    | _, _ => .inl 5 := rfl
  have hnE : nmEl a = nmX (gd (cur a)) (cur a).length (elc (gd (cur a)) (cur a).length 0) ++ (match spc (gd (cur a)) (cur a).length (some 9), elk (gd (cur a)) (cur a).length 0, elc (gd (cur a)) (cur a).length 0 with
    | some s, some _, some c => (match nmg (gd (cur a)) (cur a).length true (some s) with
      | none => []
      | some n => sl (gd (cur a)) s (n - s) :: (if cnK (gd (cur a)) (cur a).length c = 3 then bnm (gd (cur a)) ((mdl (gd (cur a)) (cur a).length c).getD (0, 0, 0)).1 (((mdl (gd (cur a)) (cur a).length c).getD (0, 0, 0)).1 + 1) c else []))
    | _, _, _ => []) := rfl
  have hdE : ∀ k, dvE a k = (match spc (gd (cur a)) (cur a).length (some 9), elk (gd (cur a)) (cur a).length 0, elc (gd (cur a)) (cur a).length 0 with
    | some s, some kk, some c => (match nmg (gd (cur a)) (cur a).length true (some s) with
      | none => 0
      | some n => dvX (aD a) (sl (gd (cur a)) s (n - s), cnK (gd (cur a)) (cur a).length c, sl (gd (cur a)) c (kk - c)) k)
    | _, _, _ => 0) := fun k => rfl
  have hBE : elB a = (match elk (gd (cur a)) (cur a).length 0, elc (gd (cur a)) (cur a).length 0 with
    | some kk, some c => if cnK (gd (cur a)) (cur a).length c = 3 then (bldN ([], 3, sl (gd (cur a)) c (kk - c))).length else 0
    | _, _ => 0) := rfl
  have heke : elk (gd (cur a)) (cur a).length 0 = wd (gd (cur a)) (cur a).length [62] (asp (gd (cur a)) (cur a).length ((elc (gd (cur a)) (cur a).length 0).bind (cnt (gd (cur a)) (cur a).length))) := rfl
  have hece : elc (gd (cur a)) (cur a).length 0 = spc (gd (cur a)) (cur a).length (nmg (gd (cur a)) (cur a).length true (spc (gd (cur a)) (cur a).length (some 9))) := rfl
  have hrem : ∀ k, k ≤ (cur a).length → rem (adv a k) + k = rem a := fun k hk => rem_adv hk
  have hgo : ∀ {υ : IS} {gg : KG} {y : EDc} {k : Nat}, RK rm nd o υ gg (sD a (aD a ++ [y])) → k ≤ (cur a).length → RK rm nd o (pf υ 16 16 (υ.1 16 16 + (k : Int))) gg (adv (sD a (aD a ++ [y])) k) := fun hh hk => hh.go hL hk
  have hremD : ∀ (y : EDc) (k : Nat), k ≤ (cur a).length → rem (adv (sD a (aD a ++ [y])) k) + k = rem a := fun y k hk => rem_adv (a := sD a (aD a ++ [y])) hk
  generalize hTT : gd (cur a) = T at *
  generalize hEE : (cur a).length = e at *
  have h9 : ple e (some 9) := fun i hi => by cases hi; exact hm
  unfold w_KReader_element
  rw [h1]
  refine ⟨⟨by omega, by omega⟩, kr_spc hK hS (some 9) rfl h9 ?_⟩
  refine kr_name hK hS _ rfl (spc_le h9) ?_
  refine kr_spc hK hS _ rfl nmg_le ?_
  rw [← hece, hpl.2.2.1, hpl.2.2.2]
  generalize hn0 : nNd (aD a) = n0 at *
  generalize hb : nLs (aD a) (aA a) = b at *
  have pcl : ple e (elc T e 0) := by rw [hece]; exact spc_le nmg_le
  have F0 : ∀ pp kk, ¬ (pp = 16 ∧ (kk = 76 ∨ kk = 77)) → (pf (pf σ 16 76 0) 16 77 0).1 pp kk = σ.1 pp kk := fun pp kk z => by rw [pf_1, if_neg (by omega), pf_1, if_neg (by omega)]
  have F6 : (pf (pf σ 16 76 0) 16 77 0).1 16 76 = 0 := by rw [pf_nk (by decide), pf_eq]
  have F7 : (pf (pf σ 16 76 0) 16 77 0).1 16 77 = 0 := pf_eq
  have R0 : (pf (pf σ 16 76 0) 16 77 0).2 = σ.2 := rfl
  generalize pf (pf σ 16 76 0) 16 77 0 = σ7 at *
  have hK7 : KT L σ7 (p + e) := by unfold KT; rw [F0 16 17 (by omega)]; exact hK
  have hS7 : SHT T (σ7.2 176) e p := by rw [R0]; exact hS
  have hZ7 : KZ rm nd o σ7 g := h.1.dep ho (fun pp kk z => F0 pp kk (by omega)) (fun r z => by rw [R0])
  refine kr_word hK7 hS7 (elc T e 0) rfl pcl ti_1125 ?_
  refine sp_el0 (b := b) (elc T e 0) hL hZ7 ⟨by rw [F0 16 58 (by omega), hpl.2.2.2, hb, List.length_nil]; rfl, fun k hk => absurd hk (Nat.not_lt_zero k)⟩ hK7 hS7 rfl rfl pcl h65 F6 F7 hnls (kcL_app.mp (by rw [← hnE]; exact hcap)).1 (fun me kd v ρ g2 hZρ eB e2 Fρ Rρ R7ρ hvv hfin => ?_)
  try dsimp only
  have hKρ : KT L ρ (p + e) := by unfold KT; rw [Fρ 16 17 (by omega)]; exact hK7
  have hSρ : SHT T (ρ.2 176) e p := by rw [Rρ 176 (by omega) (by omega) (by omega)]; exact hS7
  have pct : ple e ((elc T e 0).bind (cnt T e)) := by
    intro i hi
    cases hec : elc T e 0 with
    | none => rw [hec] at hi; cases hi
    | some c =>
      rw [hec] at hi pcl
      exact cnt_le (pcl c rfl) hi
  refine kr_asp hKρ hSρ _ hvv pct ?_
  refine kr_word hKρ hSρ _ rfl (asp_le pct) ti_1124 ?_
  rw [← heke]
  have f3ρ : ρ.1 16 3 = 0 := by rw [Fρ 16 3 (by omega), F0 16 3 (by omega)]; exact h.f3
  cases hk : elk T e 0 with
  | none =>
    refine sp_K_written (x := none) rfl f3ρ (fun _ => ?_) (fun k hk => by cases hk)
    rw [if_pos rfl]
    refine hq.1 5 ?_ _ pf_eq (by rw [pf_nk (by decide), Fρ 16 4 (by omega), F0 16 4 (by omega)])
    rw [hstd, hk]
    cases spc T e (some 9) <;> rfl
  | some k =>
  cases hec : elc T e 0 with
  | none => rw [hec] at heke; rw [heke] at hk; cases hk
  | some c =>
  have hce := pcl c hec
  cases hz : cnt T e c with
  | none =>
    rw [heke, hec] at hk
    have hk : wd T e [62] (asp T e (cnt T e c)) = some k := hk
    rw [hz] at hk
    cases hk
  | some z =>
  have hkw : wd T e [62] (asp T e (cnt T e c)) = some k := by
    rw [heke, hec] at hk
    exact hk
  have hze := cnt_le hce hz
  have hzg := cnt_gt hz
  have hkl : z < k ∧ k ≤ e := by
    have hk2 := hkw
    rw [hz] at hk2
    have easp : asp T e (some z) = some (sk isSp T e z) := rfl
    rw [easp] at hk2
    have := sk_le (p := isSp) (T := T) hze
    have := wd1 (by decide) hk2
    omega
  cases hs : spc T e (some 9) with
  | none => rw [hs] at hece; rw [hece] at hec; cases hec
  | some s =>
  cases hnm : nmg T e true (some s) with
  | none => rw [hs, hnm] at hece; rw [hece] at hec; cases hec
  | some n =>
  have hnl := nmg_lt hnm
  rw [hs, hk] at hstd
  have hstd : iEld a = (match nmg T e true (some s), elc T e 0 with
      | some n, some c => if cnK T e c = 3 ∧ (255 < ((mdl T e c).getD (0, 0, 0)).2.1 ∨ 60 < ((mdl T e c).getD (0, 0, 0)).2.2) then .inl 4
        else .inr (adv (sD a (aD a ++ [(sl T s (n - s), cnK T e c, sl T c (k - c))])) k)
      | _, _ => .inl 5) := hstd
  rw [hnm, hec] at hstd
  rw [hs, hk, hec] at hnE
  have hnE : nmEl a = nmX T e (some c) ++ (match nmg T e true (some s) with
      | none => []
      | some n => sl T s (n - s) :: (if cnK T e c = 3 then bnm T ((mdl T e c).getD (0, 0, 0)).1 (((mdl T e c).getD (0, 0, 0)).1 + 1) c else [])) := hnE
  rw [hnm] at hnE
  have hnE : nmEl a = nmX T e (some c) ++ sl T s (n - s) :: (if cnK T e c = 3 then bnm T ((mdl T e c).getD (0, 0, 0)).1 (((mdl T e c).getD (0, 0, 0)).1 + 1) c else []) := hnE
  have hstd : iEld a = if cnK T e c = 3 ∧ (255 < ((mdl T e c).getD (0, 0, 0)).2.1 ∨ 60 < ((mdl T e c).getD (0, 0, 0)).2.2) then .inl 4
        else .inr (adv (sD a (aD a ++ [(sl T s (n - s), cnK T e c, sl T c (k - c))])) k) := hstd
  have hdE : ∀ j, dvE a j = dvX (aD a) (sl T s (n - s), cnK T e c, sl T c (k - c)) j := fun j => by
    have := hdE j
    rw [hs, hk, hec] at this
    have this : dvE a j = (match nmg T e true (some s) with
      | none => 0
      | some n => dvX (aD a) (sl T s (n - s), cnK T e c, sl T c (k - c)) j) := this
    rw [hnm] at this
    exact this
  rw [hk, hec] at hBE
  have hBE : elB a = if cnK T e c = 3 then (bldN ([], 3, sl T c (k - c))).length else 0 := hBE
  rw [hec] at eB hfin
  obtain ⟨kd1, kd2, kd3, kd4⟩ := hfin c z rfl hz
  have hcap2 : kcL (gB g2) (sl T s (n - s) :: (if cnK T e c = 3 then bnm T ((mdl T e c).getD (0, 0, 0)).1 (((mdl T e c).getD (0, 0, 0)).1 + 1) c else [])) := by
    rw [hnE] at hcap
    rw [eB]
    exact (kcL_app.mp hcap).2
  refine sp_K_written (x := some (p + k)) rfl f3ρ (fun hk => by cases hk) (fun k0 hk0 hv0 => ?_)
  rw [if_neg (by decide)]
  -- too many names, or too deep
  refine WJ_of (fun (_ : Unit) υ => υ = ρ ∧ ¬ (cnK T e c = 3 ∧ (255 < ((mdl T e c).getD (0, 0, 0)).2.1 ∨ 60 < ((mdl T e c).getD (0, 0, 0)).2.2))) (fun J hJ => ?_) ?_
  · rw [kd1]
    by_cases c3 : cnK T e c = 3
    · rw [if_pos (by omega)]
      cases hr : mdl T e c with
      | none =>
        unfold cnt at hz
        rw [if_neg (by omega), if_neg (by omega), if_neg (by omega), hr] at hz
        cases hz
      | some r =>
        obtain ⟨k76, k77⟩ := kd4 c3 r hr
        rw [k76, k77]
        rw [hr] at hstd
        have hstd : iEld a = if cnK T e c = 3 ∧ (255 < r.2.1 ∨ 60 < r.2.2) then .inl 4 else .inr (adv (sD a (aD a ++ [(sl T s (n - s), cnK T e c, sl T c (k - c))])) k) := hstd
        by_cases cb : 255 < r.2.1 ∨ 60 < r.2.2
        · rw [if_pos ⟨c3, cb⟩] at hstd
          rw [if_pos (by
            rcases cb with w | w
            · exact Or.inl (by omega)
            · exact Or.inr (by rw [decide_eq_true w]; decide))]
          refine sp_K_fail f3ρ ?_
          exact hq.1 4 hstd _ pf_eq (by rw [pf_nk (by decide), Fρ 16 4 (by omega), F0 16 4 (by omega)])
        · rw [if_neg (by
            rintro (w | w)
            · exact cb (Or.inl (by omega))
            · exact w (by rw [decide_eq_false (fun y => cb (Or.inr y))]; decide))]
          exact hJ () _ ⟨rfl, fun y => by rw [hr] at y; exact cb y.2⟩
    · rw [if_neg (by omega)]
      exact hJ () _ ⟨rfl, fun y => c3 y.1⟩
  rintro - υ ⟨rfl, hno⟩
  rw [if_neg hno] at hstd
  have hGD : GDx (sl T s (n - s), cnK T e c, sl T c (k - c)) := eld_GDx hce hkw hno _
  have hx3 : cnK T e c ≤ 3 := by
    unfold cnK
    split
    · omega
    · split
      · omega
      · split <;> omega
  generalize hxn : sl T s (n - s) = xn at *
  -- its name
  rw [show enc (mvo p (some n)) = ((p + n : Nat) : Int) from rfl, show enc (mvo p (some s)) = ((p + s : Nat) : Int) from rfl, show ((p + n : Nat) : Int) - ((p + s : Nat) : Int) = ((n - s : Nat) : Int) by omega]
  have dyυ : υ.1 16 2 = (o : Int) := by rw [Fρ 16 2 (by omega), F0 16 2 (by omega)]; exact d1
  have esl : sl (υ.2 176) (p + s) (n - s) = xn := by rw [← hxn]; exact sh_sl hSρ (by omega)
  refine ⟨⟨by omega, by omega⟩, ⟨by rw [dyυ]; exact d2o, sp_K_bkZ (p := p + s) (n := n - s) hL hZρ (Or.inl (by decide)) ⟨by omega, by omega⟩ rfl rfl esl hcap2.1 (fun v33 τ w1 w2 w3 => ?_)⟩⟩
  try dsimp only
  have wR : ∀ q, ¬ (211 ≤ q ∧ q ≤ 215) → τ.2 q = υ.2 q := fun q z => funext (fun k => w3.2 q k (by omega))
  have EV1 : EVk rm nd o σ g b n0 τ (kpS (gB g2) xn, g2.2) (nmX T e (some c) ++ [xn]) (fun _ => 0) := by
    refine ⟨w2, ?_, ⟨?_, ?_⟩, fun k => ?_, fun pp kk z => ?_, fun r z => ?_, fun i hi => ?_, fun r j z1 z2 z3 => ?_⟩
    · show kpS (gB g2) xn = _
      rw [kpL_app, ← eB]
      rfl
    · show g2.2.1 = gC g
      rw [e2]; rfl
    · show g2.2.2.1 = gP g
      rw [e2]; rfl
    · show g2.2.2.2 k = gV g k + 0
      rw [e2]; rfl
    · rw [w3.1 pp kk (by omega), Fρ pp kk (by omega), F0 pp kk (by omega)]
    · rw [wR r (by omega), Rρ r (by omega) (by omega) (by omega), R0]
    · rw [wR 207 (by omega), R7ρ i hi, R0]
    · rw [wR r (by omega), Rρ r (by omega) (by omega) (by omega), R0]
  have hgB3 : gB ((kpS (gB g2) xn, g2.2) : KG) = kpS (gB g2) xn := rfl
  rw [← hgB3] at w1
  generalize hlst : (if cnK T e c = 2 then nmX T e (some c) else []) = lst at *
  have hq3 : KLq τ (gB ((kpS (gB g2) xn, g2.2) : KG)) b lst := ⟨by rw [w3.1 16 58 (by omega)]; exact kd3.1, fun k hk => by rw [wR 207 (by omega)]; exact (kd3.2 k hk).kp⟩
  have hcap3 : kcL (gB ((kpS (gB g2) xn, g2.2) : KG)) (if cnK T e c = 3 then bnm T ((mdl T e c).getD (0, 0, 0)).1 (((mdl T e c).getD (0, 0, 0)).1 + 1) c else []) := hcap2.2
  generalize hg3 : ((kpS (gB g2) xn, g2.2) : KG) = g3 at *
  obtain ⟨hZ3, e3B, ⟨e3C, e3P⟩, e3V, F3, R3, R73, RL3⟩ := id EV1
  have hkle3 : kle (gB g) (gB g3) := by rw [e3B]; exact kpL_pre
  have t47 : τ.1 16 47 = (n0 : Int) := by rw [w3.1 16 47 (by omega), Fρ 16 47 (by omega), F0 16 47 (by omega), hpl.2.2.1, hn0]
  have s47 : σ.1 16 47 = (n0 : Int) := by rw [hpl.2.2.1, hn0]
  have s58 : σ.1 16 58 = (b : Int) := by rw [hpl.2.2.2, hb]
  have t58 := hq3.1
  have hlr : b + lst.length ≤ 50000 := by
    rw [hec] at hnls
    rw [← hlst]
    split
    · exact hnls
    · rw [List.length_nil]; omega
  have hEd3 : KEd τ (gB g3) (aD a) := hEd.dep hkle3 (F3 16 40 (by omega)) (by rw [t47, s47]; exact Int.le_refl _) (by rw [t58, s58]; omega) (fun r z1 z2 => R3 r (by omega)) (fun r z1 z2 i hi => by rw [RL3 r i z1 z2 (by omega)]) (fun i hi => R73 i (by omega)) (Or.inl (by rw [t47, s47]))
  refine sp_K_contentOf (s := xn) (ed := aD a) hL hZ3.2.1 hEd3 (by omega) w1.f ?_
  try dsimp only
  obtain ⟨fe1, -⟩ := fE_edf (s := xn) (aD a)
  have hmem : (fEi (aD a) xn).isSome = true ↔ xn ∈ (fE (aD a)).map (fun y => y.1) := fEi_mem
  generalize hfi : fEi (aD a) xn = fi at *
  have hag : (if (if enc fi < 0 then (0 : Int) else 1) = 0 then (0 : Int) else 1) = ((if fi.isSome = true then 1 else 0 : Nat) : Int) := by
    cases fi with
    | none => rfl
    | some z =>
      show (if (if (z : Int) < 0 then (0 : Int) else 1) = 0 then (0 : Int) else 1) = 1
      rw [if_neg (show ¬ (z : Int) < 0 by omega), if_neg (show ¬ (1 : Int) = 0 by decide)]
  have hag2 : (if enc fi < 0 then (0 : Int) else 1) = 0 ↔ ¬ fi.isSome = true := by
    cases fi with
    | none => exact ⟨fun _ => (by decide), fun _ => rfl⟩
    | some z =>
      have ez : enc (some z) = (z : Int) := rfl
      rw [ez, if_neg (by omega)]
      exact ⟨fun y => absurd y (by decide), fun y => absurd rfl y⟩
  have hm1 : (if fi.isSome = true then 1 else 0 : Nat) ≤ 1 := by split <;> omega
  generalize hm2 : (if fi.isSome = true then 1 else 0 : Nat) = m2 at *
  have dτ : τ.1 16 2 = (o : Int) := by rw [F3 16 2 (by omega)]; exact d1
  have hv2 : τ.2 (rfo o 18) 2 = (gV g3 2 : Int) := hZ3.2.2.2.2.2 2 (by omega)
  have hv3 : τ.2 (rfo o 18) 3 = (gV g3 3 : Int) := hZ3.2.2.2.2.2 3 (by omega)
  have gv0 : ∀ k, gV g3 k = gV g k := fun k => e3V k
  have hb2 := hV 2
  have hb3 := hV 3
  have hb4 := hV 4
  rw [dτ, show Int.toNat (o : Int) = o from rfl, show Int.toNat (2 : Int) = 2 from rfl, show Int.toNat (3 : Int) = 3 from rfl, hag, hv2, t58, show ((b + lst.length : Nat) : Int) - (b : Int) = (lst.length : Int) by omega]
  rw [← gv0 2] at hb2
  rw [← gv0 3] at hb3
  refine ⟨d2o, ⟨by omega, by omega⟩, ⟨by omega, by omega⟩, ⟨by omega, by omega⟩, ?_⟩
  have hZ4 : KZ rm nd o (pr τ (rfo o 18) 2 ((gV g3 2 : Int) + (m2 : Int))) (gB g3, gC g3, gP g3, fun j => gV g3 j + if j = 2 then m2 else 0) := KZ.vio ho hZ3 (by omega)
  have F4 : (pr τ (rfo o 18) 2 ((gV g3 2 : Int) + (m2 : Int))).1 = τ.1 := rfl
  have R4 : ∀ r, r ≠ rfo o 18 → (pr τ (rfo o 18) 2 ((gV g3 2 : Int) + (m2 : Int))).2 r = τ.2 r := fun r z => prn z
  have v43 : (pr τ (rfo o 18) 2 ((gV g3 2 : Int) + (m2 : Int))).2 (rfo o 18) 3 = (gV g3 3 : Int) := by rw [prr, if_neg (by decide)]; exact hv3
  generalize pr τ (rfo o 18) 2 ((gV g3 2 : Int) + (m2 : Int)) = τ4 at *
  generalize hm3 : (if cnK T e c = 2 then rpk lst lst.length else 0) = m3 at *
  have hrpk := rpk_le (l := lst) lst.length
  -- doubles of a mixed group
  refine WJ_of (fun (_ : Unit) υ1 => ∃ g4, EVk rm nd o σ g b n0 υ1 g4 (nmX T e (some c) ++ [xn]) (fun j => if j = 2 then m2 else if j = 3 then m3 else 0) ∧ gB g4 = gB g3 ∧ υ1.1 = τ.1 ∧ (∀ r, r ≠ rfo o 18 → υ1.2 r = τ.2 r)) (fun J hJ => ?_) ?_
  · rw [kd1]
    by_cases c2 : cnK T e c = 2
    · rw [if_pos c2] at hm3
      rw [if_pos (by omega), v43]
      refine ⟨⟨by omega, by omega⟩, ⟨by omega, by omega⟩, ?_⟩
      refine sp_K_doubles (g := g3) (ls := lst) hL hZ3.2.1 ⟨b, rfl, by rw [F4, t58]; omega, fun k hk => by rw [R4 207 (by omega)]; exact hq3.2 k hk⟩ (by rw [F4, t58]; omega) rfl ?_
      rw [hm3]
      refine ⟨⟨by omega, by omega⟩, ⟨by omega, by omega⟩, ?_⟩
      have hZ5 := KZ.vio (k := 3) (m := m3) (v := (gV g3 3 : Int) + (m3 : Int)) ho hZ4 (by show _ = ((gV g3 3 + (if 3 = 2 then m2 else 0) + m3 : Nat) : Int); rw [if_neg (by decide)]; omega)
      refine hJ () _ ⟨_, ⟨hZ5, e3B, ⟨e3C, e3P⟩, fun j => ?_, fun pp kk z => by rw [pr_1, F4]; exact F3 pp kk z, fun r z => by rw [prn (by omega), R4 r (by omega)]; exact R3 r z, fun i hi => by rw [prn (by omega), R4 207 (by omega)]; exact R73 i hi, fun r i z1 z2 z3 => by rw [prn (by omega), R4 r (by omega)]; exact RL3 r i z1 z2 z3⟩, rfl, by rw [pr_1, F4], fun r z => by rw [prn z, R4 r z]⟩
      show gV g3 j + (if j = 2 then m2 else 0) + (if j = 3 then m3 else 0) = gV g j + if j = 2 then m2 else if j = 3 then m3 else 0
      rw [gv0]
      by_cases j2 : j = 2
      · rw [if_pos j2, if_pos j2, if_neg (by omega), Nat.add_zero]
      · rw [if_neg j2, if_neg j2]; omega
    · rw [if_neg c2] at hm3
      rw [if_neg (by omega)]
      refine hJ () _ ⟨_, ⟨hZ4, e3B, ⟨e3C, e3P⟩, fun j => ?_, fun pp kk z => by rw [F4]; exact F3 pp kk z, fun r z => by rw [R4 r (by omega)]; exact R3 r z, fun i hi => by rw [R4 207 (by omega)]; exact R73 i hi, fun r i z1 z2 z3 => by rw [R4 r (by omega)]; exact RL3 r i z1 z2 z3⟩, rfl, F4, R4⟩
      show gV g3 j + (if j = 2 then m2 else 0) = gV g j + if j = 2 then m2 else if j = 3 then m3 else 0
      rw [gv0, ← hm3]
      by_cases j2 : j = 2
      · rw [if_pos j2, if_pos j2]
      · rw [if_neg j2, if_neg j2]; split <;> omega
  clear hZ4 F4 R4 v43
  rintro - υ1 ⟨g4, EV4, gB4, F4, R4⟩
  try dsimp only
  rw [← gB4] at hq3 w1 hcap3
  obtain ⟨hZ4, e4B, ⟨e4C, e4P⟩, e4V, F4', R4', R74, RL4⟩ := id EV4
  have hq4 : KLq υ1 (gB g4) b lst := ⟨by rw [F4]; exact hq3.1, fun k hk => by rw [R4 207 (by omega)]; exact hq3.2 k hk⟩
  have u47 : υ1.1 16 47 = (n0 : Int) := by rw [F4]; exact t47
  have hmx : cnK T e c = 2 → lst = mxN (xn, cnK T e c, sl T c (k - c)) := fun c2 => by
    have hGD2 : GDx (xn, 2, sl T c (k - c)) := by rw [c2] at hGD; exact hGD
    have hp : mt T e (sk isSp T e (c + 1)) [35, 80, 67, 68, 65, 84, 65] = true := by
      unfold cnK at c2
      split at c2
      · omega
      · split at c2
        · omega
        · split at c2
          · assumption
          · omega
    have h40 : mt T e c [40] = true := by
      have hz2 := hz
      unfold cnt at hz2
      rw [if_neg (by omega), if_neg (by omega), if_pos c2] at hz2
      by_cases c4 : mt T e c [40] = true
      · exact c4
      · rw [if_neg c4] at hz2; cases hz2
    rw [← hlst, if_pos c2, c2, mxN_at (e := e) hGD2 (by omega) hkl.2 h40 hp]
    unfold nmX
    exact if_neg (by omega)
  -- the tree of a model
  refine WJ_of (fun (_ : Unit) υ2 => ∃ g5, EVk rm nd o σ g b n0 υ2 g5 (nmEl a) (dvE a) ∧ KLq υ2 (gB g5) b lst ∧ Kn (gB g5) v33 xn ∧ (cnK T e c = 3 → υ2.1 16 47 = ((n0 + (bldN (xn, cnK T e c, sl T c (k - c))).length : Nat) : Int) ∧ KTr υ2 (gB g5) n0 (bldN (xn, cnK T e c, sl T c (k - c))) ∧ υ2.2 198 n0 = -1 ∧ 0 < (bldN (xn, cnK T e c, sl T c (k - c))).length) ∧ (cnK T e c ≠ 3 → υ2.1 16 47 = (n0 : Int))) (fun J hJ => ?_) ?_
  · rw [kd1]
    by_cases c3 : cnK T e c = 3
    · rw [if_pos (by omega)]
      have hGD3 : GDx (xn, 3, sl T c (k - c)) := by rw [c3] at hGD; exact hGD
      obtain ⟨r, b1', b2', b3', b4', b5'⟩ := bldN_at (e := e) hGD3 (by omega) hkl.2
      have hrz : r.1 = z := by
        have hz2 := hz
        unfold cnt at hz2
        rw [if_neg (by omega), if_neg (by omega), if_neg (by omega), b1'] at hz2
        exact Option.some.inj hz2
      have hme := kd2 c3
      rw [if_pos c3, b1'] at hcap3 hnE
      have hcap3 : kcL (gB g4) (bnm T r.1 (r.1 + 1) c) := hcap3
      have hnE : nmEl a = nmX T e (some c) ++ xn :: bnm T r.1 (r.1 + 1) c := hnE
      rw [if_pos c3] at hBE
      have hBE : elB a = (bldN (xn, 3, sl T c (k - c))).length := hBE
      have hKu : KT L υ1 (p + e) := by unfold KT; rw [F4' 16 17 (by omega)]; exact hK
      have hSu : SHT T (υ1.2 176) e p := by rw [R4' 176 (by omega)]; exact hS
      refine sp_K_build (c := c) (r := r) (n0 := n0) hL hZ4 hKu hSu b3'.1 b3'.2 b2' u47 (by rw [← b5']; omega) rfl (by rw [hme, hrz]) hcap3 (fun σ6 g5 hBD => ?_)
      rw [← b5'] at hBD
      obtain ⟨hZ6, e6B, e62, hTr6, h476, F6', R6, RL6⟩ := hBD
      try dsimp only
      have d6 : σ6.1 16 2 = (o : Int) := by rw [F6' 16 2 (by omega), F4' 16 2 (by omega)]; exact d1
      have gv5 : ∀ j, gV g5 j = gV g4 j := fun j => by show g5.2.2.2 j = g4.2.2.2 j; rw [e62]
      have hv4 : σ6.2 (rfo o 18) 4 = (gV g5 4 : Int) := hZ6.2.2.2.2.2 4 (by omega)
      have gv44 : gV g5 4 = gV g 4 := by
        rw [gv5, e4V]
        show gV g 4 + (if 4 = 2 then m2 else if 4 = 3 then m3 else 0) = _
        rw [if_neg (by decide), if_neg (by decide), Nat.add_zero]
      obtain ⟨⟨GG, hTF⟩, h255⟩ := bldN_TF hGD3 rfl
      rw [d6, show Int.toNat (o : Int) = o from rfl, show Int.toNat (4 : Int) = 4 from rfl, hv4]
      refine ⟨d2o, ⟨by omega, by omega⟩, ?_⟩
      refine sp_K_isDeterministic hL9 h17 hZ6.2.1 hTF hTr6 h255 (by rw [h476]; omega) (by rw [h476]; omega) (Or.inl (by rw [h476]; omega)) (fun σ8 hX8 => ?_)
      have hm4 : (if b1 (dtm (mvE (xn, 3, sl T c (k - c))).2 (mvE (xn, 3, sl T c (k - c))).1 (mvE (xn, 3, sl T c (k - c))).2.length) = 0 then (1 : Int) else 0) = ((if dtm (mvE (xn, 3, sl T c (k - c))).2 (mvE (xn, 3, sl T c (k - c))).1 (mvE (xn, 3, sl T c (k - c))).2.length = false then 1 else 0 : Nat) : Int) := by
        cases dtm (mvE (xn, 3, sl T c (k - c))).2 (mvE (xn, 3, sl T c (k - c))).1 (mvE (xn, 3, sl T c (k - c))).2.length <;> rfl
      rw [hm4]
      generalize hmm4 : (if dtm (mvE (xn, 3, sl T c (k - c))).2 (mvE (xn, 3, sl T c (k - c))).1 (mvE (xn, 3, sl T c (k - c))).2.length = false then 1 else 0 : Nat) = m4 at *
      have hm41 : m4 ≤ 1 := by rw [← hmm4]; split <;> omega
      refine ⟨⟨by omega, by omega⟩, ⟨by omega, by omega⟩, ?_⟩
      have hZ8 : KZ rm nd o σ8 g5 := hZ6.dep ho (fun pp kk z => hX8.1 pp kk (by omega)) (fun q z => hX8.2 q (by omega))
      have hZ9 := KZ.vio (k := 4) (m := m4) (v := (gV g5 4 : Int) + (m4 : Int)) ho hZ8 (by omega)
      refine hJ () _ ⟨(gB g5, gC g5, gP g5, fun j => gV g5 j + if j = 4 then m4 else 0), ⟨hZ9, ?_, ⟨?_, ?_⟩, fun j => ?_, fun pp kk z => ?_, fun q z => ?_, fun i hi => ?_, fun q i z1 z2 z3 => ?_⟩, ⟨?_, fun i hi => ?_⟩, ?_, fun _ => ⟨?_, ?_, ?_, ?_⟩, fun y => absurd c3 y⟩
      · show gB g5 = _
        rw [e6B, e4B, hnE, ← kpL_app, List.append_assoc]
        rfl
      · show g5.2.1 = gC g
        rw [e62]; exact e4C
      · show g5.2.2.1 = gP g
        rw [e62]; exact e4P
      · show gV g5 j + (if j = 4 then m4 else 0) = gV g j + dvE a j
        rw [gv5, e4V, hdE]
        unfold dvX
        have hfe : (edf (aD a) xn).isSome = fi.isSome := fe1.symm
        have e3' : m3 = 0 := by rw [← hm3, if_neg (by omega)]
        show gV g j + (if j = 2 then m2 else if j = 3 then m3 else 0) + (if j = 4 then m4 else 0) = gV g j + (if j = 2 then (if (edf (aD a) xn).isSome = true then 1 else 0) else if j = 3 then (if cnK T e c = 2 then _ else 0) else if j = 4 then (if cnK T e c = 3 ∧ dtm (mvE (xn, 3, sl T c (k - c))).2 (mvE (xn, 3, sl T c (k - c))).1 (mvE (xn, 3, sl T c (k - c))).2.length = false then 1 else 0) else 0)
        rw [hfe, hm2, e3']
        by_cases j2 : j = 2
        · rw [if_pos j2, if_pos j2, if_neg (by omega), Nat.add_zero]
        · rw [if_neg j2, if_neg j2]
          by_cases j3 : j = 3
          · rw [if_pos j3, if_pos j3, if_neg (by omega), if_neg (by omega)]
          · rw [if_neg j3, if_neg j3]
            by_cases j4 : j = 4
            · rw [if_pos j4, if_pos j4, Nat.add_zero, ← hmm4]
              congr 1
              by_cases cd : dtm (mvE (xn, 3, sl T c (k - c))).2 (mvE (xn, 3, sl T c (k - c))).1 (mvE (xn, 3, sl T c (k - c))).2.length = false
              · rw [if_pos cd, if_pos ⟨c3, cd⟩]
              · rw [if_neg cd, if_neg (fun y => cd y.2)]
            · rw [if_neg j4, if_neg j4]
      · rw [pr_1, hX8.1 pp kk (by omega), F6' pp kk (by omega)]; exact F4' pp kk z
      · rw [prn (by omega), hX8.2 q (by omega), R6 q (by omega) (by omega)]; exact R4' q z
      · rw [prn (by omega), hX8.2 207 (by omega), R6 207 (by omega) (by omega)]; exact R74 i hi
      · rw [prn (by omega), hX8.2 q (by omega), RL6 q i z1 z2 z3]; exact RL4 q i z1 z2 z3
      · rw [pr_1, hX8.1 16 58 (by omega), F6' 16 58 (by omega)]; exact hq4.1
      · rw [prn (by omega), hX8.2 207 (by omega), R6 207 (by omega) (by omega)]
        show Kn (gB g5) _ _
        rw [e6B]
        exact (hq4.2 i hi).kpL
      · show Kn (gB g5) _ _
        rw [e6B]
        exact w1.kpL
      · rw [pr_1, hX8.1 16 47 (by omega), h476, c3]
      · rw [c3]
        exact hTr6.rows (fun q z1 z2 => by rw [prn (by omega), hX8.2 q (by omega)])
      · have h0 := (hTr6 0 hTF.2.1).2.2.2.2.2
        rw [prn (by omega), hX8.2 198 (by omega)]
        have hA0 : kA (bldN (xn, 3, sl T c (k - c))) 0 = -1 := by
          rcases hTF.2.2.2.1 0 hTF.2.1 with y | ⟨w, -, y, -⟩
          · exact y.2
          · omega
        have h0 : σ6.2 198 (n0 + 0) = ksh n0 (kA (bldN (xn, 3, sl T c (k - c))) 0) := h0
        rw [hA0] at h0
        exact h0
      · rw [c3]; exact hTF.2.1
    · rw [if_neg (by omega)]
      rw [if_neg c3] at hnE
      refine hJ () _ ⟨g4, ⟨hZ4, by rw [e4B, hnE], ⟨e4C, e4P⟩, fun j => ?_, F4', R4', R74, RL4⟩, hq4, w1, fun y => absurd y c3, fun _ => u47⟩
      rw [e4V, hdE]
      unfold dvX
      have hfe : (edf (aD a) xn).isSome = fi.isSome := fe1.symm
      show gV g j + (if j = 2 then m2 else if j = 3 then m3 else 0) = gV g j + (if j = 2 then (if (edf (aD a) xn).isSome = true then 1 else 0) else if j = 3 then (if cnK T e c = 2 then rpk (mxN (xn, cnK T e c, sl T c (k - c))) (mxN (xn, cnK T e c, sl T c (k - c))).length else 0) else if j = 4 then (if cnK T e c = 3 ∧ _ then 1 else 0) else 0)
      rw [hfe, hm2, if_neg (fun y : cnK T e c = 3 ∧ _ => c3 y.1)]
      by_cases j2 : j = 2
      · rw [if_pos j2, if_pos j2]
      · rw [if_neg j2, if_neg j2]
        by_cases j3 : j = 3
        · rw [if_pos j3, if_pos j3, ← hm3]
          congr 1
          by_cases c2 : cnK T e c = 2
          · rw [if_pos c2, if_pos c2, hmx c2]
          · rw [if_neg c2, if_neg c2]
        · rw [if_neg j3, if_neg j3]; split <;> rfl
  clear hq4 u47 EV4 hZ4 e4B e4C e4P e4V F4' R4' R74 RL4
  rintro - υ2 ⟨g5, EV5, q5, w5, t5, n5⟩
  try dsimp only
  obtain ⟨hZ5, e5B, ⟨e5C, e5P⟩, e5V, F5, R5, R75, RL5⟩ := id EV5
  have u40 : υ2.1 16 40 = ((fE (aD a)).length : Int) := by rw [F5 16 40 (by omega)]; exact hEd.1
  have u58 : υ2.1 16 58 = ((b + lst.length : Nat) : Int) := q5.1
  have hnb : nb ((cnK T e c : Int) + 1) = (cnK T e c : Int) + 1 := by
    have := nb_small (n := cnK T e c + 1) (by omega)
    rw [show ((cnK T e c : Int) + 1) = ((cnK T e c + 1 : Nat) : Int) by omega]
    exact this
  have hif : (if (cnK T e c : Int) + 1 = 4 then (n0 : Int) else (b : Int)) = if cnK T e c = 3 then (n0 : Int) else (b : Int) := by
    by_cases c3 : cnK T e c = 3
    · rw [if_pos c3, if_pos (by omega)]
    · rw [if_neg c3, if_neg (by omega)]
  rw [kd1, u40, u58, hnb, hif, show ((b + lst.length : Nat) : Int) - (b : Int) = (lst.length : Int) by omega, show Int.toNat ((fE (aD a)).length : Int) = (fE (aD a)).length from rfl]
  have hlst2 : lst = if (cnK T e c) = 2 then mxN (xn, cnK T e c, sl T c (k - c)) else [] := by
    by_cases c2 : cnK T e c = 2
    · rw [if_pos c2]; exact hmx c2
    · rw [if_neg c2, ← hlst, if_neg c2]
  refine WJ_of (fun (_ : Unit) X => RK rm nd o X g5 (sD a (aD a ++ [(xn, cnK T e c, sl T c (k - c))])) ∧ X.1 16 16 = (p : Int) ∧ X.1 16 4 = σ.1 16 4 ∧ X.1 16 15 = σ.1 16 15) (fun J hJ => ?_) ?_
  · by_cases ca : fi.isSome = true
    · rw [if_neg (fun y => (hag2.mp y) ca)]
      refine hJ () _ ⟨RK.eld (x := (xn, cnK T e c, sl T c (k - c))) hL h s58 s47 EV5 w5 q5 hlst2 t5 n5 (Or.inr ⟨hmem.mp ca, rfl⟩), ?_, ?_, ?_⟩
      · rw [pf_nk (by decide), pf_nk (by decide), F5 16 16 (by omega)]; exact h1
      · rw [pf_nk (by decide), pf_nk (by decide), F5 16 4 (by omega)]
      · rw [pf_nk (by decide), pf_nk (by decide), F5 16 15 (by omega)]
    · rw [if_pos (hag2.mpr ca)]
      refine ⟨⟨by omega, by omega⟩, ⟨by omega, by omega⟩, ⟨by omega, by omega⟩, ⟨by omega, by omega⟩, ⟨by omega, by omega⟩, ⟨by omega, by omega⟩, ?_⟩
      refine hJ () _ ⟨RK.eld (x := (xn, cnK T e c, sl T c (k - c))) hL h s58 s47 EV5 w5 q5 hlst2 t5 n5 (Or.inl ⟨fun y => ca (hmem.mpr y), rfl⟩), ?_, ?_, ?_⟩
      · rw [pf_nk (by decide), pr_1, pr_1, pr_1, pr_1, F5 16 16 (by omega)]; exact h1
      · rw [pf_nk (by decide), pr_1, pr_1, pr_1, pr_1, F5 16 4 (by omega)]
      · rw [pf_nk (by decide), pr_1, pr_1, pr_1, pr_1, F5 16 15 (by omega)]
  rintro - X ⟨hRX, x16, x4, x15⟩
  have hg := hgo hRX hkl.2
  rw [x16, show (p : Int) + (k : Int) = ((p + k : Nat) : Int) by omega] at hg
  have hr := hremD (xn, cnK T e c, sl T c (k - c)) k hkl.2
  have hN : aN (adv (sD a (aD a ++ [(xn, cnK T e c, sl T c (k - c))])) k) = aN a := adv_other.2.1
  obtain ⟨k1, k2, k3, k4⟩ := hC
  refine hq.2 _ hstd _ g5 hg e5B (fun _ => e5C) (fun j _ => e5V j) ⟨?_, ?_, ?_, ?_⟩ (by show (pf X 16 16 _).1 16 4 = _; rw [pf_nk (by decide)]; exact x4) (by show (pf X 16 16 _).1 16 15 ≤ _; rw [pf_nk (by decide), x15]; omega)
  · rw [hN, e5P]; omega
  · rw [hN, e5C]; omega
  · rw [hN]; exact k3
  · rw [hN, e5V, hdE]
    show gV g 22 + 0 = _
    exact k4
end Kef
