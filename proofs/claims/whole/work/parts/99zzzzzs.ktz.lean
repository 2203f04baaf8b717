/-! ===== items of the reference: a tag ===== -/
section Ktz
variable {L : Nat → Nat} {rm nd o : Nat} {σ τ : IS} {g g' : KG} {a a' A : AS} {Q : IS → Prop} {R : Int → IS → Prop} {T : Nat → Int} {x v w : Int} {s : Str}
theorem lvl_topm {fr : List Frm} (h : 0 < fr.length) : lvl fr (fr.length - 1) ∈ fr := by
  cases fr with
  | nil => exact absurd h (Nat.lt_irrefl 0)
  | cons f t =>
    rw [List.length_cons, show t.length + 1 - 1 = t.length by omega, lvl_top]
    exact List.mem_cons_self
theorem tch_lnk {b : Bool} : (aL (tch a b)).length = (aL a).length := tch_len.1
theorem tch_park {b : Bool} {n : Int} (h : ∀ y ∈ aL a, y.2.1 < n) : ∀ y ∈ aL (tch a b), y.2.1 < n := by
  unfold tch
  cases aO a with
  | nil => exact h
  | cons e r =>
    intro y hy
    have hy' : y ∈ (aL a).modify e (fun x => (x.1, x.2.1, x.2.2.1, x.2.2.2.1, x.2.2.2.2.1, true, x.2.2.2.2.2.2 || b)) := hy
    obtain ⟨i, hi, hiy⟩ := List.mem_iff_getElem.mp hy'
    rw [List.length_modify] at hi
    rw [List.getElem_modify] at hiy
    have e1 : y.2.1 = ((aL a)[i]).2.1 := by
      rw [← hiy]
      split <;> rfl
    rw [e1]
    exact h _ (List.getElem_mem hi)
theorem tch_par2 {b : Bool} {n : Int} (h : ∀ y ∈ aL a, n ≤ y.2.1) : ∀ y ∈ aL (tch a b), n ≤ y.2.1 := by
  unfold tch
  cases aO a with
  | nil => exact h
  | cons e r =>
    intro y hy
    have hy' : y ∈ (aL a).modify e (fun x => (x.1, x.2.1, x.2.2.1, x.2.2.2.1, x.2.2.2.2.1, true, x.2.2.2.2.2.2 || b)) := hy
    obtain ⟨i, hi, hiy⟩ := List.mem_iff_getElem.mp hy'
    rw [List.length_modify] at hi
    rw [List.getElem_modify] at hiy
    have e1 : y.2.1 = ((aL a)[i]).2.1 := by
      rw [← hiy]
      split <;> rfl
    rw [e1]
    exact h _ (List.getElem_mem hi)
theorem tch_Kop (h : RK rm nd o σ g a) (g4 : och (aL a) (aO a)) (h168 : ∀ k : Nat, τ.2 168 k = if k + 1 = (aO a).length then 1 else σ.2 168 k) (hf : τ.1 = σ.1) (hr : ∀ q, q ≠ 168 → τ.2 q = σ.2 q) : KOp τ (gB g) (aF a) (aL (tch a false)) (aO a) := by
  have hop := h.2.2.2.2.2.2.2.2.2.1
  cases hO : aO a with
  | nil =>
    rw [tch_nil hO]
    rw [hO] at hop h168
    refine hop.dep kle.refl (by rw [hf]) (by rw [hf]) (fun r _ _ => ?_) (hr 181 (by decide))
    by_cases c : r = 168
    · rw [c]; funext k; rw [h168, if_neg (by rw [List.length_nil]; omega)]
    · exact hr r c
  | cons e r =>
    have e1 : aL (tch a false) = (aL a).modify e (fun x => (x.1, x.2.1, x.2.2.1, x.2.2.2.1, x.2.2.2.2.1, x.2.2.2.2.2.1 || true, x.2.2.2.2.2.2 || false)) := by
      unfold tch
      rw [hO]
      simp only [Bool.or_true]
      rfl
    rw [e1]
    rw [hO] at hop g4 h168
    have hop2 := hop.2.1 r.length (by rw [List.length_cons]; omega)
    rw [opK_top] at hop2
    refine hop.flg g4 hf (fun q x _ => hr q x) (fun k => ?_) (fun k => ?_)
    · rw [h168, List.length_cons, Bool.or_true]
      by_cases c : k = r.length
      · rw [if_pos (by omega), if_pos c]; rfl
      · rw [if_neg (by omega), if_neg c]
    · rw [hr 169 (by decide), Bool.or_false]
      by_cases c : k = r.length
      · rw [if_pos c, c]; exact hop2.2.2.1
      · rw [if_neg c]
theorem och_ext {el l : List Elm} : ∀ {os : List Nat}, och el os → och (el ++ l) os
  | [], _ => trivial
  | i :: r, h => by
    refine ⟨by rw [List.length_append]; have := h.1; omega, ?_, h.2.2.1, och_ext h.2.2.2⟩
    rw [List.getD_eq_getElem?_getD, List.getElem?_append_left h.1, ← List.getD_eq_getElem?_getD]
    exact h.2.1
set_option maxHeartbeats 8000000 in
theorem qI_tag (hL : KLn L o rm nd) (h : RK rm nd o σ g a) (hG : GK rm nd a) (hC : KC rm g a) (hm : 1 ≤ (cur a).length) (hev : (kNs (aS a)).1 + 2 ≤ 120000) (hcap : kcL (gB g) (nmT rm a)) (hV : ∀ k, gV g k ≤ 800000000) (hpar : ∀ y ∈ aL a, y.2.1 < ((aL a).length : Int)) (hpar2 : ∀ y ∈ aL a, -1 ≤ y.2.1) (hroom : (aB a).length + tgn a + (aA a).length ≤ L (rfo o 8)) (hnc : ∀ d, d < (aA a).length → ∀ c ∈ ((aA a).getD d adD).2.1, isNm c = true) (hkd : ∀ d, d < (aA a).length → ((aA a).getD d adD).2.2.2.1 ≤ 4) (hty : ∀ d, d < (aA a).length → ((aA a).getD d adD).2.2.1 ≤ 9) (hnls : nLs (aD a) (aA a) ≤ 50000) (hcl : KCl L rm nd o (aD a)) (hq : KO rm nd o σ g Q (iTag rm nd a) (nmT rm a) (dvT rm a)) : w_KReader_tag L Q σ := by
  obtain ⟨p, q, t, hF', h1, h2, hK, hc, hS, hp⟩ := h.at_ hL
  have hK2 := hK.2.2
  have ho := hL.2.1
  have r1 := rf_1 ho
  have r3 := rf_3 ho (k := 3) (by omega) (by omega)
  have r4 := rf_3 ho (k := 4) (by omega) (by omega)
  have r5 := rf_3 ho (k := 5) (by omega) (by omega)
  have r6 := rf_3 ho (k := 6) (by omega) (by omega)
  have r8 := rf_8 ho (k := 8) (by omega) (by omega)
  have l176 := hL.2.2.2.1
  have l166 := hL.2.2.2.2.1
  have l15 : L (rfo o 15) = 120000 := hL.2.2.2.2.2.2.2.2.2.2.2.2.2.2.2.2.2.2.1
  have l1 := hL.2.2.2.2.2.2.2.2.2.2.2.2.2.2.2.2.1
  have l3 := hL.2.2.2.2.2.2.2.2.2.2.2.2.2.2.2.1
  have lA := hL.2.2.2.2.2.2.2.2.2.2.2.2.2.2.2.2.2.1
  have hrm := hL.2.2.1
  obtain ⟨G1, G2, G3, G4, G5, G6, G7, G8, -⟩ := id hG
  have hln : (aL a).length ≤ 16384 := by omega
  have h58 : σ.1 16 58 ≤ 50000 := by rw [h.pl.2.2.2]; omega
  have hremc : (cur a).length ≤ rem a := by
    unfold rem
    rw [hF', List.map_cons, List.sum_cons]
    exact Nat.le_add_right _ _
  unfold w_KReader_tag
  rw [h1]
  refine ⟨⟨by omega, by omega⟩, kr_name hK hS (some 1) rfl (fun i hi => by cases hi; exact hm) ?_⟩
  refine kr_spc hK hS _ rfl nmg_le ?_
  refine sp_tag0 hK hc hS hm rfl rfl (fun s19 hs1 hs2 => ?_)
  try dsimp only
  cases hk : tgk (gd (cur a)) (cur a).length 0 with
  | none =>
    refine sp_K_written (x := none) rfl h.f3 (fun _ => ?_) (fun k hk => by cases hk)
    rw [if_pos rfl]
    exact hq.1 5 (by unfold iTag; rw [hk]) _ pf_eq (pf_nk (by decide))
  | some k =>
  obtain ⟨n, κ, hn, hat, n1, n2, n3, n4⟩ := tgk_at hk
  have hnl := nmg_lt hn
  have hs2' := hs2 k hk
  have en : enc (mvo p (nmg (gd (cur a)) (cur a).length true (some 1))) = ((p + n : Nat) : Int) := by rw [hn]; rfl
  rw [en]
  have htgn : tgn a = (atL (gd (cur a)) (cur a).length ((cur a).length + 1) n).length := by unfold tgn; rw [hn]
  have hnm : nmT rm a = sl (gd (cur a)) 1 (n - 1) :: (gnl (atN (gd (cur a)) (atL (gd (cur a)) (cur a).length ((cur a).length + 1) n)) ++ (match gvs rm a (gd (cur a)) (sl (gd (cur a)) 1 (n - 1)) (atL (gd (cur a)) (cur a).length ((cur a).length + 1) n) (aN a 0) (aN a 1) [] with
    | .inl _ => []
    | .inr (_, _, gv) => (dfl (aA a) (sl (gd (cur a)) 1 (n - 1)) gv).flatMap (fun z => plk z.1))) := by unfold nmT; rw [hk, hn]; rfl
  have hit : iTag rm nd a = match gvs rm a (gd (cur a)) (sl (gd (cur a)) 1 (n - 1)) (atL (gd (cur a)) (cur a).length ((cur a).length + 1) n) (aN a 0) (aN a 1) [] with
    | .inl f => .inl f
    | .inr (c, m, gv) => if nd < aN a 3 + 1 + (gv ++ dfl (aA a) (sl (gd (cur a)) 1 (n - 1)) gv).length then .inl 4
      else .inr (if gd (cur a) (k - 2) = 47 then cls (nel a (sl (gd (cur a)) 1 (n - 1)) gv (gv ++ dfl (aA a) (sl (gd (cur a)) 1 (n - 1)) gv) k c m) else nel a (sl (gd (cur a)) 1 (n - 1)) gv (gv ++ dfl (aA a) (sl (gd (cur a)) 1 (n - 1)) gv) k c m) := by unfold iTag; rw [hk, hn]; rfl
  have hdv : ∀ j, dvT rm a j = match gvs rm a (gd (cur a)) (sl (gd (cur a)) 1 (n - 1)) (atL (gd (cur a)) (cur a).length ((cur a).length + 1) n) (aN a 0) (aN a 1) [] with
    | .inl _ => 0
    | .inr (c, m, gv) => tgs (aA a) gv j + (if j = 9 then rqN (aA a) (sl (gd (cur a)) 1 (n - 1)) gv (aA a).length else 0) + (if gd (cur a) (k - 2) = 47 then clV (nel a (sl (gd (cur a)) 1 (n - 1)) gv (gv ++ dfl (aA a) (sl (gd (cur a)) 1 (n - 1)) gv) k c m) j else 0) := fun j => by unfold dvT; rw [hk, hn]; rfl
  rw [hnm] at hcap
  have hcap1 := hcap.1
  have hcap2 := kcL_app.mp hcap.2
  refine sp_K_written (x := some (p + k)) rfl h.f3 (fun hk => by cases hk) (fun k0 hk0 hv0 => ?_)
  rw [if_neg (by decide), h1]
  have e3 : ((p + n : Nat) : Int) - (p : Int) - 1 = ((n - 1 : Nat) : Int) := by omega
  refine ⟨⟨by omega, by omega⟩, ⟨by omega, by omega⟩, ⟨by omega, by omega⟩, ?_⟩
  rw [e3]
  have esl : sl (σ.2 176) (p + 1) (n - 1) = sl (gd (cur a)) 1 (n - 1) := sh_sl hS (by omega)
  generalize hsn : sl (gd (cur a)) 1 (n - 1) = s at *
  refine sp_K_kp (p := p + 1) (n := n - 1) hL h (by omega) (by omega) rfl esl hcap1 (fun v29 σ1 hv1 hR1 hf1 => ?_)
  have hgl : gP (kpS (gB g) s, g.2) = gP g ∧ gC (kpS (gB g) s, g.2) = gC g ∧ gV (kpS (gB g) s, g.2) = gV g ∧ gB (kpS (gB g) s, g.2) = kpS (gB g) s := ⟨rfl, rfl, rfl, rfl⟩
  generalize hg1 : ((kpS (gB g) s, g.2) : KG) = g1 at hR1 hgl
  obtain ⟨gl1, gl2, gl3, gl4⟩ := hgl
  rw [← gl4] at hv1 hcap2
  obtain ⟨d1, d2⟩ := hR1.dy ho
  have d2o : dyD (o : Int) := by rw [← d1]; exact d2
  have R1 : ∀ r, ¬ (211 ≤ r ∧ r ≤ 215) → σ1.2 r = σ.2 r := fun r z => funext (fun i => hf1.2 r i (by omega))
  have e176 : σ1.2 176 = σ.2 176 := R1 176 (by omega)
  have hK1 : KT L σ1 (p + (cur a).length) := ⟨by rw [hf1.1 16 17 (by omega)]; exact hK.1, hK.2.1, hK.2.2⟩
  have hc1 : chs σ1 (p + (cur a).length) := fun i hi => by rw [e176]; exact hc i hi
  have hS1 : SHT (gd (cur a)) (σ1.2 176) (cur a).length p := by rw [e176]; exact hS
  have hX1 := hR1.vx
  have hAd1 : KAd σ1 (gB g1) (gP g1) (aA a) := hR1.2.2.2.2.2.2.1
  have hAt1 : KAt o σ1 (gB g1) (gP g1) (aA a) (aB a) := hR1.2.2.2.2.2.2.2.2.2.2.1
  have hEl1 : KEl o σ1 (gB g1) (aL a) := hR1.2.2.2.2.2.2.2.2.1
  have hSt1 : KSt o σ1 (gB g1) (gP g1) (aS a) (aL a).length := hR1.2.2.2.2.2.2.2.2.2.2.2.1
  have f14 : σ1.1 o 14 = ((aB a).length : Int) := hAt1.1
  have f7 : σ1.1 o 7 = ((aL a).length : Int) := hEl1.1
  rw [d1, show Int.toNat (o : Int) = o from rfl, f14, f7, show Int.toNat ((aL a).length : Int) = (aL a).length from rfl]
  refine ⟨d2o, ?_⟩
  refine kr_spc hK1 hS1 (some n) rfl (fun i hi => by cases hi; exact hnl.2.2) ?_
  rw [gl4] at hcap2
  have hcap3 : kcL (gB g1) (gnl (atN (gd (cur a)) (atL (gd (cur a)) (cur a).length ((cur a).length + 1) n))) := by rw [gl4]; exact hcap2.1
  refine sp_tag1 (el := s) (at0 := aB a) (n := n) (κ := κ) hL hX1 hAd1 hAt1 G8.1 G1.2 G7 (fun k => by rw [gl3]; exact hV k) hK1 hc1 hS1 (by rw [gl2]; exact hp) hnl.2.2 hat hv1 rfl (by omega) hcap3 hty G8.2.2.1 (by rw [hf1.1 16 58 (by omega)]; exact h58) (by rw [gl1]; have := hC.1; omega) (by omega) rfl (fun f ρ y1 y2 y3 y4 => ?_) (fun c m gv ρ g2 y1 hX2 hAd2 hAt2 yB yC yP yL yV yc1 yc2 ym yn hF2 => ?_)
  · rw [y1] at hit
    rw [if_pos (by omega)]
    refine hq.1 f hit ρ y3 (by rw [y4, hf1.1 16 4 (by omega)])
  rw [y1] at hit hdv hcap2 hnm
  have hit : iTag rm nd a = if nd < aN a 3 + 1 + (gv ++ dfl (aA a) s gv).length then .inl 4
      else .inr (if gd (cur a) (k - 2) = 47 then cls (nel a s gv (gv ++ dfl (aA a) s gv) k c m) else nel a s gv (gv ++ dfl (aA a) s gv) k c m) := hit
  have hdv : ∀ j, dvT rm a j = tgs (aA a) gv j + (if j = 9 then rqN (aA a) s gv (aA a).length else 0) + (if gd (cur a) (k - 2) = 47 then clV (nel a s gv (gv ++ dfl (aA a) s gv) k c m) j else 0) := hdv
  have hnm : nmT rm a = s :: (gnl (atN (gd (cur a)) (atL (gd (cur a)) (cur a).length ((cur a).length + 1) n)) ++ (dfl (aA a) s gv).flatMap (fun z => plk z.1)) := hnm
  have hcapd : kcL (gB g2) ((dfl (aA a) s gv).flatMap (fun z => plk z.1)) := by
    rw [yB, yn, gl4]
    exact hcap2.2
  have hgvl : gv.length = tgn a := by
    rw [htgn]
    have := congrArg List.length yn
    unfold atN at this
    rw [List.length_map, List.length_map] at this
    exact this
  rw [if_neg (by have := hX2.2.2.2.2; omega)]
  have hv2 : Kn (gB g2) v29 s := by rw [yB]; exact hv1.kpL
  refine sp_K_defaults (A := sN (sN a 0 c) 1 m) (at0 := aB a) (gv := gv) (el := s) hL hX2 hAd2 hAt2 (by have e9 := yV 9; rw [gl3, tgs_o (by decide) (by decide) (by decide), if_neg (by decide)] at e9; have := hV 9; omega) (by rw [hgvl]; exact hroom) hv2 rfl hnc hkd hty G8.2.2.1 hcapd (fun σ4 g4 hX4 hAd4 hAt4 zB zC zP zV hF4 => ?_)
  have zV : ∀ k, gV g4 k = gV g2 k + if k = 9 then rqN (aA a) s gv (aA a).length else 0 := zV
  have zB : gB g4 = kpL (gB g2) ((dfl (aA a) s gv).flatMap (fun z => plk z.1)) := zB
  have hAd4 : KAd σ4 (gB g4) (gP g4) (aA a) := hAd4
  have hAt4 : KAt o σ4 (gB g4) (gP g4) (aA a) (aB a ++ gv ++ dfl (aA a) s gv) := hAt4
  rw [List.append_assoc] at hAt4
  have zV' : ∀ j, gV g4 j = gV g j + (if j = 22 then m - aN a 1 else 0) + tgs (aA a) gv j + (if j = 9 then rqN (aA a) s gv (aA a).length else 0) := fun j => by rw [zV, yV, gl3]
  have zB' : gB g4 = kpL (gB g) (nmT rm a) := by
    rw [zB, yB, hnm, yn, gl4]
    show kpL (kpL (kpS (gB g) s) _) _ = kpL (kpS (gB g) s) _
    rw [kpL_app]
  have kle4 : kle (gB g1) (gB g4) := by
    rw [zB, yB, ← kpL_app]
    exact kpL_pre
  have cle4 : cle (gP g1) (gP g4) := by rw [zP]; exact yP
  have zC' : gC g4 = gC g1 := by rw [zC, yC]
  have hv4 : Kn (gB g4) v29 s := by rw [zB]; exact hv2.kpL
  have F4 := hF2.trans hF4
  generalize hal : gv ++ dfl (aA a) s gv = al at *
  have x2 : σ4.1 16 2 = (o : Int) := (hX4.dy ho).1
  have x14 : σ4.1 o 14 = (((aB a).length + al.length : Nat) : Int) := by rw [hAt4.1, List.length_append]
  obtain ⟨q1, q2, ⟨m0, m2, m3, m4, m5, m6, m7⟩, q4, q5⟩ := id hX4
  have m3 : σ4.1 16 26 = (aN a 3 : Int) := m3
  have m4 : σ4.1 16 19 = (aN a 4 : Int) := m4
  have x1 : σ4.1 16 1 = (nd : Int) := q1.2.2.2.2.1.2.2
  have hal2 : al.length ≤ 32768 := by
    rw [← hal, List.length_append, hgvl]
    have := dflN_le (ad := aA a) (el := s) (gv := gv) (n := (aA a).length)
    rw [← dfl_N] at this
    omega
  rw [x2, show Int.toNat (o : Int) = o from rfl, x14, m3, x1, m4, show (1 : Int) + (((aB a).length + al.length : Nat) : Int) - ((aB a).length : Int) = ((1 + al.length : Nat) : Int) by omega, show (aN a 3 : Int) + ((1 + al.length : Nat) : Int) = ((aN a 3 + 1 + al.length : Nat) : Int) by omega]
  refine ⟨d2o, ⟨by omega, by omega⟩, ⟨by omega, by omega⟩, ⟨by omega, by omega⟩, ?_⟩
  by_cases hnd : nd < aN a 3 + 1 + al.length
  · rw [if_pos (by omega)]
    refine sp_K_fail (by rw [pf_nk (by decide)]; exact q5) ?_
    exact hq.1 4 (by rw [hit, if_pos hnd]) _ pf_eq (by rw [pf_nk (by decide), pf_nk (by decide), F4.1 16 4 (by omega), hf1.1 16 4 (by omega)])
  rw [if_neg (by omega)]
  rw [if_neg hnd] at hit
  have F5 : ∀ pp kk, ¬ (pp = 16 ∧ kk = 26) → (pf σ4 16 26 ((aN a 3 + 1 + al.length : Nat) : Int)).1 pp kk = σ4.1 pp kk := fun pp kk z => by rw [pf_1, if_neg z]
  have F5' : (pf σ4 16 26 ((aN a 3 + 1 + al.length : Nat) : Int)).1 16 26 = ((aN a 3 + 1 + al.length : Nat) : Int) := pf_eq
  have R5 : (pf σ4 16 26 ((aN a 3 + 1 + al.length : Nat) : Int)).2 = σ4.2 := rfl
  generalize pf σ4 16 26 ((aN a 3 + 1 + al.length : Nat) : Int) = σ5 at *
  have hOp1 : KOp σ1 (gB g1) (aF a) (aL a) (aO a) := hR1.2.2.2.2.2.2.2.2.2.1
  have x64 : σ4.1 16 64 = ((aO a).length : Int) := by rw [F4.1 16 64 (by omega)]; exact hOp1.1
  obtain ⟨-, hop2, bs, b66, bsl, -⟩ := id hOp1
  have x66 : σ4.1 16 66 = (bs (aO a).length : Int) := by rw [F4.1 16 66 (by omega)]; exact b66
  have hlO := och_len G5 (och_lt G5)
  generalize hb0 : bs (aO a).length = b0 at *
  refine WJ_of (fun (_ : Unit) ρ => (∀ pp kk, ¬ (pp = 16 ∧ kk = 66) → ρ.1 pp kk = σ5.1 pp kk) ∧ ρ.1 16 66 = σ5.1 16 66 + (if aO a = [] then 0 else 1) ∧ (∀ r, r ≠ 168 → r ≠ 171 → ρ.2 r = σ5.2 r) ∧ (∀ k : Nat, ρ.2 168 k = if k + 1 = (aO a).length then 1 else σ5.2 168 k) ∧ (∀ k : Nat, ρ.2 171 k = if aO a ≠ [] ∧ (k : Int) = σ5.1 16 66 then v29 else σ5.2 171 k)) (fun J hJ => ?_) ?_
  · by_cases hO : aO a = []
    · rw [if_neg (fun z => G4.2.mp (by omega) hO)]
      refine hJ () _ ⟨fun _ _ _ => rfl, ?_, fun _ _ _ => rfl, fun k => ?_, fun k => ?_⟩
      · rw [if_pos hO]; omega
      · rw [if_neg (by rw [hO, List.length_nil]; omega)]
      · rw [if_neg (fun z => z.1 hO)]
    · have hlp : 0 < (aO a).length := List.length_pos_iff.mpr hO
      have hph : aN a 4 = 2 := G4.2.mpr hO
      have y64 : σ5.1 16 64 = ((aO a).length : Int) := by rw [F5 16 64 (by omega)]; exact x64
      have y66 : σ5.1 16 66 = (b0 : Int) := by rw [F5 16 66 (by omega)]; exact x66
      have y19 : σ5.1 16 19 = 2 := by rw [F5 16 19 (by omega), m4]; omega
      have l168 := l166 168 (by omega) (by omega)
      have l171 := l166 171 (by omega) (by omega)
      rw [if_pos (by omega)]
      unfold w_KReader_touch
      refine WJ_dir ?_
      rw [if_pos y19, y64, show ((aO a).length : Int) - 1 = (((aO a).length - 1 : Nat) : Int) by omega, show Int.toNat (((aO a).length - 1 : Nat) : Int) = (aO a).length - 1 from rfl]
      refine ⟨⟨by omega, by omega⟩, ⟨by omega, by omega⟩, ?_⟩
      dsimp only
      rw [pr_1, y66, show Int.toNat (b0 : Int) = b0 from rfl]
      refine ⟨⟨by omega, by omega⟩, ⟨by omega, by omega⟩, hJ () _ ⟨fun pp kk z => ?_, ?_, fun r z1 z2 => ?_, fun k => ?_, fun k => ?_⟩⟩
      · rw [pf_1, if_neg z, pr_1, pr_1]
      · rw [pf_eq, if_neg hO, y66]
      · rw [pfr, prn z2, prn z1]
      · rw [pfr, prn (by decide), prr]
        by_cases c : k + 1 = (aO a).length
        · rw [if_pos (by omega), if_pos c]
        · rw [if_neg (by omega), if_neg c]
      · rw [pfr, prr, prn (by decide), y66]
        by_cases c : k = b0
        · rw [if_pos c, if_pos ⟨hO, by omega⟩]
        · rw [if_neg c, if_neg (fun z => c (by have := z.2; omega))]
  rintro - ρ ⟨p1, p2, p3, p4, p5⟩
  try dsimp only
  have P1 : ∀ pp kk, ¬ (pp = 16 ∧ (kk = 66 ∨ kk = 26)) → ρ.1 pp kk = σ4.1 pp kk := fun pp kk z => by rw [p1 pp kk (by omega), F5 pp kk (by omega)]
  have w2 : ρ.1 16 2 = (o : Int) := by rw [P1 16 2 (by omega)]; exact x2
  have w64 : ρ.1 16 64 = ((aO a).length : Int) := by rw [P1 16 64 (by omega)]; exact x64
  have w14 : ρ.1 o 14 = (((aB a).length + al.length : Nat) : Int) := by rw [P1 o 14 (by omega)]; exact x14
  have w7 : ρ.1 o 7 = ((aL a).length : Int) := by rw [P1 o 7 (by omega), F4.1 o 7 (by omega)]; exact f7
  have hpv : (if 0 < ((aO a).length : Int) then (pr ρ (rfo o 3) (aL a).length v29).2 166 (Int.toNat (((aO a).length : Int) - 1)) else (-1 : Int)) = par a := by
    cases hO : aO a with
    | nil => rw [if_neg (by rw [List.length_nil]; omega)]; unfold par; rw [hO]
    | cons e r =>
      rw [List.length_cons, if_pos (by omega), prn (by omega), p3 166 (by decide) (by decide), R5, F4.2 166 (by omega), show Int.toNat (((r.length + 1 : Nat) : Int) - 1) = r.length by omega]
      have := (hop2 r.length (by rw [hO, List.length_cons]; omega)).1
      rw [hO, opK_top] at this
      rw [this]
      unfold par
      rw [hO]
  rw [w2, show Int.toNat (o : Int) = o from rfl, w64, w14, w7, hpv, show (((aB a).length + al.length : Nat) : Int) - ((aB a).length : Int) = (al.length : Int) by omega]
  have l166' := l166 166 (by omega) (by omega)
  have l167' := l166 167 (by omega) (by omega)
  have l168' := l166 168 (by omega) (by omega)
  have l169' := l166 169 (by omega) (by omega)
  have l170' := l166 170 (by omega) (by omega)
  have l3' := l3 3 (by omega) (by omega)
  have l4' := l3 4 (by omega) (by omega)
  have l5' := l3 5 (by omega) (by omega)
  have l6' := l3 6 (by omega) (by omega)
  refine ⟨d2o, ⟨by omega, by omega⟩, fun z => ⟨⟨by omega, by omega⟩, ⟨by omega, by omega⟩⟩, ⟨by omega, by omega⟩, ⟨by omega, by omega⟩, ⟨by omega, by omega⟩, ⟨by omega, by omega⟩, ⟨by omega, by omega⟩, ?_⟩
  refine LETH_of (fun s2 hs2e => ?_)
  have c7 : s2.1 o 7 = ((aL a).length : Int) + 1 := by rw [hs2e, pf_eq]
  have cF : ∀ pp kk, ¬ (pp = o ∧ kk = 7) → s2.1 pp kk = ρ.1 pp kk := fun pp kk z => by rw [hs2e, pf_1, if_neg z, pr_1, pr_1, pr_1, pr_1]
  have cR : ∀ r, ¬ (216 + 14 * (o - 14) ≤ r ∧ r ≤ 219 + 14 * (o - 14)) → s2.2 r = ρ.2 r := fun r z => by rw [hs2e, pfr, prn (by omega), prn (by omega), prn (by omega), prn (by omega)]
  have c3 : ∀ k : Nat, s2.2 (rfo o 3) k = if k = (aL a).length then v29 else ρ.2 (rfo o 3) k := fun k => by rw [hs2e, pfr, prn (by omega), prn (by omega), prn (by omega), prr]
  have c4 : ∀ k : Nat, s2.2 (rfo o 4) k = if k = (aL a).length then par a else ρ.2 (rfo o 4) k := fun k => by rw [hs2e, pfr, prn (by omega), prn (by omega), prr, prn (by omega)]
  have c5 : ∀ k : Nat, s2.2 (rfo o 5) k = if k = (aL a).length then ((aB a).length : Int) else ρ.2 (rfo o 5) k := fun k => by rw [hs2e, pfr, prn (by omega), prr, prn (by omega), prn (by omega)]
  have c6 : ∀ k : Nat, s2.2 (rfo o 6) k = if k = (aL a).length then (al.length : Int) else ρ.2 (rfo o 6) k := fun k => by rw [hs2e, pfr, prr, prn (by omega), prn (by omega), prn (by omega)]
  clear hs2e
  obtain ⟨G, -, -, gk3, -, ⟨-, gk5⟩, -⟩ := id hSt1
  have hkel : kel G + 1 ≤ 120000 := by rw [gk5] at hev; have hev : kel G + 2 ≤ 120000 := hev; omega
  have w16 : s2.1 o 16 = (kel G : Int) := by rw [cF o 16 (by omega), P1 o 16 (by omega), F4.1 o 16 (by omega)]; exact gk3
  rw [cF 16 2 (by omega), w2, show Int.toNat (o : Int) = o from rfl]
  refine ⟨d2o, ?_⟩
  unfold w_KDoc_event
  rw [w16, show Int.toNat (kel G : Int) = kel G from rfl]
  refine ⟨⟨by omega, by omega⟩, ⟨by omega, by omega⟩, ?_⟩
  have e16 : (pf (pf (pr s2 (rfo o 15) (kel G) 0) o 16 ((kel G : Int) + 1)) o 17 (-1)).1 o 16 = (kel G : Int) + 1 := by rw [pf_nk (by decide), pf_eq]
  have e17 : (pf (pf (pr s2 (rfo o 15) (kel G) 0) o 16 ((kel G : Int) + 1)) o 17 (-1)).1 o 17 = -1 := pf_eq
  have eF : ∀ pp kk, ¬ (pp = o ∧ (kk = 16 ∨ kk = 17)) → (pf (pf (pr s2 (rfo o 15) (kel G) 0) o 16 ((kel G : Int) + 1)) o 17 (-1)).1 pp kk = s2.1 pp kk := fun pp kk z => by rw [pf_1, if_neg (by omega), pf_1, if_neg (by omega), pr_1]
  have eR : ∀ r, r ≠ rfo o 15 → (pf (pf (pr s2 (rfo o 15) (kel G) 0) o 16 ((kel G : Int) + 1)) o 17 (-1)).2 r = s2.2 r := fun r z => by rw [pfr, pfr, prn z]
  have eE : ∀ j : Nat, (pf (pf (pr s2 (rfo o 15) (kel G) 0) o 16 ((kel G : Int) + 1)) o 17 (-1)).2 (rfo o 15) j = if j = kel G then 0 else s2.2 (rfo o 15) j := fun j => by rw [pfr, pfr, prr]
  generalize pf (pf (pr s2 (rfo o 15) (kel G) 0) o 16 ((kel G : Int) + 1)) o 17 (-1) = s3 at *
  dsimp only
  have v64 : s3.1 16 64 = ((aO a).length : Int) := by rw [eF 16 64 (by omega), cF 16 64 (by omega)]; exact w64
  have v14 : s3.1 16 14 = ((aF a).length : Int) := by rw [eF 16 14 (by omega), cF 16 14 (by omega), P1 16 14 (by omega), F4.1 16 14 (by omega)]; exact hR1.2.1.1
  have hfl : 0 < (aF a).length := hR1.2.1.2.1
  have hfm : (aF a).length ≤ 8302 := by have := hG.2.2.2.2.2.2.2.2.1.len; have := G8.1; omega
  have l181 := hL.2.2.2.2.2.1 181 (by omega) (by omega)
  rw [v64, v14, show Int.toNat ((aO a).length : Int) = (aO a).length from rfl, show ((aF a).length : Int) - 1 = (((aF a).length - 1 : Nat) : Int) by omega, show Int.toNat (((aF a).length - 1 : Nat) : Int) = (aF a).length - 1 from rfl]
  refine ⟨⟨by omega, by omega⟩, ⟨by omega, by omega⟩, ⟨by omega, by omega⟩, ⟨by omega, by omega⟩, ⟨by omega, by omega⟩, ⟨by omega, by omega⟩, ⟨by omega, by omega⟩, ⟨by omega, by omega⟩, ?_⟩
  refine WJ_dir ?_
  have XF : ∀ pp kk, ¬ (pp = 16 ∧ (kk = 64 ∨ kk = 19)) → (pf (pf (pr (pr (pr (pr (pr s3 166 (aO a).length ((aL a).length : Int)) 167 (aO a).length (s3.2 181 ((aF a).length - 1))) 168 (aO a).length 0) 169 (aO a).length 0) 170 (aO a).length (s3.1 16 66)) 16 64 (((aO a).length : Int) + 1)) 16 19 2).1 pp kk = s3.1 pp kk := fun pp kk z => by rw [pf_1, if_neg (by omega), pf_1, if_neg (by omega), pr_1, pr_1, pr_1, pr_1, pr_1]
  have X64 : (pf (pf (pr (pr (pr (pr (pr s3 166 (aO a).length ((aL a).length : Int)) 167 (aO a).length (s3.2 181 ((aF a).length - 1))) 168 (aO a).length 0) 169 (aO a).length 0) 170 (aO a).length (s3.1 16 66)) 16 64 (((aO a).length : Int) + 1)) 16 19 2).1 16 64 = ((aO a).length : Int) + 1 := by rw [pf_nk (by decide), pf_eq]
  have X19 : (pf (pf (pr (pr (pr (pr (pr s3 166 (aO a).length ((aL a).length : Int)) 167 (aO a).length (s3.2 181 ((aF a).length - 1))) 168 (aO a).length 0) 169 (aO a).length 0) 170 (aO a).length (s3.1 16 66)) 16 64 (((aO a).length : Int) + 1)) 16 19 2).1 16 19 = 2 := pf_eq
  have XR : ∀ r, ¬ (166 ≤ r ∧ r ≤ 170) → (pf (pf (pr (pr (pr (pr (pr s3 166 (aO a).length ((aL a).length : Int)) 167 (aO a).length (s3.2 181 ((aF a).length - 1))) 168 (aO a).length 0) 169 (aO a).length 0) 170 (aO a).length (s3.1 16 66)) 16 64 (((aO a).length : Int) + 1)) 16 19 2).2 r = s3.2 r := fun r z => by rw [pfr, pfr, prn (by omega), prn (by omega), prn (by omega), prn (by omega), prn (by omega)]
  have X166 : ∀ k : Nat, (pf (pf (pr (pr (pr (pr (pr s3 166 (aO a).length ((aL a).length : Int)) 167 (aO a).length (s3.2 181 ((aF a).length - 1))) 168 (aO a).length 0) 169 (aO a).length 0) 170 (aO a).length (s3.1 16 66)) 16 64 (((aO a).length : Int) + 1)) 16 19 2).2 166 k = if k = (aO a).length then ((aL a).length : Int) else s3.2 166 k := fun k => by rw [pfr, pfr, prn (by decide), prn (by decide), prn (by decide), prn (by decide), prr]
  have X167 : ∀ k : Nat, (pf (pf (pr (pr (pr (pr (pr s3 166 (aO a).length ((aL a).length : Int)) 167 (aO a).length (s3.2 181 ((aF a).length - 1))) 168 (aO a).length 0) 169 (aO a).length 0) 170 (aO a).length (s3.1 16 66)) 16 64 (((aO a).length : Int) + 1)) 16 19 2).2 167 k = if k = (aO a).length then s3.2 181 ((aF a).length - 1) else s3.2 167 k := fun k => by rw [pfr, pfr, prn (by decide), prn (by decide), prn (by decide), prr, prn (by decide)]
  have X168 : ∀ k : Nat, (pf (pf (pr (pr (pr (pr (pr s3 166 (aO a).length ((aL a).length : Int)) 167 (aO a).length (s3.2 181 ((aF a).length - 1))) 168 (aO a).length 0) 169 (aO a).length 0) 170 (aO a).length (s3.1 16 66)) 16 64 (((aO a).length : Int) + 1)) 16 19 2).2 168 k = if k = (aO a).length then 0 else s3.2 168 k := fun k => by rw [pfr, pfr, prn (by decide), prn (by decide), prr, prn (by decide), prn (by decide)]
  have X169 : ∀ k : Nat, (pf (pf (pr (pr (pr (pr (pr s3 166 (aO a).length ((aL a).length : Int)) 167 (aO a).length (s3.2 181 ((aF a).length - 1))) 168 (aO a).length 0) 169 (aO a).length 0) 170 (aO a).length (s3.1 16 66)) 16 64 (((aO a).length : Int) + 1)) 16 19 2).2 169 k = if k = (aO a).length then 0 else s3.2 169 k := fun k => by rw [pfr, pfr, prn (by decide), prr, prn (by decide), prn (by decide), prn (by decide)]
  have X170 : ∀ k : Nat, (pf (pf (pr (pr (pr (pr (pr s3 166 (aO a).length ((aL a).length : Int)) 167 (aO a).length (s3.2 181 ((aF a).length - 1))) 168 (aO a).length 0) 169 (aO a).length 0) 170 (aO a).length (s3.1 16 66)) 16 64 (((aO a).length : Int) + 1)) 16 19 2).2 170 k = if k = (aO a).length then s3.1 16 66 else s3.2 170 k := fun k => by rw [pfr, pfr, prr, prn (by decide), prn (by decide), prn (by decide), prn (by decide)]
  generalize pf (pf (pr (pr (pr (pr (pr s3 166 (aO a).length ((aL a).length : Int)) 167 (aO a).length (s3.2 181 ((aF a).length - 1))) 168 (aO a).length 0) 169 (aO a).length 0) 170 (aO a).length (s3.1 16 66)) 16 64 (((aO a).length : Int) + 1)) 16 19 2 = X at *
  -- all that has changed since the attributes were read
  have FX : ∀ pp kk, ¬ ((pp = 16 ∧ (kk = 26 ∨ kk = 66 ∨ kk = 64 ∨ kk = 19)) ∨ (pp = o ∧ (kk = 7 ∨ kk = 16 ∨ kk = 17))) → X.1 pp kk = σ4.1 pp kk := fun pp kk z => by rw [XF pp kk (by omega), eF pp kk (by omega), cF pp kk (by omega), P1 pp kk (by omega)]
  have RX : ∀ r, ¬ ((166 ≤ r ∧ r ≤ 171) ∨ (216 + 14 * (o - 14) ≤ r ∧ r ≤ 220 + 14 * (o - 14))) → X.2 r = σ4.2 r := fun r z => by rw [XR r (by omega), eR r (by omega), cR r (by omega), p3 r (by omega) (by omega), R5]
  have tF : aF (tch a false) = aF a := tch_other.1
  have tE : aE (tch a false) = aE a := tch_other.2.1
  have tN : aN (tch a false) = aN a := tch_other.2.2.1
  have tR : aR (tch a false) = aR a := tch_other.2.2.2.1
  have tD : aD (tch a false) = aD a := tch_other.2.2.2.2.1
  have tA : aA (tch a false) = aA a := tch_other.2.2.2.2.2.1
  have tT : aT (tch a false) = aT a := tch_other.2.2.2.2.2.2.1
  have hfin : RK rm nd o X g4 (sO (sS (sB (sL (sN (sN (sN (sN (tch a false) 0 c) 1 m) 3 (aN a 3 + 1 + al.length)) 4 2) (aL (tch a false) ++ [(s, par a, (aB a).length, al.length, gv.length, false, false)])) (aB a ++ al)) (aS a ++ [.inl (-3 - ((aL a).length : Int))])) ((aL a).length :: aO a)) := by
    have h := hR1
    have hF : ∀ pp kk, ¬ ((pp = 13 ∧ (kk = 1 ∨ kk = 6)) ∨ (pp = 16 ∧ (kk = 25 ∨ kk = 26 ∨ kk = 66 ∨ kk = 64 ∨ kk = 19)) ∨ (pp = o ∧ (kk = 2 ∨ kk = 14 ∨ kk = 7 ∨ kk = 16 ∨ kk = 17))) → X.1 pp kk = σ1.1 pp kk := fun pp kk z => by rw [FX pp kk (by omega), F4.1 pp kk (by omega)]
    have hR : ∀ r, ¬ ((166 ≤ r ∧ r ≤ 171) ∨ r = 186 ∨ (208 ≤ r ∧ r ≤ 215) ∨ (216 + 14 * (o - 14) ≤ r ∧ r ≤ 221 + 14 * (o - 14)) ∨ (223 + 14 * (o - 14) ≤ r ∧ r ≤ 229 + 14 * (o - 14))) → X.2 r = σ1.2 r := fun r z => by rw [RX r (by omega), F4.2 r (by omega)]
    refine (RK.mk' ho h kle4 (by rw [zC']; exact cle.refl) cle4 (q1.dep ho (fun p k x => FX p k (by omega)) (fun r x => RX r (by omega))) (Or.inl ⟨fun k x y => hF 16 k (by omega), fun r x y => hR r (by omega), tF⟩) (Or.inr ?_) (Or.inr ?_) (Or.inl ⟨hF 16 20 (by omega), hF 16 24 (by omega), tR⟩) (Or.inl ⟨hF 16 40 (by omega), hF 16 47 (by omega), hF 16 58 (by omega), fun r x => hR r (by omega), tD⟩) (Or.inr ?_) (Or.inl ⟨hF 16 34 (by omega), hR 187 (by omega), tT⟩) (Or.inr ?_) (Or.inr ?_) (Or.inr ?_) (Or.inr ?_) (hF 16 3 (by omega)) (Or.inl ⟨hF 16 18 (by omega), hR 178 (by omega), congrArg List.length tF, congrFun tN 7, congrFun tN 8, hF 16 47 (by omega), hF 16 58 (by omega), tD, tA⟩))
    · show KEn X (gB g4) (gC g4) (aE (tch a false)) ((aF (tch a false)).map (fun f => f.2.1))
      rw [tE, tF]
      exact q2.dep kle.refl cle.refl (FX 16 32 (by omega)) (fun r x y => RX r (by omega))
    · refine ⟨?_, ?_, ?_, ?_, ?_, ?_, fun k hk => ?_⟩
      · rw [FX 16 25 (by omega)]; exact m0
      · rw [RX _ (by omega)]
        show _ = (aN (tch a false) 2 : Int)
        rw [tN]; exact m2
      · show X.1 16 26 = ((aN a 3 + 1 + al.length : Nat) : Int)
        rw [XF 16 26 (by omega), eF 16 26 (by omega), cF 16 26 (by omega), p1 16 26 (by omega)]; exact F5'
      · exact X19
      · rw [FX 16 21 (by omega)]
        show _ = if aN (tch a false) 5 = 1 then (1 : Int) else 0
        rw [tN]; exact m5
      · rw [FX 16 22 (by omega)]
        show _ = if aN (tch a false) 6 = 0 then (0 : Int) else 1
        rw [tN]; exact m6
      · rw [RX _ (by omega)]; exact m7 k hk
    · show KAd X (gB g4) (gP g4) (aA (tch a false))
      rw [tA]
      exact hAd4.dep kle.refl cle.refl (FX 16 56 (by omega)) (by rw [FX 16 58 (by omega)]; exact Int.le_refl _) (fun r x y => RX r (by omega)) (fun i _ => by rw [RX 207 (by omega)])
    · show KEl o X (gB g4) (aL (tch a false) ++ [(s, par a, (aB a).length, al.length, gv.length, false, false)])
      have hEl2 : KEl o σ1 (gB g1) (aL (tch a false)) := by
        cases hO : aO a with
        | nil => rw [tch_nil hO]; exact hEl1
        | cons e r =>
          have e1 : aL (tch a false) = (aL a).modify e (fun x => (x.1, x.2.1, x.2.2.1, x.2.2.2.1, x.2.2.2.2.1, x.2.2.2.2.2.1 || true, x.2.2.2.2.2.2 || false)) := by
            unfold tch
            rw [hO]
            simp only [Bool.or_true]
            rfl
          rw [e1]
          exact hEl1.mod
      have eo : ∀ k, 3 ≤ k → k ≤ 6 → ρ.2 (rfo o k) = σ1.2 (rfo o k) ∧ X.2 (rfo o k) = s2.2 (rfo o k) := fun k k1 k2 => by
        have rk := rf_3 ho k1 k2
        rw [p3 _ (by omega) (by omega), R5, F4.2 _ (by omega), XR _ (by omega), eR _ (by omega)]
        exact ⟨rfl, rfl⟩
      refine hEl2.new kle4 hv4 (by rw [XF o 7 (by omega), eF o 7 (by omega), c7, f7]) (fun k => ?_) (fun k => ?_) (fun k => ?_) (fun k => ?_)
      · rw [tch_lnk, (eo 3 (by omega) (by omega)).2, c3, (eo 3 (by omega) (by omega)).1]
      · rw [tch_lnk, (eo 4 (by omega) (by omega)).2, c4, (eo 4 (by omega) (by omega)).1]
      · rw [tch_lnk, (eo 5 (by omega) (by omega)).2, c5, (eo 5 (by omega) (by omega)).1]
      · rw [tch_lnk, (eo 6 (by omega) (by omega)).2, c6, (eo 6 (by omega) (by omega)).1]
    · show KOp X (gB g4) (aF (tch a false)) (aL (tch a false) ++ [(s, par a, (aB a).length, al.length, gv.length, false, false)]) ((aL a).length :: aO a)
      rw [tF]
      have hKv : KOp (σ1.1, fun r k => if r = 168 ∧ k + 1 = (aO a).length then 1 else σ1.2 r k) (gB g1) (aF a) (aL (tch a false)) (aO a) := tch_Kop hR1 G5 (fun k => by
        show (if 168 = 168 ∧ k + 1 = (aO a).length then (1 : Int) else _) = _
        by_cases c : k + 1 = (aO a).length
        · rw [if_pos ⟨rfl, c⟩, if_pos c]
        · rw [if_neg (fun z => c z.2), if_neg c]) rfl (fun q' hq' => by
        funext k
        show (if q' = 168 ∧ k + 1 = (aO a).length then (1 : Int) else _) = _
        rw [if_neg (fun z => hq' z.1)])
      have eo : ∀ r, 166 ≤ r → r ≤ 171 → r ≠ 168 → r ≠ 171 → s3.2 r = σ1.2 r := fun r k1 k2 k3 k4 => by
        rw [eR r (by omega), cR r (by omega), p3 r k3 k4, R5, F4.2 r (by omega)]
      have vo : ∀ (r k : Nat), r ≠ 168 → (((σ1.1, fun r k => if r = 168 ∧ k + 1 = (aO a).length then (1 : Int) else σ1.2 r k) : IS).2 r k) = σ1.2 r k := fun r k z => by
        show (if r = 168 ∧ k + 1 = (aO a).length then (1 : Int) else _) = _
        rw [if_neg (fun y => z y.1)]
      have u66 : s3.1 16 66 = σ1.1 16 66 + (if aO a = [] then 0 else 1) := by
        rw [eF 16 66 (by omega), cF 16 66 (by omega), p2, F5 16 66 (by omega), F4.1 16 66 (by omega)]
      have := hKv.new (τ := X) (x := (s, par a, (aB a).length, al.length, gv.length, false, false)) (v := v29) kle4 (tch_och G5) (by rw [tch_lnk]; exact tch_park hpar) par_opn rfl rfl hfl (G6 _ (lvl_topm hfl)) hv4 (by rw [X64]; show _ = σ1.1 16 64 + 1; rw [hOp1.1]) (by rw [XF 16 66 (by omega)]; exact u66) (by rw [XR 181 (by omega), eR 181 (by omega), cR 181 (by omega), p3 181 (by decide) (by decide), R5, F4.2 181 (by omega)]; funext k; rw [vo 181 k (by decide)]) (fun k => by rw [X166, tch_lnk, vo 166 k (by decide), eo 166 (by omega) (by omega) (by omega) (by omega)]) (fun k => by rw [X167, vo 167 k (by decide), vo 181 _ (by decide), eo 167 (by omega) (by omega) (by omega) (by omega), eR 181 (by omega), cR 181 (by omega), p3 181 (by decide) (by decide), R5, F4.2 181 (by omega)]) (fun k => ?_) (fun k => by rw [X169, vo 169 k (by decide), eo 169 (by omega) (by omega) (by omega) (by omega)]) (fun k => by rw [X170, XF 16 66 (by omega), vo 170 k (by decide), eo 170 (by omega) (by omega) (by omega) (by omega)]) (fun k => ?_)
      · rw [tch_lnk] at this
        exact this
      · rw [X168, eR 168 (by omega), cR 168 (by omega), p4, R5, F4.2 168 (by omega)]
        show _ = if k = (aO a).length then (0 : Int) else if 168 = 168 ∧ k + 1 = (aO a).length then (1 : Int) else σ1.2 168 k
        by_cases c : k + 1 = (aO a).length
        · rw [if_pos c, if_pos (⟨rfl, c⟩ : 168 = 168 ∧ k + 1 = (aO a).length)]
        · rw [if_neg c, if_neg (fun z : 168 = 168 ∧ k + 1 = (aO a).length => c z.2)]
      · rw [vo 171 k (by decide), XR 171 (by omega), eR 171 (by omega), cR 171 (by omega), p5, R5, F5 16 66 (by omega), F4.1 16 66 (by omega), F4.2 171 (by omega)]
    · show KAt o X (gB g4) (gP g4) (aA (tch a false)) (aB a ++ al)
      rw [tA]
      exact hAt4.dep kle.refl cle.refl (FX o 14 (by omega)) (fun k x y => RX _ (by have := rf_8 ho x y; omega))
    · show KSt o X (gB g4) (gP g4) (aS a ++ [.inl (-3 - ((aL a).length : Int))]) (aL (tch a false) ++ [(s, par a, (aB a).length, al.length, gv.length, false, false)]).length
      have t17 : X.1 o 17 = -1 := by rw [XF o 17 (by omega)]; exact e17
      have hs := hSt1.ev (τ := X) (b := true) (by rw [XF o 16 (by omega), e16, gk3]) t17 (by rw [FX o 20 (by omega), F4.1 o 20 (by omega)]) (fun j => by
        rw [XR _ (by omega), eE, cR _ (by omega), p3 _ (by omega) (by omega), R5, F4.2 _ (by omega), gk3]
        by_cases c : j = kel G
        · rw [if_pos c, if_pos (by omega), if_pos rfl]
        · rw [if_neg c, if_neg (by omega)])
      rw [List.length_append, List.length_singleton, tch_lnk]
      exact hs.plt t17 kle4 cle4
  -- the reader goes on behind the tag
  have hcB : cur (tch a false) = cur a := tch_cur
  have hg := hfin.go hL (k := k) (by show k ≤ (cur (tch a false)).length; rw [hcB]; exact n4)
  have x16 : X.1 16 16 = (p : Int) := by rw [FX 16 16 (by omega), F4.1 16 16 (by omega), hf1.1 16 16 (by omega)]; exact h1
  have eB : adv (sO (sS (sB (sL (sN (sN (sN (sN (tch a false) 0 c) 1 m) 3 (aN a 3 + 1 + al.length)) 4 2) (aL (tch a false) ++ [(s, par a, (aB a).length, al.length, gv.length, false, false)])) (aB a ++ al)) (aS a ++ [.inl (-3 - ((aL a).length : Int))])) ((aL a).length :: aO a)) k = nel a s gv al k c m := by
    have tF' : aF (tch a false) = (cur (tch a false), q) :: t := by rw [tF, hcB]; exact hF'
    unfold nel
    rw [adv_F (a := tch a false) tF']
    exact adv_F tF'
  rw [eB, x16, show (p : Int) + (k : Int) = ((p + k : Nat) : Int) by omega] at hg
  have f4 : (pf X 16 16 ((p + k : Nat) : Int)).1 16 4 = σ.1 16 4 := by rw [pf_nk (by decide), FX 16 4 (by omega), F4.1 16 4 (by omega), hf1.1 16 4 (by omega)]
  have f15 : (pf X 16 16 ((p + k : Nat) : Int)).1 16 15 = σ.1 16 15 := by rw [pf_nk (by decide), FX 16 15 (by omega), F4.1 16 15 (by omega), hf1.1 16 15 (by omega)]
  have hrem : rem (nel a s gv al k c m) + k = rem a := by
    rw [← eB]
    have := rem_adv (a := sO (sS (sB (sL (sN (sN (sN (sN (tch a false) 0 c) 1 m) 3 (aN a 3 + 1 + al.length)) 4 2) (aL (tch a false) ++ [(s, par a, (aB a).length, al.length, gv.length, false, false)])) (aB a ++ al)) (aS a ++ [.inl (-3 - ((aL a).length : Int))])) ((aL a).length :: aO a)) (k := k) (by show k ≤ (cur (tch a false)).length; rw [hcB]; exact n4)
    rw [this]
    exact tch_rem
  have nN : ∀ j, aN (nel a s gv al k c m) j = if j = 4 then 2 else if j = 3 then aN a 3 + 1 + al.length else if j = 1 then m else if j = 0 then c else aN a j := fun j => by
    rw [← eB, adv_other.2.1]
    show (if j = 4 then 2 else if j = 3 then aN a 3 + 1 + al.length else if j = 1 then m else if j = 0 then c else aN (tch a false) j) = _
    rw [tN]
  obtain ⟨k1, k2, k3, k4⟩ := hC
  have hKC : KC rm g4 (nel a s gv al k c m) := by
    refine ⟨?_, ?_, ?_, ?_⟩
    · rw [nN 0, if_neg (by decide), if_neg (by decide), if_neg (by decide), if_pos rfl, zP]
      rw [gl1] at yL
      omega
    · rw [nN 0, nN 8, if_neg (by decide), if_neg (by decide), if_neg (by decide), if_neg (by decide), if_neg (by decide), if_neg (by decide), if_neg (by decide), if_pos rfl, zC', gl2]
      omega
    · rw [nN 0, if_neg (by decide), if_neg (by decide), if_neg (by decide), if_pos rfl]
      exact yc1
    · rw [nN 1, if_neg (by decide), if_neg (by decide), if_pos rfl, zV', tgs_o (by decide) (by decide) (by decide), if_pos rfl, if_neg (by decide)]
      omega
  by_cases ce : gd (cur a) (k - 2) = 47
  · rw [if_neg (fun z => (hs2'.mp z) ce)]
    rw [if_pos ce] at hit
    have nO : aO (nel a s gv al k c m) = (aL a).length :: aO a := by rw [← eB, adv_other.2.2.2.2.2.2.2.2.2]; rfl
    have nL : aL (nel a s gv al k c m) = aL (tch a false) ++ [(s, par a, (aB a).length, al.length, gv.length, false, false)] := by rw [← eB, adv_other.2.2.2.2.2.2.1]; rfl
    have nS : aS (nel a s gv al k c m) = aS a ++ [.inl (-3 - ((aL a).length : Int))] := by rw [← eB, adv_other.2.2.2.2.2.2.2.2.1]; rfl
    have nA : aA (nel a s gv al k c m) = aA a := by rw [← eB, adv_other.2.2.2.2.1]; exact tA
    have nD : aD (nel a s gv al k c m) = aD a := by rw [← eB, adv_other.2.2.2.1]; exact tD
    refine hcl (nel a s gv al k c m) _ g4 _ hg nD (by rw [nN 4, if_pos rfl]) (by rw [nO]; exact List.cons_ne_nil _ _) ?_ ?_ ?_ (by rw [nD, nA]; exact hnls) ?_ ?_ (fun τ g5 hR5 u1 u2 u3 u4 u5 u6 => ?_)
    · rw [nO, nL]
      refine ⟨by rw [List.length_append, List.length_singleton, tch_lnk]; omega, ?_, fun y hy => och_lt G5 y hy, ?_⟩
      · rw [List.getD_eq_getElem?_getD, List.getElem?_append_right (by rw [tch_lnk]; exact Nat.le_refl _), tch_lnk, Nat.sub_self]
        exact par_opn
      · exact och_ext (tch_och G5)
    · rw [nL, List.length_append, List.length_singleton, tch_lnk]; omega
    · rw [nL]
      intro y hy
      rcases List.mem_append.mp hy with z | z
      · exact tch_par2 hpar2 y z
      · rw [List.mem_singleton.mp z]
        show -1 ≤ par a
        unfold par
        cases aO a with
        | nil => exact Int.le_refl _
        | cons e r => show (-1 : Int) ≤ (e : Int); omega
    · rw [nS, kNs_s]
      show (kN2 (kNs (aS a)) (.inl (-3 - ((aL a).length : Int)))).1 + 1 ≤ 120000
      unfold kN2
      dsimp only
      rw [if_neg (by omega)]
      exact hev
    · have e5 := zV' 5
      have e6 := zV' 6
      rw [tgs_o (by decide) (by decide) (by decide), if_neg (by decide), if_neg (by decide)] at e5 e6
      have := hV 5
      have := hV 6
      omega
    · obtain ⟨k1', k2', k3', k4'⟩ := hKC
      have cF' : aF (cls (nel a s gv al k c m)) = aF (nel a s gv al k c m) := by unfold cls; rw [nO]; rfl
      have cN : ∀ j, j ≠ 4 → aN (cls (nel a s gv al k c m)) j = aN (nel a s gv al k c m) j := fun j hj => by
        unfold cls
        rw [nO]
        show (if j = 4 then _ else _) = _
        rw [if_neg hj]
        rfl
      have cr : rem (cls (nel a s gv al k c m)) = rem (nel a s gv al k c m) := by unfold rem; rw [cF']
      refine hq.2 _ hit τ g5 hR5 (by rw [u1]; exact zB') (fun _ => u2.trans (zC'.trans gl2)) (fun j hj => ?_) ⟨?_, ?_, ?_, ?_⟩ (by rw [u5]; exact f4) (by rw [u6]; show (pf X 16 16 ((p + k : Nat) : Int)).1 16 15 ≤ _; rw [f15]; omega)
      · rw [u4, zV', hdv, if_neg hj, if_pos ce]
        omega
      · rw [cN 0 (by decide), cr, u3]; exact k1'
      · rw [cN 0 (by decide), cN 8 (by decide), cr, u2]; exact k2'
      · rw [cN 0 (by decide)]; exact k3'
      · rw [cN 1 (by decide), u4, k4']
        have : clV (nel a s gv al k c m) 22 = 0 := by
          unfold clV
          rw [nO]
          dsimp only
          split
          · rfl
          · rw [if_neg (fun z => absurd z.1 (by decide))]
        omega
  · rw [if_pos (hs2'.mpr ce)]
    rw [if_neg ce] at hit
    refine hq.2 _ hit _ g4 hg zB' (fun _ => zC'.trans gl2) (fun j hj => ?_) hKC f4 (by show (pf X 16 16 ((p + k : Nat) : Int)).1 16 15 ≤ _; rw [f15]; omega)
    rw [zV', hdv, if_neg hj, if_neg ce]
    omega
end Ktz
