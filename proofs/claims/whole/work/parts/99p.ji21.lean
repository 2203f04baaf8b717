/-! ===== items of the class: a value is read and kept ===== -/
section JI21
variable {L : Nat → Nat} {rm nd : Nat} {σ τ ρ : IS}
theorem Jt.low {x : Int} {l : List Int} {b0 : Nat} (h : Jt σ x l) (hb : x + (l.length : Int) ≤ (b0 : Int)) (ht : b0 ≤ jtp τ) (hr : ∀ i, i < b0 → τ.2 101 i = σ.2 101 i) : Jt τ x l := by
  obtain ⟨y, h1, h2, h3⟩ := h
  refine ⟨y, h1, by omega, ?_⟩
  rw [← h3]
  have e : (sl (σ.2 101) y l.length).length = l.length := by rw [h3]
  rw [e]
  rw [h3]
  refine Eq.trans (sl_ext (fun j hj => hr (y + j) (by omega))) h3
theorem JFr.low {f : Frm} {t : List Frm} {os : List Nat} {b0 d0 : Nat} {z0 : Int} (h : JFr σ (f :: t) os) (hV : VE ((b0 : Int), d0, z0) σ) (ht : b0 ≤ jtp τ) (hr : ∀ i, i < b0 → τ.2 101 i = σ.2 101 i) (ha : ag fFr rFr σ τ) : JFr τ (f :: t) os := by
  obtain ⟨b1, b2, b3, b4⟩ := h.get
  refine JFr.mk (by rw [ha.1 3 12 rfl]; exact b1) (by rw [ha.1 2 2 rfl]; exact b2.low (by have : σ.1 2 3 ≤ (b0 : Int) := hV.1; omega) ht hr) (by rw [ha.1 2 3 rfl, ha.1 2 2 rfl]; exact b3) (fun i hi => ?_)
  obtain ⟨c1, c2, c3, c4⟩ := b4 i hi
  rw [ha.2 110 rfl, ha.2 111 rfl, ha.2 112 rfl, ha.2 113 rfl]
  exact ⟨c1.low (by have : σ.2 111 i ≤ (b0 : Int) := hV.2.1 i (by omega); omega) ht hr, c2, c3, c4⟩
set_option maxHeartbeats 1000000 in
theorem sp_value {Q : Int → IS → Prop} {B : AS} {l : List Int} {g : Nat × Nat} {t : List Frm} {v j b ty : Nat} {tyI : Int} (hln : JLn L rm nd) (hR : RJ L rm nd (pf ρ 4 16 (b : Int)) (adv B v)) (hF : aF B = (l, g) :: t) (hv : vlp (gd l) l.length (some v) = some j) (hGO : GO (aE B) (aF B)) (hen : (aE B).length < rm / 14 + 2) (hN5 : aN B 5 ≤ 1) (hc : aN B 0 ≤ rm) (hl : j - 1 - (v + 1) ≤ aN B 0) (hm : aN B 1 ≤ 700000) (hcapT : jtp ρ + (j - 1 - (v + 1)) + (rm - aN B 0) ≤ L 101) (hcapW : jw ρ < L 102) (hty : tyI = (ty : Int) + 10)
    (hbad : ∀ f ρ' x, val rm B (sl (gd l) (v + 1) (j - 1 - (v + 1))) (aN B 0) (aN B 1) = .inl f → JBd L rm nd ρ' f (ρ.1 2 5) → Q x ρ')
    (hgood : ∀ c m out x ρ', val rm B (sl (gd l) (v + 1) (j - 1 - (v + 1))) (aN B 0) (aN B 1) = .inr (c, m, out) → RJ L rm nd (pf ρ' 4 16 (b : Int)) (adv (sN (sN B 0 c) 1 m) j) → sgr ρ ρ' → Jn ρ' x (nrt ty out) → (jw ρ' ≤ jw ρ + 1 ∧ (nrt ty out = [] → jw ρ' = jw ρ)) → jtp ρ' ≤ jtp ρ + (nrt ty out).length → c ≤ rm → (∀ o k, ¬ (o = 1 ∧ (k = 3 ∨ k = 13 ∨ k = 14)) → ¬ (o = 2 ∧ k ≠ 5) → ¬ (o = 3 ∧ 12 ≤ k ∧ k ≤ 14) → ρ'.1 o k = ρ.1 o k) → ρ'.2 124 = ρ.2 124 → ρ'.1 2 3 = ρ.1 2 3 → Q x ρ') :
    w_Entities_readValue L (fun v53 σ52 => WJ (fun (s56 : Int) (σ57 : IS) => Q s56 σ57) (fun J54 => if (σ52.1 2 4) = 0 then w_Entities_keepValue L v53 tyI (fun v60 σ59 => J54 v60 σ59) σ52 else J54 (-1) σ52)) ρ := by
  obtain ⟨hcut, hqt, hvl⟩ := vlp_cut hv
  have hgt := vlp_gt hv
  rw [adv_of hF] at hR
  have hF' : aF (sF B ((l.drop v, g) :: t)) = (l.drop v, g) :: t := rfl
  have hlen0 : (sl (gd l) (v + 1) (j - 1 - (v + 1))).length = j - 1 - (v + 1) := sl_len2
  generalize hl0 : sl (gd l) (v + 1) (j - 1 - (v + 1)) = l0 at *
  generalize hq : gd l v = q at *
  have hJF := hR.2.1
  rw [hF', hcut] at hJF
  have hJE := hR.2.2.1
  have hbsy : bsy (sF B ((l.drop v, g) :: t)) = g.1 :: t.map (fun z => z.2.1) := rfl
  have hbB : bsy B = g.1 :: t.map (fun z => z.2.1) := by unfold bsy; rw [hF]; rfl
  rw [hbsy] at hJE
  obtain ⟨n1, n2, n3, n4, n5, n6⟩ := hR.2.2.2.1
  have hβf : ∀ o k, ¬ (o = 4 ∧ k = 16) → (pf ρ 4 16 (b : Int)).1 o k = ρ.1 o k := fun o k hk => by rw [pf_1, if_neg hk]
  obtain ⟨hZ, hgβ⟩ := hR.1.out (σ' := ρ) (fun o k hk => (hβf o k (by omega)).symm) (fun _ _ => rfl)
  obtain ⟨-, hgρ⟩ := hZ.out (σ' := pf ρ 4 16 (b : Int)) (fun o k hk => hβf o k (by omega)) (fun _ _ => rfl)
  have hag : ∀ (F : Nat → Nat → Bool) (R : Nat → Bool), F 4 16 = false → ag F R (pf ρ 4 16 (b : Int)) ρ := fun F R x => ⟨fun o k hk => (hβf o k (by rintro ⟨rfl, rfl⟩; rw [x] at hk; cases hk)).symm, fun _ _ => rfl⟩
  have hJFρ := hJF.dep hgβ (hag _ _ rfl)
  have hJEρ := hJE.dep hgβ hZ.1 hln.1 (hag _ _ rfl)
  have hun : und B = true ↔ ¬ (ρ.1 3 15 = 0 ∧ ¬ ρ.1 3 16 = 0) := by
    have m4 : ρ.1 3 15 = (aN B 5 : Int) := by rw [← hβf 3 15 (by omega)]; exact n4
    have m5 : ρ.1 3 16 = (aN B 6 : Int) := by rw [← hβf 3 16 (by omega)]; exact n5
    unfold und
    rw [m4, m5, Bool.or_eq_true, beq_iff_eq, beq_iff_eq]
    omega
  have h4 : ρ.1 2 4 = 0 := by rw [← hβf 2 4 (by omega)]; exact hR.2.2.2.2.2.2.2.2.2.2.2.1
  have hval : ∀ y, val rm B l0 (aN B 0) (aN B 1) = y ↔ vrn rm (aE B) (g.1 :: t.map (fun z => z.2.1)) (und B) (2 * rm + 3) ([(l0, 0)], aN B 0, aN B 1, []) = y := fun y => by unfold val; rw [hbB]
  refine j_readValue (en := aE B) (os := aO B) (f2 := g) (t := t) (q := q) (l0 := l0) (aft := l.drop j) (c0 := aN B 0) (m0 := aN B 1) (un := und B) hln hZ h4 hJFρ hJEρ ?_ (by rw [← hβf 3 13 (by omega)]; exact n1) (by rw [← hβf 3 14 (by omega)]; exact n2) hc (by rw [hlen0]; exact hl) hm hun hqt hvl (by rw [hlen0]; exact hcapT) hen (fun f σ1 hf hvb => ?_) (fun c m out σ1 hok z1 z2 z3 z4 z5 z6 z7 z8 z9 z10 z11 => ?_)
  · rw [hF] at hGO
    refine ⟨hGO.1, fun f hf => ?_⟩
    rcases List.mem_cons.mp hf with rfl | hf
    · exact hGO.2 (l, g) List.mem_cons_self
    · exact hGO.2 f (List.mem_cons_of_mem _ hf)
  · obtain ⟨w1, w2, w3, w4, w5, w6⟩ := hvb
    refine WJ_dir ?_
    dsimp only
    rw [if_neg (by rw [w2]; omega)]
    refine hbad f σ1 (-1) ((hval _).mpr hf) ⟨w1, w2, w3, w4.1.1 2 5 rfl, fun r hr w u1 u2 => ?_⟩
    have e1 : jw σ1 = jw ρ := by unfold jw; rw [w4.1.1 1 14 rfl]
    rw [w4.1.2 r (by rcases hr with rfl | rfl | rfl | rfl | rfl <;> rfl)]
    have e2 : jw (pf ρ 4 16 (b : Int)) = jw ρ := by unfold jw; rw [pf_no (by decide)]
    exact hR.zer r hr w (by omega) u2
  · refine WJ_dir ?_
    dsimp only
    rw [if_pos z2]
    refine sp_keepValue (t := ty) (out := out) hln hZ rfl z1 z7 z6 hcapW hty (fun x σ2 y1 y2 y3 y4 y5 y6 => ?_)
    have hlow : ∀ i, i < jtp ρ → σ2.2 101 i = σ1.2 101 i := fun i hi => by rw [z7.2 i hi]; exact y2.2.2.2.1 i hi
    have hJF2 := z3.low (τ := σ2) z11 y2.2.1 hlow (y6.sub (fun o k hk => by simp [fFr] at hk; simp [fK]; omega) (fun r hr => by simp [rFr] at hr; simp [rK]; omega))
    have hf12 : ∀ o k, fV o k = true → fK o k = true → σ2.1 o k = ρ.1 o k := fun o k k1 k2 => by rw [y6.1 o k k2]; exact z7.1.1 o k k1
    have hr12 : ∀ r, rV r = true → rK r = true → σ2.2 r = ρ.2 r := fun r k1 k2 => by rw [y6.2 r k2]; exact z7.1.2 r k1
    have hJE2 : JEn L σ2 (aE B) (g.1 :: t.map (fun z => z.2.1)) := by
      refine ⟨by rw [hf12 3 5 rfl rfl]; exact hJEρ.1, fun i hi => ?_, hJEρ.2.2.1.gr y2 y1.1 hln.1 (hr12 114 rfl rfl), hJEρ.2.2.2.gr y2 y1.1 hln.1 (hr12 115 rfl rfl)⟩
      obtain ⟨d1, d2, -⟩ := hJEρ.2.1 i hi
      obtain ⟨-, -, d3⟩ := z4.2.1 i hi
      rw [hr12 107 rfl rfl, hr12 108 rfl rfl, y6.2 109 rfl]
      exact ⟨d1.gr y2, d2, d3⟩
    obtain ⟨hZ3, hg3⟩ := y1.out (σ' := pf σ2 4 16 (b : Int)) (fun o k hk => by rw [pf_1, if_neg (by omega)]) (fun _ _ => rfl)
    have hA : ∀ (F : Nat → Nat → Bool) (R : Nat → Bool), (∀ o k, F o k = true → (o = 4 ∧ k = 16) ∨ (fV o k = true ∧ fK o k = true)) → (∀ r, R r = true → rV r = true ∧ rK r = true) → ag F R (pf ρ 4 16 (b : Int)) (pf σ2 4 16 (b : Int)) := fun F R k1 k2 => ⟨fun o k hk => by
      rw [pf_1, pf_1]
      by_cases c4 : o = 4 ∧ k = 16
      · rw [if_pos c4, if_pos c4]
      · rw [if_neg c4, if_neg c4]
        rcases k1 o k hk with u | u
        · exact absurd u c4
        · exact hf12 o k u.1 u.2, fun r hr => hr12 r (k2 r hr).1 (k2 r hr).2⟩
    have hF3 : aF (sN (sN B 0 c) 1 m) = (l, g) :: t := hF
    refine hgood c m out x σ2 ((hval _).mpr hok) ?_ y2 y3 y4 y5 z8 (fun o k k1 k2 k3 => hf12 o k (by simp [fV]; omega) (by simp [fK]; omega)) (hr12 124 rfl rfl) (by rw [y6.1 2 3 rfl]; exact z11.2.2.1 (by have := z3.1; rw [List.length_cons] at this; dsimp only; omega))
    rw [adv_of hF3]
    refine hR.mk' hln hZ3 ((hgβ.trans y2).trans hg3) (Or.inr (hJF2.dep hg3 (ag.refl.pf rfl))) (Or.inr (hJE2.dep hg3 hZ3.1 hln.1 (ag.refl.pf rfl))) (Or.inr ?_) (Or.inl ⟨hA _ _ (fun o k hk => by simp [fRo] at hk; simp [fV, fK]; omega) (fun r hr => by simp [rNo] at hr), rfl⟩) (Or.inl ⟨hA _ _ (fun o k hk => by simp [fEd] at hk; simp [fV, fK]; omega) (fun r hr => by simp [rEd] at hr; simp [rV, rK]; omega), rfl⟩) (Or.inl ⟨hA _ _ (fun o k hk => by simp [fAd] at hk; simp [fV, fK]; omega) (fun r hr => by simp [rAd] at hr; simp [rV, rK]; omega), rfl⟩) (Or.inl ⟨hA _ _ (fun o k hk => by simp [fNt] at hk; simp [fV, fK]; omega) (fun r hr => by simp [rNt] at hr; simp [rV, rK]; omega), rfl⟩) (Or.inl ⟨hA _ _ (fun o k hk => by simp [fEl] at hk; simp [fV, fK]; omega) (fun r hr => by simp [rEl] at hr; simp [rV, rK]; omega), rfl, rfl⟩) (Or.inl ⟨hA _ _ (fun o k hk => by simp [fAt] at hk; simp [fV, fK]; omega) (fun r hr => by simp [rAt] at hr; simp [rV, rK]; omega), rfl⟩) (Or.inl ⟨hA _ _ (fun o k hk => by simp [fSt] at hk; simp [fV, fK]; omega) (fun r hr => by simp [rSt] at hr; simp [rV, rK]; omega), rfl⟩) ⟨?_, ?_⟩
    · have hpf : ∀ o k, ¬ (o = 4 ∧ k = 16) → (pf σ2 4 16 (b : Int)).1 o k = σ2.1 o k := fun o k hk => by rw [pf_1, if_neg hk]
      refine ⟨?_, ?_, ?_, ?_, ?_, ?_⟩
      · rw [hpf 3 13 (by omega), y6.1 3 13 rfl]; exact z5.1
      · rw [hpf 3 14 (by omega), y6.1 3 14 rfl]; exact z5.2.1
      · rw [hpf 6 1 (by omega), hf12 6 1 rfl rfl, ← hβf 6 1 (by omega)]; exact n3
      · rw [hpf 3 15 (by omega), hf12 3 15 rfl rfl, ← hβf 3 15 (by omega)]; exact n4
      · rw [hpf 3 16 (by omega), hf12 3 16 rfl rfl, ← hβf 3 16 (by omega)]; exact n5
      · rw [hpf 5 6 (by omega), hf12 5 6 rfl rfl, ← hβf 5 6 (by omega)]; exact n6
    · rw [pf_no (by decide), y6.1 2 4 rfl]; exact z2
    · rw [pf_no (by decide), y6.1 2 6 rfl, z5.2.2, ← hβf 2 6 (by omega)]
      exact hR.2.2.2.2.2.2.2.2.2.2.2.2
end JI21
