/-! ===== judge: the good end ===== -/
/-- lengths of the rows of meanings -/
def JLs (L : Nat → Nat) (nd : Nat) : Prop := L 157 = L 102 ∧ L 159 = nd ∧ L 160 = 6
/-- the class when a text was judged well formed -/
def JG (L : Nat → Nat) (σ : IS) (a : AS) : Prop := (σ.1 0 12 = 1 ∧ σ.1 0 13 = 0 ∧ σ.1 0 14 = -1) ∧ JEl σ (aL a) (aO a) ∧ JAt σ (aB a) ∧ JSt σ (aS a) ∧ JNu σ (aN a) ∧ MTr L σ (aL a) (aB a) ∧ MEp σ env0 ∧ (∀ k, σ.2 149 k = (cnV a k : Int)) ∧ (∀ k, σ.2 160 k = (cnS a k : Int)) ∧ σ.1 10 7 = b1 (rlv (dvA (aL a) (aB a) (aL a).length))
section Gde
variable {L : Nat → Nat} {rm nd n : Nat} {σ : IS} {a : AS} {B : Nat → Int} {Q : Int → IS → Prop}
theorem MZx.el {τ : IS} {el : List Elm} {os : List Nat} (h : MZx L σ τ) (hp : JEl σ el os) : JEl τ el os := hp.dep h.2.2.1 ⟨fun o k q => h.1 o k (by simp [fEl] at q; omega) (by simp [fEl] at q; omega), fun r q => h.2.1 r (by simp [rEl] at q; omega) (by simp [rEl] at q; omega)⟩
theorem MZx.at' {τ : IS} {at_ : List Att} (h : MZx L σ τ) (hp : JAt σ at_) : JAt τ at_ := hp.dep h.2.2.1 ⟨fun o k q => h.1 o k (by simp [fAt] at q; omega) (by simp [fAt] at q; omega), fun r q => h.2.1 r (by simp [rAt] at q; omega) (by simp [rAt] at q; omega)⟩
theorem MZx.st {τ : IS} {st : List Evt} (h : MZx L σ τ) (hp : JSt σ st) : JSt τ st := hp.dep h.2.2.1 ⟨fun o k q => h.1 o k (by simp [fSt] at q; omega) (by simp [fSt] at q; omega), fun r q => h.2.1 r (by simp [rSt] at q; omega) (by simp [rSt] at q; omega)⟩
theorem fin_of (h : fin a = true) (hG : GI rm nd a) : aO a = [] ∧ aL a ≠ [] ∧ aN a 4 = 3 := by
  unfold fin at h
  rw [Bool.and_eq_true, Bool.and_eq_true] at h
  have h4 : aN a 4 = 3 := by simpa using h.2
  obtain ⟨⟨-, -, -, -, -, ⟨-, p2, -, -⟩, -⟩, ⟨-, -, b3⟩, -⟩ := hG
  refine ⟨?_, b3 h4, h4⟩
  refine Classical.byContradiction (fun z => ?_)
  have := p2.mpr z
  omega
set_option maxHeartbeats 1000000 in
theorem sp_good (hln : JLn L rm nd) (hlm : JLm L) (hlv : JLv L rm nd) (hls : JLs L nd) (hn : n ≤ 65536) (hj : jdg rm nd B n = .inr a) (hR : RJ L rm nd σ a) (hG : GI rm nd a) (hC : JC L σ a) (hf : fin a = true) (h01 : σ.1 0 1 = 0) (hz : (∀ w, w < L 155 → σ.2 156 w = 0) ∧ ∀ w, w < L 155 → σ.2 158 w = if w = 6 then 8 else 0) (hq : ∀ (τ : IS) (v : Int), JI L rm nd (L 999 + 1000000) τ → τ.1 0 1 = 0 → JG L τ a → (v = 0 ↔ ∀ k, k < 23 → cnV a k = 0) → Q (if v = 0 then 0 else 1) τ) : wVal L Q (pf (pf (pf σ 0 13 0) 0 12 1) 0 14 (-1)) := by
  have hGV := jdg_GV hn hj
  have hGS := jdg_GS hn hj
  have hGD := jdg_GDl hn hj
  have hGW := jdg_GW hn hj
  have hGN := jdg_GN hn hj
  obtain ⟨fO, fL, f4⟩ := fin_of hf hG
  obtain ⟨jZ, -, -, jN, jR, jD, jA, jT, jE, jB, jS, j24, j26⟩ := id hR
  obtain ⟨zS, zch, zw, zc, ⟨⟨z16, z16b, z12, -⟩, zm⟩, zr, -, z2⟩ := id jZ
  obtain ⟨c1, c2, c3, c4, c5⟩ := id hC
  rw [fO, List.length_nil, Nat.add_zero] at c1
  have hsl : SL L := hln.1
  have e155 : L 102 = L 155 := hsl.2.2.2.1
  have hzer := hR.zer
  obtain ⟨-, ⟨hr1, hr2, hr3, hr4, hr5⟩, -, h102, -⟩ := id hln
  have l136 : L 136 = rm := hln.2.2.2.2.2.2.2.2.2.2.2
  obtain ⟨⟨n129, n130, n131, n132, n133, n146, n150, n151, n152⟩, ⟨n134, n135, n161⟩, -, -, ⟨hLel, hLat, hLed, hLad⟩, -⟩ := val_nums hln hlv hG
  have gnum : aN a 0 ≤ rm ∧ evl (aS a) ≤ rm ∧ aN a 2 ≤ rm ∧ aN a 3 ≤ nd ∧ (aB a).length ≤ nd := by
    obtain ⟨⟨-, -, ⟨g1, g2, -, -⟩, ⟨-, -, -, g3, -, g5, -⟩, ⟨g7, g8⟩, -⟩, -⟩ := id hG
    omega
  have hrsv : 4 * (dst (nms a)).length + cnl (aD a) = rsv a := rfl
  have gC := hG.2.2.1
  unfold wVal
  generalize hσ0 : pf (pf (pf σ 0 13 0) 0 12 1) 0 14 (-1) = σ0
  have f0 : ∀ o k, o ≠ 0 → σ0.1 o k = σ.1 o k := fun o k ho => by rw [← hσ0, pf_1, if_neg (by omega), pf_1, if_neg (by omega), pf_1, if_neg (by omega)]
  have f00 : σ0.1 0 1 = 0 ∧ σ0.1 0 12 = 1 ∧ σ0.1 0 13 = 0 ∧ σ0.1 0 14 = -1 := by
    rw [← hσ0]
    refine ⟨?_, ?_, ?_, ?_⟩
    · rw [pf_nk (by decide), pf_nk (by decide), pf_nk (by decide)]; exact h01
    · rw [pf_nk (by decide), pf_eq]
    · rw [pf_nk (by decide), pf_nk (by decide), pf_eq]
    · rw [pf_eq]
  have r0 : σ0.2 = σ.2 := by rw [← hσ0]; rfl
  have s0 := SI_of zS (σ' := σ0) (f0 1 14 (by decide)) (by rw [f0 1 3 (by decide)]; have := zS.1; omega) (fun r _ _ => by rw [r0]) (fun i _ => by rw [r0])
  have jw0 : jw σ0 = jw σ := by unfold jw; rw [f0 1 14 (by decide)]
  have hD0 : JEd L σ0 (aD a) := jD.dep s0.2 s0.1 hsl ⟨fun o k q => f0 o k (by simp [fEd] at q; omega), fun r _ => by rw [r0]⟩
  have hA0 : JAd L σ0 (aA a) := jA.dep s0.2 s0.1 hsl ⟨fun o k q => f0 o k (by simp [fAd] at q; omega), fun r _ => by rw [r0]⟩
  have hT0 : JNt L σ0 (aT a) := jT.dep s0.2 s0.1 hsl ⟨fun o k q => f0 o k (by simp [fNt] at q; omega), fun r _ => by rw [r0]⟩
  have hE0 : JEl σ0 (aL a) (aO a) := jE.dep s0.2 ⟨fun o k q => f0 o k (by simp [fEl] at q; omega), fun r _ => by rw [r0]⟩
  have hB0 : JAt σ0 (aB a) := jB.dep s0.2 ⟨fun o k q => f0 o k (by simp [fAt] at q; omega), fun r _ => by rw [r0]⟩
  have hS0 : JSt σ0 (aS a) := jS.dep s0.2 ⟨fun o k q => f0 o k (by simp [fSt] at q; omega), fun r _ => by rw [r0]⟩
  have hN0 : JNu σ0 (aN a) := jN.dep ⟨fun o k q => f0 o k (by simp [fNu] at q; omega), fun r _ => by rw [r0]⟩
  have hR0 : JRo σ0 (aR a) := jR.dep s0.2 ⟨fun o k q => f0 o k (by simp [fRo] at q; omega), fun r _ => by rw [r0]⟩
  have e16 : σ0.1 1 16 = σ.1 1 16 := f0 1 16 (by decide)
  refine sp_Validator_countAll hln hlv s0.1 hR0 hN0 hD0 hA0 hT0 hE0 hB0 hG hGV hGS hGD fL ⟨by rw [e16]; exact z16, by rw [e16]; omega⟩ (fun w => by rw [r0, e16]; exact zm w) (by rw [jw0]; omega) (by rw [f0 4 16 (by decide)]; omega) (by omega) (fun σ1 v1 v2 v3 v4 v5 => ?_)
  rw [jw0] at v5
  rw [e16] at v3
  have h26 : σ1.1 2 6 = (aN a 2 : Int) := by rw [v1.1 2 6 (by omega) (by omega) (by omega) (by omega), f0 2 6 (by decide)]; exact j26
  rw [h26]
  have g1 : jw σ ≤ jw σ1 := by have := v1.2.2.1.1; omega
  have hw1 : ∀ i, i < jw σ → wst σ1 i = wst σ i := fun i hi => by
    rw [v1.2.2.1.2.2.1 i (by rw [jw0]; exact hi), s0.2.2.2.1 i hi]
  have hML : MLm L (aL a) (aB a) := ⟨hsl, ⟨hlm.1, hls.1, hlm.2⟩, ⟨n146, n129, n130, n131, by omega⟩, ⟨n161, n134, by rw [hls.2.1]; exact gnum.2.2.2.2, by omega⟩, hls.2.2, fun x hx => (gC x hx).1⟩
  have hstR : stR ((aL a).map (fun x => x.2.1)) (aS a) ([], 0) = some ([], (aL a).length) := by
    have := hGW.2.1
    rw [fO] at this
    exact this
  refine sp_Meanings_countAll (NM := nms a) (os := aO a) (cl := aN a 2) hML ⟨by rw [l136]; exact gnum.2.1, by omega⟩ hstR (fun i hi => ?_) hGS.1 (fun x hx => hGN.dst hx) ⟨hLel, hLat⟩ v1.2.2.2 (v1.el hE0) (v1.at' hB0) (v1.st hS0) ⟨by omega, fun i hi => by rw [hw1 i (by omega)]; exact zw.2 i hi⟩ (fun v hv => ?_) (fun w hw => ?_) (by omega) (fun x hx => ?_) (fun x hx => ?_) (by omega) ⟨by omega, by omega⟩ v2 (fun τ m1 m2 m3 m4 m5 m6 m7 m8 m9 => ?_)
  · have := hGV.2 i (e5 ((aL a).getD i elD)) (by rw [List.getElem?_map, List.getElem?_eq_getElem hi, List.getD_eq_getElem?_getD, List.getElem?_eq_getElem hi]; rfl)
    exact this
  · rw [v1.2.1 156 (by omega) (by omega) (by omega), r0]; exact hz.1 v hv
  · rw [v1.2.1 158 (by omega) (by omega) (by omega), r0]; exact hz.2 w hw
  · unfold nms
    exact List.mem_append_left _ (List.mem_map.mpr ⟨x, hx, rfl⟩)
  · unfold nms
    exact List.mem_append_right _ (List.mem_append_left _ (List.mem_map.mpr ⟨x, hx, rfl⟩))
  · have e149 : τ.2 149 = σ1.2 149 := m1.2.1 149 (by omega) (by omega)
    refine sp_Validator_sum hlv.2.1 (fun v hv => ?_)
    have gτ : sgr σ τ := s0.2.trans (v1.2.2.1.trans m1.2.2.1)
    have ff : ∀ o k, o ≠ 0 → ¬ (o = 2 ∧ (k = 2 ∨ k = 3)) → ¬ (o = 1 ∧ (k = 13 ∨ k = 14 ∨ k = 16)) → ¬ (o = 8 ∧ k = 13) → ¬ (o = 9 ∧ (k = 3 ∨ k = 12)) → ¬ (o = 10 ∧ k = 7) → τ.1 o k = σ.1 o k := fun o k y0 y1 y2 y3 y4 y5 => by rw [m1.1 o k y2 y5, v1.1 o k y1 y2 y3 y4, f0 o k y0]
    have rr : ∀ r, ¬ (102 ≤ r ∧ r ≤ 106) → ¬ (137 ≤ r ∧ r ≤ 145) → ¬ (149 ≤ r ∧ r ≤ 160) → τ.2 r = σ.2 r := fun r y1 y2 y3 => by rw [m1.2.1 r y1 (by omega), v1.2.1 r y1 y2 (by omega), r0]
    have hJI : JI L rm nd (L 999 + 1000000) τ := by
      refine ⟨m1.2.2.2, fun i hi => by rw [rr 101 (by omega) (by omega) (by omega)]; exact zch i hi, ⟨Nat.le_trans zw.1 gτ.1, fun i hi => by rw [gτ.2.2.1 i (by omega)]; exact zw.2 i hi⟩, ⟨by rw [ff 1 12 (by decide) (by omega) (by omega) (by omega) (by omega) (by omega)]; exact zc.1, by rw [ff 1 0 (by decide) (by omega) (by omega) (by omega) (by omega) (by omega)]; exact zc.2.1, by rw [ff 6 0 (by decide) (by omega) (by omega) (by omega) (by omega) (by omega)]; exact zc.2.2⟩, ⟨⟨by omega, by omega⟩, m8⟩, fun j h1 h2 => by rw [ff 2 j (by decide) (by omega) (by omega) (by omega) (by omega) (by omega)]; exact zr j h1 h2, fun r hr' w hw1' hw2 => ?_, ?_⟩
      · have hjj : jw σ ≤ w := Nat.le_trans gτ.1 hw1'
        by_cases y : r = 156 ∨ r = 158
        · have := m4 w hw1' hw2
          rcases y with y | y
          · rw [y]; exact this.1
          · rw [y]; exact this.2
        · rw [rr r (by omega) (by omega) (by omega)]
          exact hzer r (by omega) w hjj hw2
      · rw [ff 1 2 (by decide) (by omega) (by omega) (by omega) (by omega) (by omega), ff 1 3 (by decide) (by omega) (by omega) (by omega) (by omega) (by omega)]
        refine ⟨z2.1, z2.2.1, z2.2.2.1, fun i hi => ?_⟩
        have := gτ.2.2.2.2 i (by omega)
        rw [this.1, this.2]
        exact z2.2.2.2 i hi
    have o0 : ∀ k, τ.1 0 k = σ0.1 0 k := fun k => by rw [m1.1 0 k (by omega) (by omega), v1.1 0 k (by omega) (by omega) (by omega) (by omega)]
    refine hq τ v hJI (by rw [o0]; exact f00.1) ⟨⟨by rw [o0]; exact f00.2.1, by rw [o0]; exact f00.2.2.1, by rw [o0]; exact f00.2.2.2⟩, m1.el (v1.el hE0), m1.at' (v1.at' hB0), m1.st (v1.st hS0), ?_, m2, m3, fun k => by rw [e149]; exact v4 k, fun k => m5 k, m6⟩ ?_
    · exact jN.dep ⟨fun o k q => ff o k (by simp [fNu] at q; omega) (by simp [fNu] at q; omega) (by simp [fNu] at q; omega) (by simp [fNu] at q; omega) (by simp [fNu] at q; omega) (by simp [fNu] at q; omega), fun r q => by cases q⟩
    · rw [hv]
      constructor
      · intro h k hk
        have := h k hk
        rw [e149, v4 k] at this
        omega
      · intro h k hk
        rw [e149, v4 k, h k hk]
        decide
end Gde
