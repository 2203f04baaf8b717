/-! ===== items of the class: tags (3): a value in a tag; reading on with a fault ===== -/
/-- a fault, and enough for the reader's and the tree's methods to end -/
def BR (L : Nat → Nat) (rm nd n f : Nat) (pl : Int) (σ : IS) : Prop := JBd L rm nd σ f pl ∧ JTs L nd n σ ∧ ∃ e p, JT L σ e p ∧ p ≤ e
section JI34
variable {L : Nat → Nat} {rm nd n f : Nat} {pl : Int} {ρ σ τ : IS} {a : AS} {Q : IS → Prop}
theorem BR.ne (h : BR L rm nd n f pl σ) : σ.1 2 4 ≠ 0 := by rw [h.1.2.1]; have := h.1.2.2.1; omega
theorem JBd.pos {x : Int} (h : JBd L rm nd σ f pl) : JBd L rm nd (pf σ 2 2 x) f pl := by
  obtain ⟨h1, h2, h3, h4, h5⟩ := h
  have hS0 := SI_pf (o := 2) (k := 2) (x := x) h1.1 (by omega)
  refine ⟨h1.dep hS0.1 hS0.2 h1.2.1 (h1.2.2.2.2.2.1.low (by decide)) (ag.refl.pf rfl), by rw [pf_nk (by decide)]; exact h2, h3, by rw [pf_nk (by decide)]; exact h4, fun r hr w w1 w2 => h5 r hr w ?_ w2⟩
  have : jw (pf σ 2 2 x) = jw σ := by unfold jw; rw [pf_no (by decide)]
  omega
theorem BR.pos {e q : Nat} (h : BR L rm nd n f pl σ) (he : σ.1 2 3 = (e : Int)) (hq : q ≤ e) : BR L rm nd n f pl (pf σ 2 2 (q : Int)) := by
  obtain ⟨h1, h2, e', p, h3, h4⟩ := h
  have hee : e' = e := by have := h3.2.1; omega
  subst hee
  refine ⟨h1.pos, ?_, e', q, JT_pos h3 (by omega), hq⟩
  unfold JTs
  rw [pf_no (by decide), pf_no (by decide), pf_no (by decide), pf_no (by decide)]
  exact h2
theorem br_skipSpace {Q : Int → IS → Prop} (h : BR L rm nd n f pl σ) (hq : ∀ v σ', BR L rm nd n f pl σ' → Q v σ') : w_Reader_skipSpace L Q σ := by
  obtain ⟨e, p, h3, h4⟩ := h.2.2
  exact sp_Reader_skipSpace h3 (hq _ _ (h.pos h3.2.1 (sk_le h4).2))
theorem br_need {s : Nat} {l : List Int} (hs : ti s = l) (hl : 0 < l.length) (h : BR L rm nd n f pl σ) (hq : ∀ σ', BR L rm nd n f pl σ' → Q σ') : w_Reader_need L s Q σ := by
  obtain ⟨e, p, h3, h4⟩ := h.2.2
  refine sp_Reader_need h3 hs hl (fun hm => hq _ (h.pos h3.2.1 (wd_bad hs hl hm))) (fun hm => ?_)
  rw [flt_ne h.ne]
  exact hq _ h
theorem br_skip {Q : Int → IS → Prop} {s : Nat} {l : List Int} (hs : ti s = l) (hl : 0 < l.length) (h : BR L rm nd n f pl σ) (hq : ∀ v σ', BR L rm nd n f pl σ' → Q v σ') : w_Reader_skip L s Q σ := by
  obtain ⟨e, p, h3, h4⟩ := h.2.2
  exact sp_Reader_skip h3 hs hl (fun hm => hq _ _ (h.pos h3.2.1 (wd_bad hs hl hm))) (fun hm => hq _ _ h)
/-- an attribute added with a fault -/
theorem br_addAtt {x v d g : Int} {m : Nat} (hln : JLn L rm nd) (h : BR L rm nd n f pl σ) (hn : n ≤ 1000000) (h10 : 0 ≤ σ.1 6 10) (ho : 0 ≤ σ.1 6 3 → (0 ≤ σ.2 131 (σ.1 6 3).toNat ∧ σ.2 131 (σ.1 6 3).toNat ≤ (m : Int)) ∧ (0 ≤ σ.2 132 (σ.1 6 3).toNat ∧ σ.2 132 (σ.1 6 3).toNat ≤ (m : Int))) (hm : m ≤ 1000000) (hq : ∀ σ', BR L rm nd (n + 1) f pl σ' → Q σ') : w_Tree_addAttribute L x v d g Q σ := by
  have hrm := hln.2.1
  obtain ⟨hLr, h146, h161⟩ := hln.2.2.2.2.2.2.2.2.2.2.1
  have h131 := hLr 131 (by omega) (by omega)
  have h132 := hLr 132 (by omega) (by omega)
  have h134 := hLr 134 (by omega) (by omega)
  have h135 := hLr 135 (by omega) (by omega)
  obtain ⟨hB, hT, hJ⟩ := h
  have e60 : σ.1 6 0 = (nd : Int) := hB.1.2.2.2.1.2.2
  have hgo : ∀ φ : IS, (∀ o k, ¬ (o = 6 ∧ (k = 1 ∨ k = 10)) → φ.1 o k = σ.1 o k) → φ.1 6 1 = σ.1 6 1 + 1 → (∀ r, r < 129 ∨ (136 < r ∧ r ≠ 146 ∧ r ≠ 161) → φ.2 r = σ.2 r) → Q φ := by
    intro φ hf h1 hr
    refine hq φ ⟨hB.tree (fun o k hk => hf o k (by omega)) hr, ?_, ?_⟩
    · obtain ⟨t1, t2, t3, t4⟩ := hT
      unfold JTs
      rw [hf 6 3 (by omega), h1, hf 6 16 (by omega), hf 6 15 (by omega)]
      exact ⟨t1, by omega, by omega, t4⟩
    · obtain ⟨e, p, ⟨j1, j2, j3, j4, j5⟩, j6⟩ := hJ
      exact ⟨e, p, ⟨by rw [hf 2 2 (by omega)]; exact j1, by rw [hf 2 3 (by omega)]; exact j2, j3, j4, j5⟩, j6⟩
  have ht1 := hT.1
  have ht2 := hT.2.1
  unfold w_Tree_addAttribute
  refine ⟨⟨by omega, by omega⟩, WJ_dir ?_⟩
  dsimp only
  split
  · rename_i c
    have h3 : 0 ≤ σ.1 6 3 ∧ σ.1 6 3 < (nd : Int) := by omega
    obtain ⟨o1, o2⟩ := ho h3.1
    refine ⟨⟨by omega, by omega⟩, ⟨by omega, by omega⟩, ⟨by omega, by omega⟩, ⟨by omega, by omega⟩, ⟨by omega, by omega⟩, ⟨by omega, by omega⟩, ⟨by omega, by omega⟩, ?_⟩
    split
    · refine hgo _ (fun o k hk => ?_) ?_ (fun r hr => funext (fun j => ?_))
      · rw [pr_1, pf_1, if_neg (by omega), pr_1, pr_1, pr_1, pf_1, if_neg (by omega)]
      · rw [pr_1, pf_nk (by decide), pr_1, pr_1, pr_1, pf_eq]
      · rw [pr_2, if_neg (by omega), pf_2, pr_2, if_neg (by omega), pr_2, if_neg (by omega), pr_2, if_neg (by omega), pf_2]
    · refine ⟨⟨by omega, by omega⟩, ⟨?_, ?_⟩, ⟨by omega, by omega⟩, ?_⟩
      · omega
      · omega
      · refine hgo _ (fun o k hk => ?_) ?_ (fun r hr => funext (fun j => ?_))
        · rw [pr_1, pr_1, pf_1, if_neg (by omega), pr_1, pr_1, pr_1, pf_1, if_neg (by omega)]
        · rw [pr_1, pr_1, pf_nk (by decide), pr_1, pr_1, pr_1, pf_eq]
        · rw [pr_2, if_neg (by omega), pr_2, if_neg (by omega), pf_2, pr_2, if_neg (by omega), pr_2, if_neg (by omega), pr_2, if_neg (by omega), pf_2]
  · exact hgo _ (fun o k hk => by rw [pf_1, if_neg (by omega)]) (by rw [pf_eq]) (fun r hr => rfl)
end JI34
section JI34b
variable {L : Nat → Nat} {rm nd : Nat} {ρ σ τ : IS}
set_option maxHeartbeats 1000000 in
theorem sp_value2 {Q : Int → IS → Prop} {B : AS} {l : List Int} {g : Nat × Nat} {t : List Frm} {v j ty : Nat} {d : Int} (hln : JLn L rm nd) (hR : RJ L rm nd ρ (adv B v)) (hF : aF B = (l, g) :: t) (hv : vlp (gd l) l.length (some v) = some j) (hGO : GO (aE B) (aF B)) (hen : (aE B).length < rm / 14 + 2) (hN5 : aN B 5 ≤ 1) (hc : aN B 0 ≤ rm) (hl : j - 1 - (v + 1) ≤ aN B 0) (hm : aN B 1 ≤ 700000) (hcapT : jtp ρ + (j - 1 - (v + 1)) + (rm - aN B 0) ≤ L 101) (hcapW : jw ρ < L 102) (hd : (d = -1 ∧ ty = 0) ∨ ∃ i : Nat, d = (i : Int) ∧ i < rm / 8 + 2 ∧ ρ.2 118 i = (ty : Int) + 10)
    (hbad : ∀ f ρ' x, val rm B (sl (gd l) (v + 1) (j - 1 - (v + 1))) (aN B 0) (aN B 1) = .inl f → JBd L rm nd ρ' f (ρ.1 2 5) → (∀ k, ρ'.1 6 k = ρ.1 6 k) → (∀ r, 113 < r → ρ'.2 r = ρ.2 r) → (∃ e p, JT L ρ' e p ∧ p ≤ e) → Q x ρ')
    (hgood : ∀ c m out x ρ', val rm B (sl (gd l) (v + 1) (j - 1 - (v + 1))) (aN B 0) (aN B 1) = .inr (c, m, out) → RJ L rm nd ρ' (adv (sN (sN B 0 c) 1 m) j) → sgr ρ ρ' → Jn ρ' x (nrt ty out) → (jw ρ' ≤ jw ρ + 1 ∧ (nrt ty out = [] → jw ρ' = jw ρ)) → jtp ρ' ≤ jtp ρ + (nrt ty out).length → c ≤ rm → (∀ o k, ¬ (o = 1 ∧ (k = 3 ∨ k = 13 ∨ k = 14)) → ¬ (o = 2 ∧ k ≠ 5) → ¬ (o = 3 ∧ 12 ≤ k ∧ k ≤ 14) → ρ'.1 o k = ρ.1 o k) → (∀ r, 113 < r → ρ'.2 r = ρ.2 r) → ρ'.1 2 3 = ρ.1 2 3 → Q x ρ') :
    w_Entities_readValue L (fun v80 σ79 => ((¬ d = (-1) → inL L 118 d)) ∧ w_Entities_keepValue L v80 (if d = (-1) then (10 : Int) else (σ79.2 118 (Int.toNat d))) Q σ79) ρ := by
  obtain ⟨hcut, hqt, hvl⟩ := vlp_cut hv
  have hgt := vlp_gt hv
  have h118 := hln.2.2.2.2.2.2.2.1.1 118 (by omega) (by omega)
  rw [adv_of hF] at hR
  have hF' : aF (sF B ((l.drop v, g) :: t)) = (l.drop v, g) :: t := rfl
  have hlen0 : (sl (gd l) (v + 1) (j - 1 - (v + 1))).length = j - 1 - (v + 1) := sl_len2
  generalize hl0 : sl (gd l) (v + 1) (j - 1 - (v + 1)) = l0 at *
  generalize hq : gd l v = q at *
  have hJF := hR.2.1
  rw [hF', hcut] at hJF
  have hJE := hR.2.2.1
  have hbsy : bsy (sF B ((l.drop v, g) :: t)) = g.1 :: t.map (fun z => z.2.1) := rfl
  have hbB : bsy B = g.1 :: t.map (fun z => z.2.1) := by unfold bsy; rw [hF]; rfl
  rw [hbsy] at hJE
  obtain ⟨n1, n2, n3, n4, n5, n6⟩ := hR.2.2.2.1
  have hZ := hR.1
  have hun : und B = true ↔ ¬ (ρ.1 3 15 = 0 ∧ ¬ ρ.1 3 16 = 0) := by
    have m4 : ρ.1 3 15 = (aN B 5 : Int) := n4
    have m5 : ρ.1 3 16 = (aN B 6 : Int) := n5
    unfold und
    rw [m4, m5, Bool.or_eq_true, beq_iff_eq, beq_iff_eq]
    omega
  have h4 : ρ.1 2 4 = 0 := hR.2.2.2.2.2.2.2.2.2.2.2.1
  have hval : ∀ y, val rm B l0 (aN B 0) (aN B 1) = y ↔ vrn rm (aE B) (g.1 :: t.map (fun z => z.2.1)) (und B) (2 * rm + 3) ([(l0, 0)], aN B 0, aN B 1, []) = y := fun y => by unfold val; rw [hbB]
  have hinL : ¬ d = (-1) → inL L 118 d := fun hd1 => by
    rcases hd with hd | ⟨i, hi1, hi2, -⟩
    · exact absurd hd.1 hd1
    · exact ⟨by omega, by omega⟩
  have htyv : ∀ σ1 : IS, σ1.2 118 = ρ.2 118 → (if d = (-1) then (10 : Int) else (σ1.2 118 (Int.toNat d))) = (ty : Int) + 10 := fun σ1 h1 => by
    rcases hd with hd | ⟨i, hi1, hi2, hi3⟩
    · rw [if_pos hd.1, hd.2]; rfl
    · rw [if_neg (by omega), hi1, show Int.toNat (i : Int) = i by omega, h1, hi3]
  refine j_readValue (en := aE B) (os := aO B) (f2 := g) (t := t) (q := q) (l0 := l0) (aft := l.drop j) (c0 := aN B 0) (m0 := aN B 1) (un := und B) hln hZ h4 hJF hJE ?_ n1 n2 hc (by rw [hlen0]; exact hl) hm hun hqt hvl (by rw [hlen0]; exact hcapT) hen (fun f σ1 hf hvb => ⟨hinL, ?_⟩) (fun c m out σ1 hok z1 z2 z3 z4 z5 z6 z7 z8 z9 z10 z11 => ⟨hinL, ?_⟩)
  · rw [hF] at hGO
    refine ⟨hGO.1, fun f hf => ?_⟩
    rcases List.mem_cons.mp hf with rfl | hf
    · exact hGO.2 (l, g) List.mem_cons_self
    · exact hGO.2 f (List.mem_cons_of_mem _ hf)
  · obtain ⟨w1, w2, w3, w4, w5, w6⟩ := hvb
    rw [htyv σ1 (w4.1.2 118 rfl)]
    refine sp_keepValue (t := ty) (out := sl (σ1.2 101) (jtp ρ) (jtp σ1 - jtp ρ)) hln hZ rfl w1 w4 ⟨by rw [sl_len2]; omega, by rw [sl_len2]⟩ hcapW rfl (fun x σ2 y1 y2 y3 y4 y5 y6 => ?_)
    refine hbad f σ2 x ((hval _).mpr hf) ⟨y1, by rw [y6.1 2 4 rfl]; exact w2, w3, by rw [y6.1 2 5 rfl]; exact w4.1.1 2 5 rfl, fun r hr w u1 u2 => ?_⟩ (fun k => by rw [y6.1 6 k rfl]; exact w4.1.1 6 k rfl) (fun r hr => by rw [y6.2 r (by simp [rK]; omega)]; exact w4.1.2 r (by simp [rV]; omega)) ?_
    · rw [y6.2 r (by rcases hr with rfl | rfl | rfl | rfl | rfl <;> rfl), w4.1.2 r (by rcases hr with rfl | rfl | rfl | rfl | rfl <;> rfl)]
      have := y2.1
      exact hR.zer r hr w (by omega) u2
    · obtain ⟨e, p, ⟨j1, j2, j3, j4, j5⟩, j6⟩ := w6
      exact ⟨e, p, ⟨by rw [y6.1 2 2 rfl]; exact j1, by rw [y6.1 2 3 rfl]; exact j2, j3, j4, j5⟩, j6⟩
  · rw [htyv σ1 (z7.1.2 118 rfl)]
    refine sp_keepValue (t := ty) (out := out) hln hZ rfl z1 z7 z6 hcapW rfl (fun x σ2 y1 y2 y3 y4 y5 y6 => ?_)
    have hlow : ∀ i, i < jtp ρ → σ2.2 101 i = σ1.2 101 i := fun i hi => by rw [z7.2 i hi]; exact y2.2.2.2.1 i hi
    have hJF2 := z3.low (τ := σ2) z11 y2.2.1 hlow (y6.sub (fun o k hk => by simp [fFr] at hk; simp [fK]; omega) (fun r hr => by simp [rFr] at hr; simp [rK]; omega))
    have hf12 : ∀ o k, fV o k = true → fK o k = true → σ2.1 o k = ρ.1 o k := fun o k k1 k2 => by rw [y6.1 o k k2]; exact z7.1.1 o k k1
    have hr12 : ∀ r, rV r = true → rK r = true → σ2.2 r = ρ.2 r := fun r k1 k2 => by rw [y6.2 r k2]; exact z7.1.2 r k1
    have hJE2 : JEn L σ2 (aE B) (g.1 :: t.map (fun z => z.2.1)) := by
      refine ⟨by rw [hf12 3 5 rfl rfl]; exact hJE.1, fun i hi => ?_, hJE.2.2.1.gr y2 y1.1 hln.1 (hr12 114 rfl rfl), hJE.2.2.2.gr y2 y1.1 hln.1 (hr12 115 rfl rfl)⟩
      obtain ⟨d1, d2, -⟩ := hJE.2.1 i hi
      obtain ⟨-, -, d3⟩ := z4.2.1 i hi
      rw [hr12 107 rfl rfl, hr12 108 rfl rfl, y6.2 109 rfl]
      exact ⟨d1.gr y2, d2, d3⟩
    have hA : ∀ (F : Nat → Nat → Bool) (R : Nat → Bool), (∀ o k, F o k = true → fV o k = true ∧ fK o k = true) → (∀ r, R r = true → rV r = true ∧ rK r = true) → ag F R ρ σ2 := fun F R k1 k2 => ⟨fun o k hk => hf12 o k (k1 o k hk).1 (k1 o k hk).2, fun r hr => hr12 r (k2 r hr).1 (k2 r hr).2⟩
    have hF3 : aF (sN (sN B 0 c) 1 m) = (l, g) :: t := hF
    refine hgood c m out x σ2 ((hval _).mpr hok) ?_ y2 y3 y4 y5 z8 (fun o k k1 k2 k3 => hf12 o k (by simp [fV]; omega) (by simp [fK]; omega)) (fun r hr => hr12 r (by simp [rV]; omega) (by simp [rK]; omega)) (by rw [y6.1 2 3 rfl]; exact z11.2.2.1 (by have := z3.1; rw [List.length_cons] at this; dsimp only; omega))
    rw [adv_of hF3]
    refine hR.mk' hln y1 y2 (Or.inr hJF2) (Or.inr hJE2) (Or.inr ?_) (Or.inl ⟨hA _ _ (fun o k hk => by simp [fRo] at hk; simp [fV, fK]; omega) (fun r hr => by simp [rNo] at hr), rfl⟩) (Or.inl ⟨hA _ _ (fun o k hk => by simp [fEd] at hk; simp [fV, fK]; omega) (fun r hr => by simp [rEd] at hr; simp [rV, rK]; omega), rfl⟩) (Or.inl ⟨hA _ _ (fun o k hk => by simp [fAd] at hk; simp [fV, fK]; omega) (fun r hr => by simp [rAd] at hr; simp [rV, rK]; omega), rfl⟩) (Or.inl ⟨hA _ _ (fun o k hk => by simp [fNt] at hk; simp [fV, fK]; omega) (fun r hr => by simp [rNt] at hr; simp [rV, rK]; omega), rfl⟩) (Or.inl ⟨hA _ _ (fun o k hk => by simp [fEl] at hk; simp [fV, fK]; omega) (fun r hr => by simp [rEl] at hr; simp [rV, rK]; omega), rfl, rfl⟩) (Or.inl ⟨hA _ _ (fun o k hk => by simp [fAt] at hk; simp [fV, fK]; omega) (fun r hr => by simp [rAt] at hr; simp [rV, rK]; omega), rfl⟩) (Or.inl ⟨hA _ _ (fun o k hk => by simp [fSt] at hk; simp [fV, fK]; omega) (fun r hr => by simp [rSt] at hr; simp [rV, rK]; omega), rfl⟩) ⟨?_, ?_⟩
    · refine ⟨?_, ?_, ?_, ?_, ?_, ?_⟩
      · rw [y6.1 3 13 rfl]; exact z5.1
      · rw [y6.1 3 14 rfl]; exact z5.2.1
      · rw [hf12 6 1 rfl rfl]; exact n3
      · rw [hf12 3 15 rfl rfl]; exact n4
      · rw [hf12 3 16 rfl rfl]; exact n5
      · rw [hf12 5 6 rfl rfl]; exact n6
    · rw [y6.1 2 4 rfl]; exact z2
    · rw [y6.1 2 6 rfl, z5.2.2]
      exact hR.2.2.2.2.2.2.2.2.2.2.2.2
end JI34b
