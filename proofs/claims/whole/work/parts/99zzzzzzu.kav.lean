/-! ===== items of the reference: a list of attributes ===== -/
/-- what a list of attributes keeps -/
def nmAl (a : AS) : List Str := adWo (gd (cur a)) (cur a).length (nmg (gd (cur a)) (cur a).length true (spc (gd (cur a)) (cur a).length (some 9))) ++ (match spc (gd (cur a)) (cur a).length (some 9), alk (gd (cur a)) (cur a).length 0 with
  | some s, some _ => (match nmg (gd (cur a)) (cur a).length true (some s) with
    | none => []
    | some n => sl (gd (cur a)) s (n - s) :: adXn (gd (cur a)) (cur a).length ((cur a).length + 1) n)
  | _, _ => [])
/-- what it violates -/
def dvAl (rm : Nat) (a : AS) (k : Nat) : Nat := match iAtl rm a with
  | .inl _ => 0
  | .inr a' => dAs (aA a') k - dAs (aA a) k
section Kav
variable {L : Nat → Nat} {rm nd o : Nat} {σ ρ τ : IS} {g g' : KG} {a : AS} {Q : IS → Prop} {T : Nat → Int} {p e : Nat} {el : Str}
theorem dfs_mono : ∀ (l : List Nat) (c m : Nat) (ad : List ADc) {c' m' : Nat} {ad' : List ADc} {k : Nat}, dfs rm a T e el l c m ad = .inr (c', m', ad') → dAs ad k ≤ dAs ad' k
  | [], c, m, ad, c', m', ad', k, h => by
    have h' : (Sum.inr (c, m, ad) : Nat ⊕ (Nat × Nat × List ADc)) = .inr (c', m', ad') := h
    have := (Prod.mk.inj (Prod.mk.inj (Sum.inr.inj h')).2).2
    rw [this]
    exact Nat.le_refl _
  | x :: l, c, m, ad, c', m', ad', k, h => by
    have h' : (match dfa rm a T e el x c m ad with
      | .inl f => (Sum.inl f : Nat ⊕ (Nat × Nat × List ADc))
      | .inr (c', m', ad') => dfs rm a T e el l c' m' ad') = .inr (c', m', ad') := h
    cases hd : dfa rm a T e el x c m ad with
    | inl f => rw [hd] at h'; cases h'
    | inr z =>
      obtain ⟨c1, m1, ad1⟩ := z
      rw [hd] at h'
      have ih := dfs_mono l c1 m1 ad1 (k := k) h'
      refine Nat.le_trans ?_ ih
      unfold dfa at hd
      cases hn : nmg T e true (some x) with
      | none => rw [hn] at hd; cases hd
      | some b =>
        rw [hn] at hd
        dsimp only at hd
        cases hs : spc T e (some b) with
        | none => rw [hs] at hd; cases hd
        | some y =>
          rw [hs] at hd
          dsimp only at hd
          cases ht : spc T e (typ T e y) with
          | none => rw [ht] at hd; cases hd
          | some w =>
            rw [ht] at hd
            dsimp only at hd
            have fin_ : ∀ X : ADc, ad1 = (if (adf ad el (sl T x (b - x))).isSome = true then ad else ad ++ [X]) → dAs ad k ≤ dAs ad1 k := fun X hX => by
              rw [hX]
              split
              · exact Nat.le_refl _
              · rw [dAs_s]; omega
            cases hv : dfV T e w with
            | none =>
              rw [hv] at hd
              exact fin_ _ (Prod.mk.inj (Prod.mk.inj (Sum.inr.inj hd)).2).2.symm
            | some v =>
              rw [hv] at hd
              dsimp only at hd
              cases hj : vlp T e (some v) with
              | none => rw [hj] at hd; cases hd
              | some j =>
                rw [hj] at hd
                dsimp only at hd
                cases hval : val rm a (sl T (v + 1) (j - 1 - (v + 1))) c m with
                | inl f => rw [hval] at hd; cases hd
                | inr z =>
                  obtain ⟨c2, m2, o2⟩ := z
                  rw [hval] at hd
                  exact fin_ _ (Prod.mk.inj (Prod.mk.inj (Sum.inr.inj hd)).2).2.symm
set_option maxHeartbeats 8000000 in
theorem qI_atl (hL : KLn L o rm nd) (h : RK rm nd o σ g a) (hG : GK rm nd a) (hC : KC rm g a) (hm : 9 ≤ (cur a).length) (hV : ∀ k, gV g k ≤ 300000000) (hB0 : aB a = []) (hS0 : (kNs (aS a)).2 = false) (hrw : nLs (aD a) (aA a) + (adWo (gd (cur a)) (cur a).length (nmg (gd (cur a)) (cur a).length true (spc (gd (cur a)) (cur a).length (some 9)))).length ≤ 50000) (hrx : ∀ s n k, spc (gd (cur a)) (cur a).length (some 9) = some s → nmg (gd (cur a)) (cur a).length true (some s) = some n → alk (gd (cur a)) (cur a).length 0 = some k → nLs (aD a) (aA a) + (adXn (gd (cur a)) (cur a).length ((cur a).length + 1) n).length ≤ 50000 ∧ ∃ P, PQ P (aA a) ∧ ∀ x ∈ adL (gd (cur a)) (cur a).length ((cur a).length + 1) n, (sl (gd (cur a)) s (n - s), nmx (gd (cur a)) (cur a).length x) ∈ P) (hcap : kcL (gB g) (nmAl a)) (hq : KO rm nd o σ g Q (iAtl rm a) (nmAl a) (dvAl rm a)) : w_KReader_attributes L Q σ := by
  obtain ⟨p, q, t, hF', h1, h2, hK, hc, hS, hp⟩ := h.at_ hL
  have hK2 := hK.2.2
  have ho := hL.2.1
  have r1 := rf_1 ho
  have l176 := hL.2.2.2.1
  have l1 := hL.2.2.2.2.2.2.2.2.2.2.2.2.2.2.2.2.1
  have hrm := hL.2.2.1
  have hpl := h.pl
  obtain ⟨G1, G2, G3, G4, G5, G6, G7, G8, -⟩ := id hG
  have hremc : (cur a).length ≤ rem a := by
    unfold rem
    rw [hF', List.map_cons, List.sum_cons]
    exact Nat.le_add_right _ _
  have h9 : ple (cur a).length (some 9) := fun i hi => by cases hi; exact hm
  unfold w_KReader_attributes
  rw [h1]
  refine ⟨⟨by omega, by omega⟩, kr_spc hK hS (some 9) rfl h9 ?_⟩
  refine kr_name hK hS _ rfl (spc_le h9) ?_
  refine kr_spc hK hS _ rfl nmg_le ?_
  rw [hpl.2.2.2]
  generalize hb : nLs (aD a) (aA a) = b at *
  have s58 : σ.1 16 58 = (b : Int) := by rw [hpl.2.2.2, hb]
  refine sp_atl0 (b := b) _ hL h.1 ⟨by rw [s58, List.length_nil]; rfl, fun k hk => absurd hk (Nat.not_lt_zero k)⟩ hK hc hS nmg_le rfl rfl hrw (kcL_app.mp hcap).1 (fun ρ g2 hZ eB e2 Fρ Rρ R7 => ?_)
  try dsimp only
  have hF0 : ∀ pp kk, ¬ ((pp = 13 ∧ (kk = 1 ∨ kk = 6)) ∨ (pp = 16 ∧ (kk = 78 ∨ kk = 79 ∨ kk = 81 ∨ kk = 82))) → (pf ρ 16 58 (b : Int)).1 pp kk = σ.1 pp kk := fun pp kk z => by
    rw [pf_1]
    by_cases c : pp = 16 ∧ kk = 58
    · rw [if_pos c, c.1, c.2, s58]
    · rw [if_neg c]; exact Fρ pp kk (by omega)
  have XF : ∀ pp kk, ¬ (pp = 16 ∧ kk = 58) → (pf ρ 16 58 (b : Int)).1 pp kk = ρ.1 pp kk := fun pp kk z => by rw [pf_1, if_neg z]
  have XR : (pf ρ 16 58 (b : Int)).2 = ρ.2 := rfl
  generalize pf ρ 16 58 (b : Int) = ρ' at *
  have hkle : kle (gB g) (gB g2) := by rw [eB]; exact kpL_pre
  have gC2 : gC g2 = gC g := by show g2.2.1 = g.2.1; rw [e2]
  have gP2 : gP g2 = gP g := by show g2.2.2.1 = g.2.2.1; rw [e2]
  have gV2 : ∀ k, gV g2 k = gV g k := fun k => by show g2.2.2.2 k = g.2.2.2 k; rw [e2]
  have hR7 : ∀ i : Nat, (i : Int) < σ.1 16 58 → ρ'.2 207 i = σ.2 207 i := fun i hi => by rw [XR]; exact R7 i (by omega)
  have hRρ : RK rm nd o ρ' g2 a := by
    have hF := hF0
    have hR : ∀ r, ¬ (r = 207 ∨ (211 ≤ r ∧ r ≤ 215)) → ρ'.2 r = σ.2 r := fun r z => by rw [XR]; exact Rρ r (by omega) (by omega)
    refine (RK.mk' ho h hkle (by rw [gC2]; exact cle.refl) (by rw [gP2]; exact cle.refl) (hZ.dep ho (fun p k z => XF p k (by omega)) (fun r z => by rw [XR])) (Or.inl ⟨fun k x y => hF 16 k (by omega), fun r x y => hR r (by omega), rfl⟩) (Or.inl ⟨hF 16 32 (by omega), fun r x y => hR r (by omega), rfl, rfl⟩) (Or.inl ⟨fun k x => hF 16 k (by omega), hR _ (by have := rf_1 ho; omega), rfl⟩) (Or.inl ⟨hF 16 20 (by omega), hF 16 24 (by omega), rfl⟩) (Or.inr ?_) (Or.inr ?_) (Or.inl ⟨hF 16 34 (by omega), hR 187 (by omega), rfl⟩) (Or.inl ⟨hF o 7 (by omega), fun k x y => hR _ (by have := rf_3 ho x y; omega), rfl⟩) (Or.inl ⟨hF 16 64 (by omega), hF 16 66 (by omega), fun r x y => hR r (by omega), hR 181 (by omega), rfl, rfl, rfl⟩) (Or.inl ⟨hF o 14 (by omega), fun k x y => hR _ (by have := rf_8 ho x y; omega), rfl, rfl⟩) (Or.inl ⟨fun k x => hF o k (by omega), hR _ (by have := rf_1 ho; omega), rfl, gP2, rfl⟩) (hF 16 3 (by omega)) (Or.inl ⟨hF 16 18 (by omega), hR 178 (by omega), rfl, rfl, rfl, hF 16 47 (by omega), hF 16 58 (by omega), rfl, rfl⟩))
    · exact h.2.2.2.2.2.1.dep hkle (hF 16 40 (by omega)) (by rw [hF 16 47 (by omega)]; exact Int.le_refl _) (by rw [hF 16 58 (by omega)]; exact Int.le_refl _) (fun r z1 z2 => hR r (by omega)) (fun r z1 z2 i _ => by rw [hR r (by omega)]) hR7 (Or.inl (hF 16 47 (by omega)))
    · show KAd ρ' (gB g2) (gP g2) (aA a)
      rw [gP2]
      exact h.2.2.2.2.2.2.1.dep hkle cle.refl (hF 16 56 (by omega)) (by rw [hF 16 58 (by omega)]; exact Int.le_refl _) (fun r z1 z2 => hR r (by omega)) hR7
  have halk : wd (gd (cur a)) (cur a).length [62] (asp (gd (cur a)) (cur a).length ((nmg (gd (cur a)) (cur a).length true (spc (gd (cur a)) (cur a).length (some 9))).bind (adk (gd (cur a)) (cur a).length ((cur a).length + 1)))) = alk (gd (cur a)) (cur a).length 0 := rfl
  rw [halk]
  have f4ρ : ρ'.1 16 4 = σ.1 16 4 := hF0 16 4 (by omega)
  cases hk : alk (gd (cur a)) (cur a).length 0 with
  | none =>
    refine sp_K_written (x := none) rfl hRρ.f3 (fun _ => ?_) (fun k hk => by cases hk)
    rw [if_pos rfl]
    refine hq.1 5 ?_ _ pf_eq (by rw [pf_nk (by decide)]; exact f4ρ)
    unfold iAtl
    rw [hk]
    cases spc (gd (cur a)) (cur a).length (some 9) <;> rfl
  | some k =>
  rw [← halk] at hk
  cases hs : spc (gd (cur a)) (cur a).length (some 9) with
  | none => rw [hs] at hk; cases hk
  | some s =>
  cases hnm : nmg (gd (cur a)) (cur a).length true (some s) with
  | none => rw [hs, hnm] at hk; cases hk
  | some n =>
  have hnl := nmg_lt hnm
  cases had : adk (gd (cur a)) (cur a).length ((cur a).length + 1) n with
  | none =>
    rw [hs, hnm] at hk
    have hk : wd (gd (cur a)) (cur a).length [62] (asp (gd (cur a)) (cur a).length (adk (gd (cur a)) (cur a).length ((cur a).length + 1) n)) = some k := hk
    rw [had] at hk
    cases hk
  | some κ =>
  have hκ := adk_le _ _ _ hnl.2.2 had
  have hkl : κ < k ∧ k ≤ (cur a).length := by
    rw [hs, hnm] at hk
    have hk : wd (gd (cur a)) (cur a).length [62] (asp (gd (cur a)) (cur a).length (adk (gd (cur a)) (cur a).length ((cur a).length + 1) n)) = some k := hk
    rw [had] at hk
    have easp : asp (gd (cur a)) (cur a).length (some κ) = some (sk isSp (gd (cur a)) (cur a).length κ) := rfl
    rw [easp] at hk
    have := sk_le (p := isSp) (T := gd (cur a)) hκ.2
    have := wd1 (by decide) hk
    omega
  rw [halk] at hk
  have hit : iAtl rm a = match dfs rm a (gd (cur a)) (cur a).length (sl (gd (cur a)) s (n - s)) (adL (gd (cur a)) (cur a).length ((cur a).length + 1) n) (aN a 0) (aN a 1) (aA a) with
      | .inl f => .inl f
      | .inr (c, m, ad) => .inr (adv (sN (sN (sA a ad) 0 c) 1 m) k) := by
    unfold iAtl
    rw [hs, hk]
    dsimp only
    rw [hnm] <;> rfl
  have hnE : nmAl a = adWo (gd (cur a)) (cur a).length (some n) ++ sl (gd (cur a)) s (n - s) :: adXn (gd (cur a)) (cur a).length ((cur a).length + 1) n := by
    unfold nmAl
    rw [hs, hk]
    dsimp only
    rw [hnm] <;> rfl
  have hno : nmg (gd (cur a)) (cur a).length true (spc (gd (cur a)) (cur a).length (some 9)) = some n := by rw [hs]; exact hnm
  obtain ⟨hrx1, P, hrx2⟩ := hrx s n k hs hnm hk
  rw [hno] at eB
  rw [hnE] at hcap
  have hcap2 := (kcL_app.mp hcap).2
  rw [← eB] at hcap2
  refine sp_K_written (x := some (p + k)) rfl hRρ.f3 (fun hk => by cases hk) (fun k0 hk0 hv0 => ?_)
  rw [if_neg (by decide), show enc (mvo p (some n)) = ((p + n : Nat) : Int) from rfl, show enc (mvo p (some s)) = ((p + s : Nat) : Int) from rfl, show ((p + n : Nat) : Int) - ((p + s : Nat) : Int) = ((n - s : Nat) : Int) by omega]
  refine ⟨⟨by omega, by omega⟩, ?_⟩
  have h176 : ρ'.2 176 = σ.2 176 := by rw [XR]; exact Rρ 176 (by omega) (by omega)
  have esl : sl (ρ'.2 176) (p + s) (n - s) = sl (gd (cur a)) s (n - s) := by rw [h176]; exact sh_sl hS (by omega)
  generalize hsn : sl (gd (cur a)) s (n - s) = el at *
  refine sp_K_kp (p := p + s) (n := n - s) hL hRρ (by omega) rfl rfl esl hcap2.1 (fun v23 τ hv1 hR1 hf1 => ?_)
  have hgl : gP (kpS (gB g2) el, g2.2) = gP g2 ∧ gC (kpS (gB g2) el, g2.2) = gC g2 ∧ gV (kpS (gB g2) el, g2.2) = gV g2 ∧ gB (kpS (gB g2) el, g2.2) = kpS (gB g2) el := ⟨rfl, rfl, rfl, rfl⟩
  generalize hg1 : ((kpS (gB g2) el, g2.2) : KG) = g3 at hR1 hgl
  obtain ⟨gl1, gl2, gl3, gl4⟩ := hgl
  have hbk3 : kcL (gB g3) (adXn (gd (cur a)) (cur a).length ((cur a).length + 1) n) := by rw [gl4]; exact hcap2.2
  rw [← gl4] at hv1
  have R1 : ∀ r, ¬ (211 ≤ r ∧ r ≤ 215) → τ.2 r = ρ'.2 r := fun r z => funext (fun i => hf1.2 r i (by omega))
  have t176 : τ.2 176 = σ.2 176 := by rw [R1 176 (by omega)]; exact h176
  have hK1 : KT L τ (p + (cur a).length) := by unfold KT; rw [hf1.1 16 17 (by omega), hF0 16 17 (by omega)]; exact hK
  have hc1 : chs τ (p + (cur a).length) := fun i hi => by rw [t176]; exact hc i hi
  have hS1 : SHT (gd (cur a)) (τ.2 176) (cur a).length p := by rw [t176]; exact hS
  have t58 : τ.1 16 58 = (b : Int) := by rw [hf1.1 16 58 (by omega), hF0 16 58 (by omega)]; exact s58
  refine kr_spc hK1 hS1 (some n) rfl (fun i hi => by cases hi; exact hnl.2.2) ?_
  refine sp_atl1 (n := n) (κ := κ) (b := b) (el := el) (g := g3) hL hR1.vx hR1.2.2.2.2.2.2.1 t58 G8.1 G1.2 G7 (fun k => by rw [gl3, gV2]; exact hV k) (by have := hV 22; have := hC.2.2.2; omega) hK1 hc1 hS1 (by rw [gl2, gC2]; exact hp) hnl.2.2 had hv1 hrx1 hbk3 hrx2 (by rw [gl1, gP2]; have := hC.1; have := hC.2.2.1; omega) (by omega) rfl (fun f ρ5 y1 y2 y3 y4 => ?_) (fun c m ad ρ5 g5 b2 y1 hX5 hD5 yB yC yP yL yV yc1 yc2 ym y58 yb yb2 y207 yF => ?_)
  · rw [y1] at hit
    exact hq.1 f hit _ (by rw [pf_nk (by decide)]; exact y3) (by rw [pf_nk (by decide), y4, hf1.1 16 4 (by omega)]; exact f4ρ)
  rw [y1] at hit
  have hit : iAtl rm a = .inr (adv (sN (sN (sA a ad) 0 c) 1 m) k) := hit
  obtain ⟨q1, q2, ⟨n0', n2', n3', n4', n5', n6', n7'⟩, q4, q5⟩ := id hX5
  have kle5 : kle (gB g3) (gB g5) := by rw [yB]; exact kpL_pre
  have hfin : RK rm nd o ρ5 g5 (sN (sN (sA a ad) 0 c) 1 m) := by
    have h := hR1
    have hF := yF.1
    have hR : ∀ r, ¬ (r = 223 + 14 * (o - 14) ∨ r = 221 + 14 * (o - 14) ∨ r = 186 ∨ (199 ≤ r ∧ r ≤ 215)) → ρ5.2 r = τ.2 r := fun r z => yF.2 r (by omega)
    have hSt : KSt o τ (gB g3) (gP g3) (aS a) (aL a).length := h.2.2.2.2.2.2.2.2.2.2.2.1
    have hAt : KAt o τ (gB g3) (gP g3) (aA a) (aB a) := h.2.2.2.2.2.2.2.2.2.2.1
    have hpl5 := h.pl
    refine (RK.mk' ho h kle5 (by rw [yC]; exact cle.refl) yP q1 (Or.inl ⟨fun k x y => hF 16 k (by omega), fun r x y => hR r (by omega), rfl⟩) (Or.inr q2) (Or.inr ⟨n0', n2', n3', n4', n5', n6', n7'⟩) (Or.inr q4) (Or.inr ?_) (Or.inr hD5) (Or.inl ⟨hF 16 34 (by omega), hR 187 (by omega), rfl⟩) (Or.inl ⟨hF o 7 (by omega), fun k x y => hR _ (by have := rf_3 ho x y; omega), rfl⟩) (Or.inl ⟨hF 16 64 (by omega), hF 16 66 (by omega), fun r x y => hR r (by omega), hR 181 (by omega), rfl, rfl, rfl⟩) (Or.inr ?_) (Or.inr ?_) (hF 16 3 (by omega)) (Or.inr ?_))
    · exact h.2.2.2.2.2.1.dep kle5 (hF 16 40 (by omega)) (by rw [hF 16 47 (by omega)]; exact Int.le_refl _) (by rw [t58, y58]; omega) (fun r z1 z2 => hR r (by omega)) (fun r z1 z2 i _ => by rw [hR r (by omega)]) (fun i hi => y207 i (by rw [t58] at hi; omega)) (Or.inl (hF 16 47 (by omega)))
    · show KAt o ρ5 (gB g5) (gP g5) ad (aB a)
      rw [hB0]
      exact ⟨by rw [hF o 14 (by omega), hAt.1, hB0], fun i hi => absurd hi (Nat.not_lt_zero i)⟩
    · show KSt o ρ5 (gB g5) (gP g5) (aS a) (aL a).length
      have t17 : τ.1 o 17 = -1 := by
        obtain ⟨G, -, -, -, -, ⟨-, g5'⟩, g6'⟩ := hSt
        rcases g6' with z | ⟨G', l, z1, z2, z3⟩
        · exact z.1
        · rw [g5'] at hS0
          have : decide (0 ≤ τ.1 o 17) = false := hS0
          have := of_decide_eq_false this
          omega
      have hSt5 : KSt o ρ5 (gB g3) (gP g3) (aS a) (aL a).length := hSt.dep kle.refl (fun k z => hF o k (by omega)) (hR _ (by omega))
      exact hSt5.plt (by rw [hF o 17 (by omega)]; exact t17) kle5 yP
    · refine ⟨by rw [hR 178 (by omega)]; exact hpl5.1, fun z => by rw [hF 16 18 (by omega)]; exact hpl5.2.1 z, by rw [hF 16 47 (by omega)]; exact hpl5.2.2.1, ?_⟩
      show ρ5.1 16 58 = (nLs (aD a) ad : Int)
      have hbb : b = nLs (aD a) (aA a) := hb.symm
      rw [y58]
      unfold nLs at hbb ⊢
      unfold lsA at yb
      omega
  have hg := hfin.go hL (k := k) (by show k ≤ (cur a).length; exact hkl.2)
  have x16 : ρ5.1 16 16 = (p : Int) := by rw [yF.1 16 16 (by omega), hf1.1 16 16 (by omega), hF0 16 16 (by omega)]; exact h1
  rw [x16, show (p : Int) + (k : Int) = ((p + k : Nat) : Int) by omega] at hg
  have hr := rem_adv (a := sN (sN (sA a ad) 0 c) 1 m) (k := k) (by show k ≤ (cur a).length; exact hkl.2)
  have hr : rem (adv (sN (sN (sA a ad) 0 c) 1 m) k) + k = rem a := hr
  have hNN : ∀ j, aN (adv (sN (sN (sA a ad) 0 c) 1 m) k) j = if j = 1 then m else if j = 0 then c else aN a j := fun j => by rw [adv_other.2.1]; rfl
  obtain ⟨k1, k2, k3, k4⟩ := hC
  have hmono := fun kk => dfs_mono (k := kk) _ _ _ _ y1
  refine hq.2 _ hit _ g5 hg ?_ (fun _ => by rw [yC, gl2, gC2]) (fun j hj => ?_) ⟨?_, ?_, ?_, ?_⟩ (by show (pf ρ5 16 16 _).1 16 4 = _; rw [pf_nk (by decide), yF.1 16 4 (by omega), hf1.1 16 4 (by omega)]; exact f4ρ) (by show (pf ρ5 16 16 _).1 16 15 ≤ _; rw [pf_nk (by decide), yF.1 16 15 (by omega), hf1.1 16 15 (by omega), hF0 16 15 (by omega)]; omega)
  · rw [yB, hnE, kpL_app, gl4, eB]
    rfl
  · have hv := yV j
    rw [if_neg hj, gl3, gV2] at hv
    have := hmono j
    unfold dvAl
    rw [hit]
    show gV g5 j = gV g j + (dAs (aA (adv (sN (sN (sA a ad) 0 c) 1 m) k)) j - dAs (aA a) j)
    rw [adv_other.2.2.2.2.1]
    show gV g5 j = gV g j + (dAs ad j - dAs (aA a) j)
    omega
  · rw [hNN 0, if_neg (by decide), if_pos rfl]
    rw [gl1, gP2] at yL
    omega
  · rw [hNN 0, hNN 8, if_neg (by decide), if_pos rfl, if_neg (by decide), if_neg (by decide), yC, gl2, gC2]
    omega
  · rw [hNN 0, if_neg (by decide), if_pos rfl]
    exact yc1
  · have hv := yV 22
    rw [if_pos rfl, gl3, gV2] at hv
    rw [hNN 1, if_pos rfl]
    have h0 : ∀ l : List ADc, dAs l 22 = 0 := fun l => by
      unfold dAs
      have hz : (List.range l.length).map (fun j => dvD (l.take j) (l.getD j adD) 22) = (List.range l.length).map (fun _ => 0) := List.map_congr_left (fun j _ => rfl)
      rw [hz]
      induction (List.range l.length) with
      | nil => rfl
      | cons x r ih => rw [List.map_cons, List.sum_cons, ih]
    rw [h0, h0] at hv
    omega
end Kav
