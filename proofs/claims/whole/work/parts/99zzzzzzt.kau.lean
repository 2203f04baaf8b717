/-! ===== the reference: a list of attributes, the second time through ===== -/
/-- what the second time through may change -/
def FAt (o : Nat) (σ ρ : IS) : Prop := (∀ pp kk, ¬ ((pp = 13 ∧ (kk = 1 ∨ kk = 6)) ∨ (pp = 16 ∧ (kk = 25 ∨ kk = 56 ∨ kk = 58 ∨ kk = 78 ∨ kk = 79 ∨ kk = 81 ∨ kk = 82)) ∨ (pp = o ∧ kk = 2)) → ρ.1 pp kk = σ.1 pp kk) ∧ ∀ r, ¬ (r = rfo o 1 ∨ r = rfo o 18 ∨ r = 186 ∨ (199 ≤ r ∧ r ≤ 215)) → ρ.2 r = σ.2 r
/-- how many names stand in the lists of declarations -/
def lsA (ad : List ADc) : Nat := (ad.map (fun x => x.2.2.2.2.2.length)).sum
section Kau
variable {L : Nat → Nat} {rm nd o : Nat} {σ ρ τ : IS} {g g' : KG} {a : AS} {FIN : IS → Prop} {T : Nat → Int} {p e : Nat} {el : Str}
theorem lsA_s {ad : List ADc} {x : ADc} : lsA (ad ++ [x]) = lsA ad + x.2.2.2.2.2.length := by
  unfold lsA
  rw [List.map_append, List.sum_append]
  simp
theorem adXn_s {m k : Nat} : adXn T e (m + 1) k = match spc T e (some k) with
    | none => []
    | some x => match nmg T e true (some x) with
      | none => []
      | some b => match dfn T e x with
        | none => []
        | some j => sl T x (b - x) :: (tyWo T e (spc T e (nmg T e true (some x))) ++ adXn T e m j) := rfl
theorem adXn_fuel : ∀ (n m k : Nat), k ≤ e → e < n + k → e < m + k → adXn T e n k = adXn T e m k := by
  intro n
  induction n with
  | zero => intro m k h0 h1 h2; omega
  | succ n ih =>
    intro m k h0 h1 h2
    cases m with
    | zero => omega
    | succ m =>
      rw [adXn_s, adXn_s]
      cases hs : spc T e (some k) with
      | none => rfl
      | some x =>
        dsimp only
        cases hn : nmg T e true (some x) with
        | none => rfl
        | some y =>
          dsimp only
          cases hd : dfn T e x with
          | none => rfl
          | some j =>
            dsimp only
            have h3 := spc_gt h0 hs
            have h4 := dfn_gt hd
            rw [ih m j h4.2 (by omega) (by omega)]
theorem dvD_le {ad : List ADc} {x : ADc} {k : Nat} : dvD ad x k ≤ 1 + x.2.2.2.2.2.length := by
  have := rpk_le (l := x.2.2.2.2.2) x.2.2.2.2.2.length
  unfold dvD
  split
  · split <;> omega
  · split
    · split <;> omega
    · split
      · split <;> omega
      · split
        · split <;> omega
        · split <;> omega
theorem spc_ge {k x : Nat} (h : spc T e (some k) = some x) : k ≤ x := by
  have h' : (if sk isSp T e k = k then none else some (sk isSp T e k)) = some x := h
  split at h'
  · cases h'
  · rw [← Option.some.inj h']
    exact sk_gt
theorem tyC_le {y : Nat} : tyC T e y ≤ 9 := by
  unfold tyC
  split
  · omega
  · split
    · omega
    · cases hk : kty T e y 8 with
      | none => show 0 ≤ 9; omega
      | some t =>
        have := (kty_some hk).1
        show t ≤ 9
        omega
set_option maxHeartbeats 8000000 in
theorem sp_atl1 {n κ b : Nat} {v23 v25 : Int} (hL : KLn L o rm nd) (h : KVx rm nd o σ g a (bsy a)) (hAd : KAd σ (gB g) (gP g) (aA a)) (h58 : σ.1 16 58 = (b : Int)) (he : (aE a).length ≤ 8300) (hN : aN a 0 ≤ rm) (h6 : aN a 6 ≠ 0 → (aR a).isSome = true) (hV : ∀ k, gV g k ≤ 300000000) (hM : aN a 1 ≤ 300000000) (hK : KT L σ (p + e)) (hc : chs σ (p + e)) (hS : SHT T (σ.2 176) e p) (hp : p + e ≤ (gC g).length) (hn : n ≤ e) (hadk : adk T e (e + 1) n = some κ) (hel : Kn (gB g) v23 el) (hroom : b + (adXn T e (e + 1) n).length ≤ 50000) (hbk : kcL (gB g) (adXn T e (e + 1) n)) {P : List (Str × Str)} (hdl : PQ P (aA a) ∧ ∀ x ∈ adL T e (e + 1) n, (el, nmx T e x) ∈ P) (hcap : (gP g).length + e + (rm - aN a 0) ≤ L (rfo o 1)) (hec : e ≤ aN a 0) (hv25 : v25 = enc (mvo p (spc T e (some n))))
    (hbad : ∀ f ρ, dfs rm a T e el (adL T e (e + 1) n) (aN a 0) (aN a 1) (aA a) = .inl f → f ≠ 0 → ρ.1 16 3 = (f : Int) → ρ.1 16 4 = σ.1 16 4 → FIN ρ)
    (hgood : ∀ c m ad ρ g2 (b2 : Nat), dfs rm a T e el (adL T e (e + 1) n) (aN a 0) (aN a 1) (aA a) = .inr (c, m, ad) → KVx rm nd o ρ g2 (sN (sN a 0 c) 1 m) (bsy a) → KAd ρ (gB g2) (gP g2) ad → gB g2 = kpL (gB g) (adXn T e (e + 1) n) → gC g2 = gC g → cle (gP g) (gP g2) → (gP g2).length + aN a 0 + n ≤ (gP g).length + κ + c → (∀ k, gV g2 k + dAs (aA a) k = gV g k + (if k = 22 then m - aN a 1 else 0) + dAs ad k) → c ≤ rm → aN a 0 ≤ c → aN a 1 ≤ m → ρ.1 16 58 = (b2 : Int) → b2 + lsA (aA a) = b + lsA ad → b ≤ b2 → (∀ i, i < b → ρ.2 207 i = σ.2 207 i) → FAt o σ ρ → FIN ρ) :
    WL (fun (K26 : Int → IS → Prop) (s28 : Int) (σ29 : IS) => WJ (fun (s32 : Unit) (σ33 : IS) => FIN σ33) (fun J30 => if (σ29.1 16 3) = 0 ∧ (¬ s28 < 0) then w_KReader_name L s28 (fun v35 σ34 => if v35 < 0 then J30 () σ34 else w_KReader_name L s28 (fun v38 σ37 => inR (v38 - s28) ∧ w_KReader_keep L s28 (v38 - s28) (fun v40 σ39 => w_KReader_definition L s28 (fun v42 σ41 => w_KReader_define L v23 v40 (fun σ43 => w_KReader_spaces L v42 (fun v46 σ45 => K26 v46 σ45) σ43) σ41) σ39) σ37) σ34) σ29 else J30 () σ29)) v25 σ := by
  have ho := hL.2.1
  have r1 := rf_1 ho
  have hK2 := hK.2.2
  have l176 := hL.2.2.2.1
  have hrm := hL.2.2.1.1
  have hneg : ∀ q : Option Nat, enc (mvo p q) < 0 ↔ q = none := fun q => by
    cases q with
    | none => exact ⟨fun _ => rfl, fun _ => by show (-1 : Int) < 0; decide⟩
    | some i => exact ⟨fun z => absurd z (by show ¬ ((p + i : Nat) : Int) < 0; omega), fun z => by cases z⟩
  generalize htot : dfs rm a T e el (adL T e (e + 1) n) (aN a 0) (aN a 1) (aA a) = tot at *
  generalize hNN : adXn T e (e + 1) n = NN at *
  refine WL_ind2 (fun nn s28 ρ => (∃ (i c m bb : Nat) (ad : List ADc) (acc : List Str) (g2 : KG), nn = e + 1 - i ∧ s28 = enc (mvo p (spc T e (some i))) ∧ (n ≤ i ∧ i ≤ e) ∧ adk T e (e + 1) i = some κ ∧ tot = dfs rm a T e el (adL T e (e + 1) i) c m ad ∧ NN = acc ++ adXn T e (e + 1) i ∧ KVx rm nd o ρ g2 (sN (sN a 0 c) 1 m) (bsy a) ∧ KAd ρ (gB g2) (gP g2) ad ∧ gB g2 = kpL (gB g) acc ∧ gC g2 = gC g ∧ cle (gP g) (gP g2) ∧ (gP g2).length + aN a 0 + n ≤ (gP g).length + i + c ∧ m + aN a 0 ≤ aN a 1 + i + c ∧ (∀ k, gV g2 k + dAs (aA a) k = gV g k + (if k = 22 then m - aN a 1 else 0) + dAs ad k) ∧ (∀ k, dAs ad k ≤ dAs (aA a) k + i) ∧ (c ≤ rm ∧ aN a 0 ≤ c ∧ aN a 1 ≤ m) ∧ ρ.1 16 58 = (bb : Int) ∧ (bb + lsA (aA a) = b + lsA ad ∧ b ≤ bb ∧ bb ≤ b + acc.length) ∧ (PQ P ad ∧ ∀ x ∈ adL T e (e + 1) i, (el, nmx T e x) ∈ P) ∧ (∀ j, j < b → ρ.2 207 j = σ.2 207 j) ∧ FAt o σ ρ) ∨ (nn = 0 ∧ ∃ f : Nat, f ≠ 0 ∧ tot = .inl f ∧ ρ.1 16 3 = (f : Int) ∧ ρ.1 16 4 = σ.1 16 4)) ?_ (e + 1 - n) _ σ (Or.inl ⟨n, aN a 0, aN a 1, b, aA a, [], g, rfl, hv25, ⟨Nat.le_refl _, hn⟩, hadk, htot.symm, hNN.symm, ?_, hAd, rfl, rfl, cle.refl, by omega, by omega, fun k => ?_, fun k => by omega, ⟨hN, Nat.le_refl _, Nat.le_refl _⟩, h58, ⟨rfl, Nat.le_refl _, Nat.le_add_right _ _⟩, hdl, fun _ _ => rfl, ⟨fun _ _ _ => rfl, fun _ _ => rfl⟩⟩)
  rotate_left
  · obtain ⟨q1, q2, q3, q4, q5⟩ := h
    obtain ⟨n1, n2, n3, n4, n5, n6, n7⟩ := q3
    exact ⟨q1, q2, ⟨n1, n2, n3, n4, n5, n6, n7⟩, q4, q5⟩
  · rw [Nat.sub_self]
    split <;> omega
  rintro nn s28 ρ hI K hK'
  try dsimp only
  refine WJ_dir ?_
  rcases hI.symm with ⟨-, f, f1, f2, f3, f4⟩ | ⟨i, c, m, bb, ad, acc, g2, rfl, rfl, ⟨i1, i2⟩, i3, i4, i5, hX, hD, e1, e2, e3, e4, e5, e6, e6', ⟨e7, e8, e9⟩, e58, ⟨e10, e11, e12⟩, edl, f207, hF⟩
  · rw [if_neg (fun z => by have := z.1; omega)]
    exact hbad f ρ f2 f1 f3 f4
  clear hI
  have hKρ : KT L ρ (p + e) := by unfold KT; rw [hF.1 16 17 (by omega)]; exact hK
  have h176 : ρ.2 176 = σ.2 176 := hF.2 176 (by omega)
  have hSρ : SHT T (ρ.2 176) e p := by rw [h176]; exact hS
  have hcρ : chs ρ (p + e) := fun j hj => by rw [h176]; exact hc j hj
  have f30 : ρ.1 16 3 = 0 := hX.2.2.2.2
  have hst := adk_step (T := T) (e := e) i2
  have hsL := adL_step (T := T) (e := e) i2
  have hsX := adXn_s (T := T) (e := e) (m := e) (k := i)
  rw [i3] at hst
  -- the end
  have fin_ : adL T e (e + 1) i = [] → adXn T e (e + 1) i = [] → i = κ → FIN ρ := fun z1 z2 z3 => by
    rw [z1] at i4
    rw [z2, List.append_nil] at i5
    have hi4 : tot = .inr (c, m, ad) := i4
    subst i5
    subst z3
    exact hgood c m ad ρ g2 bb hi4 hX hD e1 e2 e3 e4 e6 e7 e8 e9 e58 e10 e11 f207 hF
  cases hsp : spc T e (some i) with
  | none =>
    rw [hsp] at hst hsL hsX
    rw [if_neg (fun z => z.2 ((hneg none).mpr rfl))]
    exact fin_ hsL hsX (Option.some.inj hst).symm
  | some x =>
    have hxe := spc_gt i2 hsp
    rw [hsp] at hst hsL hsX
    rw [if_pos ⟨f30, fun z => by have := (hneg _).mp z; cases this⟩]
    refine kr_name hKρ hSρ (some x) rfl (fun w hw => by cases hw; exact hxe.2.1) ?_
    have hst : some κ = match nmg T e true (some x) with
      | none => some i
      | some _ => match dfn T e x with
        | none => none
        | some j => adk T e (e + 1) j := hst
    have hsL : adL T e (e + 1) i = match nmg T e true (some x) with
      | none => []
      | some _ => match dfn T e x with
        | none => []
        | some j => x :: adL T e (e + 1) j := hsL
    have hsX : adXn T e (e + 1) i = match nmg T e true (some x) with
      | none => []
      | some b => match dfn T e x with
        | none => []
        | some j => sl T x (b - x) :: (tyWo T e (spc T e (nmg T e true (some x))) ++ adXn T e e j) := hsX
    cases hnm : nmg T e true (some x) with
    | none =>
      rw [hnm] at hst hsL hsX
      rw [if_pos ((hneg none).mpr rfl)]
      exact fin_ hsL hsX (Option.some.inj hst).symm
    | some y0 =>
      rw [if_neg (fun z => by have := (hneg _).mp z; cases this)]
      have hst2 : some κ = match dfn T e x with
        | none => none
        | some j => adk T e (e + 1) j := by rw [hst, hnm]
      cases hdf : dfn T e x with
      | none => rw [hdf] at hst2; cases hst2
      | some j =>
      rw [hdf] at hst2
      have hk1 : adk T e (e + 1) j = some κ := hst2.symm
      obtain ⟨bx, y, w0, w, p1, p2, p3, p4, p5, p6, p7, p8, p9, p10, p11, p12⟩ := dfn_len hdf
      have hb0 : bx = y0 := by rw [hnm] at p1; exact (Option.some.inj p1).symm
      subst hb0
      have hyo : spc T e (nmg T e true (some x)) = some y := by rw [hnm]; exact p2
      have hwo : spc T e (typ T e y) = some w := by rw [p3]; exact p4
      obtain ⟨ty1, ty2, ty3⟩ := tyK_eq.2 w hwo
      have hL1 : adL T e (e + 1) i = x :: adL T e (e + 1) j := by rw [hsL, hnm, hdf]
      have hX1 : adXn T e (e + 1) i = sl T x (bx - x) :: (tyW T e y ++ adXn T e (e + 1) j) := by
        rw [hsX, hnm, hdf]
        dsimp only
        rw [p2]
        show _ :: (tyW T e y ++ adXn T e e j) = _
        rw [adXn_fuel e (e + 1) j (by omega) (by omega) (by omega)]
      have hxb := nmg_lt hnm
      have hstep : tot = match dvR rm (sN (sN a 0 c) 1 m) (bsy a) T (dfZ T e w) with
          | .inl f => .inl f
          | .inr (c', m', o) => dfs rm a T e el (adL T e (e + 1) j) c' m' (if (adf ad el (sl T x (bx - x))).isSome = true then ad else ad ++ [(el, sl T x (bx - x), atyN T e y, dfK T e w, nrt (atyN T e y) o, (atyL T e y).map (fun q => sl T q.1 (q.2 - q.1)))]) := by
        rw [i4, hL1]
        show (match dfa rm a T e el x c m ad with
          | .inl f => (Sum.inl f : Nat ⊕ (Nat × Nat × List ADc))
          | .inr (c', m', ad') => dfs rm a T e el (adL T e (e + 1) j) c' m' ad') = _
        rw [dfa_eq hnm p2 p3 p4 p5]
        cases dvR rm (sN (sN a 0 c) 1 m) (bsy a) T (dfZ T e w) <;> rfl
      rw [← ty3] at hstep
      rw [hX1] at i5
      rw [hL1] at edl
      have hedl := edl.1.len
      have hnx : nmx T e x = sl T x (bx - x) := by unfold nmx; rw [hnm]
      have hnp : (el, nmx T e x) ∈ P := edl.2 x List.mem_cons_self
      rw [hnx] at hnp
      generalize hsn : sl T x (bx - x) = s at *
      refine kr_name hKρ hSρ (some x) rfl (fun w hw => by cases hw; exact hxe.2.1) ?_
      rw [hnm, show enc (mvo p (some bx)) = ((p + bx : Nat) : Int) from rfl, show enc (mvo p (some x)) = ((p + x : Nat) : Int) from rfl, show ((p + bx : Nat) : Int) - ((p + x : Nat) : Int) = ((bx - x : Nat) : Int) by omega]
      have hcapA := hbk
      rw [i5] at hcapA
      have hcap1 := (kcL_app.mp hcapA).2
      rw [← e1] at hcap1
      have hnl : NN.length = acc.length + (1 + (tyW T e y).length + (adXn T e (e + 1) j).length) := by rw [i5, List.length_append, List.length_cons, List.length_append]; omega
      have esl : sl (ρ.2 176) (p + x) (bx - x) = s := by rw [← hsn]; exact sh_sl hSρ (by omega)
      refine ⟨⟨by omega, by omega⟩, ⟨(hX.dy ho).2, sp_K_bkZ (p := p + x) (n := bx - x) hL hX.1 (Or.inl (by decide)) ⟨by omega, by omega⟩ rfl rfl esl hcap1.1 (fun v40 ρ1 w1 w2 w3 => ?_)⟩⟩
      try dsimp only
      have hXv := hX.kp ho w2 w3
      have wR : ∀ q, ¬ (211 ≤ q ∧ q ≤ 215) → ρ1.2 q = ρ.2 q := fun q z => funext (fun k => w3.2 q k (by omega))
      have hD1 : KAd ρ1 (kpS (gB g2) s) (gP g2) ad := hD.dep kpS_pre cle.refl (w3.1 16 56 (by omega)) (by rw [w3.1 16 58 (by omega)]; exact Int.le_refl _) (fun r z1 z2 => wR r (by omega)) (fun i _ => by rw [wR 207 (by omega)])
      have hK1 : KT L ρ1 (p + e) := by unfold KT; rw [w3.1 16 17 (by omega)]; exact hKρ
      have hS1 : SHT T (ρ1.2 176) e p := by rw [wR 176 (by omega)]; exact hSρ
      have hc1 : chs ρ1 (p + e) := fun j hj => by rw [wR 176 (by omega)]; exact hcρ j hj
      have htyo : tyWo T e (spc T e (nmg T e true (some x))) = tyW T e y := by rw [hyo]; rfl
      have hcap2 : kcL (kpS (gB g2) s) (tyW T e y) := (kcL_app.mp hcap1.2).1
      refine sp_K_definition (g := (kpS (gB g2) s, g2.2)) (b := bb) (l := []) (xx := x) hL w2 ⟨by rw [w3.1 16 58 (by omega), e58, List.length_nil]; rfl, fun k hk => absurd hk (Nat.not_lt_zero k)⟩ hK1 hc1 hS1 rfl hxe.2.1 (by rw [htyo, List.length_nil]; omega) (by rw [htyo]; exact hcap2) (fun ρ2 g4 u1 u2 u3 u4 u5 u6 u7 u8 => ?_)
      rw [htyo] at u2 u4
      have u4 : KLq ρ2 (gB g4) bb (tyW T e y) := u4
      obtain ⟨y', w', c1', c2', c3', m78, m79, m81, m82⟩ := u8 j hdf
      have hyy : y' = y := by rw [hyo] at c1'; exact (Option.some.inj c1').symm
      subst hyy
      have hww : w' = w := by rw [hwo] at c2'; exact (Option.some.inj c2').symm
      subst hww
      rw [hdf]
      have u3 : g4.2 = g2.2 := u3
      have gC4 : gC g4 = gC g2 := by show g4.2.1 = g2.2.1; rw [u3]
      have gP4 : gP g4 = gP g2 := by show g4.2.2.1 = g2.2.2.1; rw [u3]
      have gV4 : ∀ k, gV g4 k = gV g2 k := fun k => by show g4.2.2.2 k = g2.2.2.2 k; rw [u3]
      have hkle4 : kle (kpS (gB g2) s) (gB g4) := by rw [u2]; exact kpL_pre
      have hX2 : KVx rm nd o ρ2 g4 (sN (sN a 0 c) 1 m) (bsy a) := by
        obtain ⟨-, q2, q3, q4, q5⟩ := hXv
        refine ⟨u1, ?_, q3.dep (fun k z => u5 16 k (by omega)) (u6 _ (by omega) (by omega)), q4.dep hkle4 (u5 16 20 (by omega)) (u5 16 24 (by omega)), by rw [u5 16 3 (by omega)]; exact q5⟩
        rw [gC4]
        exact q2.dep hkle4 cle.refl (u5 16 32 (by omega)) (fun r z1 z2 => u6 r (by omega) (by omega))
      have hAd0 : KAd (pf ρ2 16 58 (bb : Int)) (gB g4) (gP g4) ad := by
        rw [gP4]
        exact hD1.dep hkle4 cle.refl (by rw [pf_nk (by decide), u5 16 56 (by omega)]) (by rw [pf_eq, w3.1 16 58 (by omega), e58]; exact Int.le_refl _) (fun r z1 z2 => by rw [pfr, u6 r (by omega) (by omega)]) (fun i hi => by rw [pf_2]; exact u7 i (by rw [w3.1 16 58 (by omega), e58] at hi; rw [List.length_nil]; omega))
      have hK2' : KT L ρ2 (p + e) := by unfold KT; rw [u5 16 17 (by omega)]; exact hK1
      have hS2 : SHT T (ρ2.2 176) e p := by rw [u6 176 (by omega) (by omega)]; exact hS1
      have hc2 : chs ρ2 (p + e) := fun j hj => by rw [u6 176 (by omega) (by omega)]; exact hc1 j hj
      have hel4 : Kn (gB g4) v23 el := by
        have h1 : Kn (gB g2) v23 el := by rw [e1]; exact hel.kpL
        exact (h1.kp (t := s)).le hkle4
      have hv4 : Kn (gB g4) v40 s := w1.le hkle4
      have FA : FAt o σ ρ2 := ⟨fun pp kk z => by rw [u5 pp kk (by omega), w3.1 pp kk (by omega)]; exact hF.1 pp kk z, fun r z => by rw [u6 r (by omega) (by omega), wR r (by omega)]; exact hF.2 r z⟩
      have hzl : ∀ z, dfZ T e w' = some z → w' ≤ z.1 ∧ z.1 < z.2 ∧ z.2 ≤ j := fun z hz => by
        obtain ⟨z1, z2⟩ := dfZ_some hz
        have hg := vlp_gt z2
        have hzj : z.2 = j := by
          have hd := c3'
          unfold dft at hd
          by_cases k1 : dfK T e w' = 1
          · unfold dfV at z1; rw [if_neg (by omega), if_neg (by omega)] at z1; cases z1
          · rw [if_neg k1] at hd
            by_cases k2 : dfK T e w' = 2
            · unfold dfV at z1; rw [if_neg (by omega), if_neg (by omega)] at z1; cases z1
            · rw [if_neg k2, z1, z2] at hd
              exact Option.some.inj hd
        have hwz : w' ≤ z.1 := by
          unfold dfV at z1
          split at z1
          · have := Option.some.inj z1; omega
          · split at z1
            · have h3 : ple e (some (w' + 6)) → w' + 6 < z.1 ∨ True := fun _ => Or.inr trivial
              have := spc_ge z1
              omega
            · cases z1
        omega
      have hNr : aN a 0 ≤ c := e8
      refine sp_K_define (p := p) (b0 := bb) (t := atyN T e y') (how := dfK T e w') (ad := ad) (ls := tyW T e y') (A := sN (sN a 0 c) 1 m) (bs := bsy a) (el := el) (nm := s) (dfZ T e w') hL hX2 hAd0 he e7 h6 (fun k => ?_) hK2' hc2 hS2 (by rw [gC4, e2]; exact hp) m78 m79 m81 ?_ (fun z hz => ?_) (dfZ_iff c3') dfK_le.2 (by rw [← ty2]; exact tyC_le) u4 (by omega) (by rw [gP4]; omega) hel4 hv4 (by omega) (fun f ρ3 b1' b2' b3' b4' => ?_) (fun c' m' out b1' b2' b3' b4' ρ3 gP2 gv2 b2 ad2 hX3 hD3 h583 hag hnw hF3 => ?_)
      · rw [gV4]
        have h6k := e6 k
        have h6l := e6' k
        have := hV k
        split at h6k <;> omega
      · cases hz : dfZ T e w' with
        | none =>
          have hk3 : ¬ 3 ≤ dfK T e w' := fun y => ((dfZ_iff c3').mp y) hz
          have hv : dfV T e w' = none := by
            unfold dfV
            rw [if_neg (by omega), if_neg (by omega)]
          rw [hv] at m82
          exact m82
        | some z =>
          rw [(dfZ_some hz).1] at m82
          exact m82
      · have hzz := hzl z hz
        refine ⟨vlp_ltl (dfZ_some hz).2, ?_, ?_⟩
        · show _ ≤ c
          omega
        · show (gP g4).length + _ + (rm - c) ≤ _
          rw [gP4]
          omega
      · have hK3 : KT L ρ3 (p + e) := by unfold KT; rw [b4'.2.1]; exact hK2'
        have hS3 : SHT T (ρ3.2 176) e p := by rw [b4'.2.2]; exact hS2
        refine kr_spc hK3 hS3 (some j) rfl (fun q hq => by cases hq; exact p12) ?_
        refine hK' 0 _ _ (Or.inr ⟨rfl, f, b2', by rw [hstep, b1'], b3', by rw [b4'.1]; exact FA.1 16 4 (by omega)⟩) (by omega)
      · have hK3 : KT L ρ3 (p + e) := by unfold KT; rw [hF3.1 16 17 (by omega)]; exact hK2'
        have hS3 : SHT T (ρ3.2 176) e p := by rw [hF3.2 176 (by omega)]; exact hS2
        refine kr_spc hK3 hS3 (some j) rfl (fun q hq => by cases hq; exact p12) ?_
        rw [b1'] at hstep
        have hX4 : KVx rm nd o ρ3 (gB g4, gC g4, gP2, gv2) (sN (sN a 0 c') 1 m') (bsy a) := by
          obtain ⟨q1, q2, ⟨n1, n2, n3, n4, n5, n6, n7⟩, q4, q5⟩ := hX3
          exact ⟨q1, q2, ⟨n1, n2, n3, n4, n5, n6, n7⟩, q4, q5⟩
        have hcc : c ≤ c' := by
          cases hz : dfZ T e w' with
          | none =>
            rw [hz] at b1'
            have h0 : (Sum.inr (c, m, []) : Nat ⊕ (Nat × Nat × List Int)) = Sum.inr (c', m', out) := b1'
            exact Nat.le_of_eq (Prod.mk.inj (Sum.inr.inj h0)).1
          | some z =>
            rw [hz] at b1'
            have h0 : vrn rm (aE a) (bsy a) (und (sN (sN a 0 c) 1 m)) (2 * rm + 3) ([(sl T (z.1 + 1) (z.2 - 1 - (z.1 + 1)), 0)], c, m, []) = .inr (c', m', out) := b1'
            exact (vrn_mk _ _ h0).1
        have b2' : m ≤ m' := b2'
        have b4' : out.length + m' + c ≤ m + dvL (dfZ T e w') + c' := b4'
        have hdL : dvL (dfZ T e w') + w' ≤ j := by
          unfold dvL
          cases hz : dfZ T e w' with
          | none => show 0 + w' ≤ j; omega
          | some z =>
            have := hzl z hz
            show z.2 - 1 - (z.1 + 1) + w' ≤ j
            omega
        have hnl2 := nrt_len (atyN T e y') out
        have htl : 2 * (tyW T e y').length + y' + 1 ≤ w0 := by
          rw [ty3, List.length_map]; exact p8
        have hgBB : gB ((gB g4, gC g4, gP2, gv2) : KG) = kpL (gB g) (acc ++ s :: tyW T e y') := by
          show gB g4 = _
          rw [u2, kpL_app, ← e1]
          rfl
        have FA3 : FAt o σ ρ3 := ⟨fun pp kk z => by rw [hF3.1 pp kk (by omega)]; exact FA.1 pp kk z, fun r z => by rw [hF3.2 r (by omega)]; exact FA.2 r z⟩
        have f207' : ∀ q, q < b → ρ3.2 207 q = σ.2 207 q := fun q hq => by
          rw [hF3.2 207 (by omega), u7 q (by rw [List.length_nil]; omega), wR 207 (by omega)]
          exact f207 q hq
        have i5' : NN = (acc ++ s :: tyW T e y') ++ adXn T e (e + 1) j := by rw [i5, List.append_assoc]; rfl
        have hal : (acc ++ s :: tyW T e y').length = acc.length + 1 + (tyW T e y').length := by rw [List.length_append, List.length_cons]; omega
        by_cases ca : (adf ad el s).isSome = true
        · obtain ⟨g1', g2', g3', g4'⟩ := hag ca
          subst g1'
          subst g2'
          have hstep : tot = dfs rm a T e el (adL T e (e + 1) j) c' m' ad2 := by
            have := hstep
            dsimp only at this
            rw [if_pos ca] at this
            exact this
          refine hK' (e + 1 - j) _ _ (Or.inl ⟨j, c', m', bb, ad2, acc ++ s :: tyW T e y', (gB g4, gC g4, gP g4, gv2), rfl, rfl, ⟨by omega, p12⟩, hk1, hstep, i5', hX4, hD3, hgBB, by show gC g4 = _; rw [gC4, e2], by show cle (gP g) (gP g4); rw [gP4]; exact e3, ?_, by omega, fun k => ?_, fun k => by have := e6' k; omega, ⟨b3', by omega, by omega⟩, by rw [h583, g3'], ⟨e10, e11, by rw [hal]; omega⟩, ⟨edl.1, fun z hz => edl.2 z (List.mem_cons_of_mem _ hz)⟩, f207', FA3⟩) (by omega)
          · show (gP g4).length + _ + _ ≤ _
            rw [gP4]
            omega
          · show gv2 k + _ = _
            rw [g4', gV4]
            have := e6 k
            show gV g2 k + (if k = 22 then m' - m else 0) + dAs (aA a) k = _
            split at this <;> split <;> omega
        · have caf : (adf ad el s).isSome = false := by simpa using ca
          obtain ⟨g1', g2', g3', g4'⟩ := hnw caf
          subst g1'
          subst g2'
          have hstep : tot = dfs rm a T e el (adL T e (e + 1) j) c' m' (ad ++ [(el, s, atyN T e y', dfK T e w', nrt (atyN T e y') out, tyW T e y')]) := by
            have := hstep
            dsimp only at this
            rw [if_neg ca] at this
            exact this
          have hdd : ∀ k, dvD ad (el, s, atyN T e y', dfK T e w', nrt (atyN T e y') out, tyW T e y') k ≤ 1 + (tyW T e y').length := fun k => dvD_le
          refine hK' (e + 1 - j) _ _ (Or.inl ⟨j, c', m', bb + (tyW T e y').length, _, acc ++ s :: tyW T e y', (gB g4, gC g4, gP g4 ++ nrt (atyN T e y') out, gv2), rfl, rfl, ⟨by omega, p12⟩, hk1, hstep, i5', hX4, hD3, hgBB, by show gC g4 = _; rw [gC4, e2], ?_, ?_, by omega, fun k => ?_, fun k => ?_, ⟨b3', by omega, by omega⟩, by rw [h583, g3']; omega, ⟨?_, by omega, by rw [hal]; omega⟩, ?_, f207', FA3⟩) (by omega)
          · show cle (gP g) (gP g4 ++ _)
            rw [gP4]
            obtain ⟨rr, hrr⟩ := e3
            exact ⟨rr ++ nrt (atyN T e y') out, by rw [hrr, List.append_assoc]⟩
          · show (gP g4 ++ nrt (atyN T e y') out).length + _ + _ ≤ _
            rw [List.length_append, gP4]
            omega
          · show gv2 k + _ = _
            rw [g4', gV4, dAs_s]
            have := e6 k
            show gV g2 k + (if k = 22 then m' - m else 0) + _ + dAs (aA a) k = _
            split at this <;> split <;> omega
          · rw [dAs_s]
            have := e6' k
            have := hdd k
            omega
          · rw [lsA_s]
            show bb + (tyW T e y').length + lsA (aA a) = b + (lsA ad + (tyW T e y').length)
            omega
          · exact ⟨edl.1.snoc (u := (el, s, atyN T e y', dfK T e w', nrt (atyN T e y') out, tyW T e y')) caf hnp, fun z hz => edl.2 z (List.mem_cons_of_mem _ hz)⟩
end Kau
