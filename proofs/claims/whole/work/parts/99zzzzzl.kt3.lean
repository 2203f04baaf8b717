/-! ===== the reference: the attributes of a tag, one after another ===== -/
def tgs (ad : List ADc) (acc : List Att) (k : Nat) : Nat := (acc.map (fun z => tgz ad z k)).sum
section Kt3
variable {L : Nat → Nat} {rm nd o : Nat} {σ ρ τ : IS} {g g' : KG} {a A : AS} {bs : List Nat} {Q : IS → Prop} {R : Int → IS → Prop} {T : Nat → Int} {p e : Nat} {el s : Str} {FIN : IS → Prop}
theorem tgz_le {ad : List ADc} {z : Att} {k : Nat} : tgz ad z k ≤ 1 := by
  unfold tgz
  cases z.2.2 with
  | none =>
    show (if k = 7 then 1 else 0) ≤ 1
    split <;> omega
  | some d =>
    dsimp only
    split
    · split <;> omega
    · split
      · split <;> omega
      · omega
theorem tgs_s {ad : List ADc} {acc : List Att} {z : Att} {k : Nat} : tgs ad (acc ++ [z]) k = tgs ad acc k + tgz ad z k := by
  unfold tgs
  rw [List.map_append, List.sum_append]
  simp
theorem tgs_le {ad : List ADc} {acc : List Att} {k : Nat} : tgs ad acc k ≤ acc.length := by
  unfold tgs
  induction acc with
  | nil => exact Nat.le_refl _
  | cons z r ih =>
    rw [List.map_cons, List.sum_cons, List.length_cons]
    have := tgz_le (ad := ad) (z := z) (k := k)
    omega
theorem gnl_s {l : List Str} : gnl (l ++ [s]) = gnl l ++ (s :: plk s) := by
  unfold gnl
  rw [List.flatMap_append]
  congr 1
  show (s :: plk s) ++ [] = _
  rw [List.append_nil]
theorem KVx.kp (ho : o = 14 ∨ o = 15) (h : KVx rm nd o σ g A bs) (hZ : KZ rm nd o τ (kpS (gB g) s, g.2)) (hf : frB σ τ) : KVx rm nd o τ (kpS (gB g) s, g.2) A bs := by
  have r1 := rf_1 ho
  have hk : kle (gB g) (kpS (gB g) s) := kpS_pre
  have hR : ∀ r, ¬ (211 ≤ r ∧ r ≤ 215) → τ.2 r = σ.2 r := fun r z => funext (fun i => hf.2 r i (by omega))
  exact ⟨hZ, h.2.1.dep hk cle.refl (hf.1 16 32 (by omega)) (fun r x y => hR r (by omega)), h.2.2.1.dep (fun k x => hf.1 16 k (by omega)) (hR _ (by omega)), h.2.2.2.1.dep hk (hf.1 16 20 (by omega)) (hf.1 16 24 (by omega)), by rw [hf.1 16 3 (by omega)]; exact h.2.2.2.2⟩
theorem frB.fg (ho : o = 14 ∨ o = 15) (hf : frB σ τ) : FG o σ τ := ⟨fun pp kk z => hf.1 pp kk (by omega), fun r z => funext (fun i => hf.2 r i (by omega))⟩
set_option maxHeartbeats 4000000 in
theorem sp_tag1 {n κ : Nat} {at0 : List Att} {v29 fst v32 : Int} (hL : KLn L o rm nd) (h : KVx rm nd o σ g a (bsy a)) (hAd : KAd σ (gB g) (gP g) (aA a)) (hAt : KAt o σ (gB g) (gP g) (aA a) at0) (he : (aE a).length ≤ 8300) (hN : aN a 0 ≤ rm) (h6 : aN a 6 ≠ 0 → (aR a).isSome = true) (hV : ∀ k, gV g k ≤ 800000000) (hK : KT L σ (p + e)) (hc : chs σ (p + e)) (hS : SHT T (σ.2 176) e p) (hp : p + e ≤ (gC g).length) (hn : n ≤ e) (hatk : atk T e (e + 1) n = some κ) (hel : Kn (gB g) v29 el) (hfst : fst = (at0.length : Int)) (hroom : at0.length + (atL T e (e + 1) n).length ≤ L (rfo o 8)) (hbk : kcL (gB g) (gnl (atN T (atL T e (e + 1) n)))) (hty : ∀ d, d < (aA a).length → ((aA a).getD d adD).2.2.1 ≤ 9) (hdl : (aA a).length ≤ 8300) (h58 : σ.1 16 58 ≤ 50000) (hcap : (gP g).length + e + (rm - aN a 0) ≤ L (rfo o 1)) (hec : e ≤ aN a 0) (hv32 : v32 = enc (mvo p (spc T e (some n))))
    (hbad : ∀ f ρ, gvs rm a T el (atL T e (e + 1) n) (aN a 0) (aN a 1) [] = .inl f → f ≠ 0 → ρ.1 16 3 = (f : Int) → ρ.1 16 4 = σ.1 16 4 → FIN ρ)
    (hgood : ∀ c m gv ρ g2, gvs rm a T el (atL T e (e + 1) n) (aN a 0) (aN a 1) [] = .inr (c, m, gv) → KVx rm nd o ρ g2 (sN (sN a 0 c) 1 m) (bsy a) → KAd ρ (gB g2) (gP g2) (aA a) → KAt o ρ (gB g2) (gP g2) (aA a) (at0 ++ gv) → gB g2 = kpL (gB g) (gnl (gv.map (fun z => z.1))) → gC g2 = gC g → cle (gP g) (gP g2) → (gP g2).length + aN a 0 + n ≤ (gP g).length + κ + c → (∀ k, gV g2 k = gV g k + (if k = 22 then m - aN a 1 else 0) + tgs (aA a) gv k) → c ≤ rm → aN a 0 ≤ c → aN a 1 ≤ m → gv.map (fun z => z.1) = atN T (atL T e (e + 1) n) → FG o σ ρ → FIN ρ) :
    WL (fun (K33 : Int → IS → Prop) (s35 : Int) (σ36 : IS) => WJ (fun (s39 : Unit) (σ40 : IS) => FIN σ40) (fun J37 => if (σ36.1 16 3) = 0 ∧ (¬ s35 < 0) then w_KReader_name L s35 (fun v95 σ94 => if v95 < 0 then J37 () σ94 else w_KReader_name L s35 (fun v98 σ97 => w_KReader_equal L v98 (fun v100 σ99 => w_KReader_value L v100 (fun v102 σ101 => inR (v98 - s35) ∧ w_KReader_keep L s35 (v98 - s35) (fun v104 σ103 => w_KReader_given L v29 fst v104 v100 (fun σ105 => w_KReader_spaces L v102 (fun v108 σ107 => K33 v108 σ107) σ105) σ103) σ101) σ99) σ97) σ94) σ36 else J37 () σ36)) v32 σ := by
  have ho := hL.2.1
  have r1 := rf_1 ho
  have hK2 := hK.2.2
  have l176 := hL.2.2.2.1
  have lA := hL.2.2.2.2.2.2.2.2.2.2.2.2.2.2.2.2.2.1
  have hrm := hL.2.2.1.1
  have hneg : ∀ q : Option Nat, enc (mvo p q) < 0 ↔ q = none := fun q => by
    cases q with
    | none => exact ⟨fun _ => rfl, fun _ => by show (-1 : Int) < 0; decide⟩
    | some i => exact ⟨fun z => absurd z (by show ¬ ((p + i : Nat) : Int) < 0; omega), fun z => by cases z⟩
  generalize htot : gvs rm a T el (atL T e (e + 1) n) (aN a 0) (aN a 1) [] = tot at *
  refine WL_ind2 (fun nn s35 ρ => (∃ (i c m : Nat) (acc : List Att) (g2 : KG), nn = e + 1 - i ∧ s35 = enc (mvo p (spc T e (some i))) ∧ n ≤ i ∧ i ≤ e ∧ atk T e (e + 1) i = some κ ∧ tot = gvs rm a T el (atL T e (e + 1) i) c m acc ∧ KVx rm nd o ρ g2 (sN (sN a 0 c) 1 m) (bsy a) ∧ KAd ρ (gB g2) (gP g2) (aA a) ∧ KAt o ρ (gB g2) (gP g2) (aA a) (at0 ++ acc) ∧ gB g2 = kpL (gB g) (gnl (acc.map (fun z => z.1))) ∧ gC g2 = gC g ∧ cle (gP g) (gP g2) ∧ (gP g2).length + aN a 0 + n ≤ (gP g).length + i + c ∧ m + aN a 0 ≤ aN a 1 + i + c ∧ (∀ k, gV g2 k = gV g k + (if k = 22 then m - aN a 1 else 0) + tgs (aA a) acc k) ∧ c ≤ rm ∧ aN a 0 ≤ c ∧ aN a 1 ≤ m ∧ atN T (atL T e (e + 1) n) = acc.map (fun z => z.1) ++ atN T (atL T e (e + 1) i) ∧ FG o σ ρ) ∨ (nn = 0 ∧ ∃ f : Nat, f ≠ 0 ∧ tot = .inl f ∧ ρ.1 16 3 = (f : Int) ∧ ρ.1 16 4 = σ.1 16 4)) ?_ (e + 1 - n) _ σ (Or.inl ⟨n, aN a 0, aN a 1, [], g, rfl, hv32, Nat.le_refl _, hn, hatk, htot.symm, ?_, hAd, by rw [List.append_nil]; exact hAt, rfl, rfl, cle.refl, by omega, by omega, fun k => ?_, hN, Nat.le_refl _, Nat.le_refl _, rfl, FG.refl⟩)
  rotate_left
  · obtain ⟨q1, q2, q3, q4, q5⟩ := h
    obtain ⟨n1, n2, n3, n4, n5, n6, n7⟩ := q3
    exact ⟨q1, q2, ⟨n1, n2, n3, n4, n5, n6, n7⟩, q4, q5⟩
  · rw [Nat.sub_self]
    show gV g k = gV g k + (if k = 22 then 0 else 0) + 0
    split <;> rfl
  rintro nn s35 ρ hI K hK'
  try dsimp only
  refine WJ_dir ?_
  rcases hI.symm with ⟨-, f, f1, f2, f3, f4⟩ | ⟨i, c, m, acc, g2, rfl, rfl, i1, i2, i3, i4, hX, hD, hT, e1, e2, e3, e4, e5, e6, e7, e8, e9, e10, hF⟩
  · rw [if_neg (fun z => by have := z.1; omega)]
    exact hbad f ρ f2 f1 f3 f4
  clear hI
  have hρ3 : ρ.1 16 3 = 0 := hX.2.2.2.2
  have hKρ : KT L ρ (p + e) := by unfold KT; rw [hF.1 16 17 (by omega)]; exact hK
  have h176 : ρ.2 176 = σ.2 176 := hF.2 176 (by omega)
  have hcρ : chs ρ (p + e) := by unfold chs; rw [h176]; exact hc
  have hSρ : SHT T (ρ.2 176) e p := by rw [h176]; exact hS
  have hstA := atL_step (T := T) (e := e) i2
  have hstK := atk_step (T := T) (e := e) i2
  have fin_ : atL T e (e + 1) i = [] → atk T e (e + 1) i = some i → FIN ρ := fun q1 q2 => by
    rw [q1] at i4 e10
    have hκ : κ = i := by rw [i3] at q2; exact Option.some.inj q2
    exact hgood c m acc ρ g2 i4 hX hD hT e1 e2 e3 (by rw [hκ]; exact e4) e6 e7 e8 e9 (by rw [e10]; show _ = _ ++ []; rw [List.append_nil]) hF
  cases hsp : spc T e (some i) with
  | none =>
    rw [if_neg (fun z => z.2 ((hneg none).mpr rfl))]
    rw [hsp] at hstA hstK
    exact fin_ hstA hstK
  | some xx =>
    rw [hsp] at hstA hstK
    have hxg := spc_gt i2 hsp
    have hxe : ple e (some xx) := fun q hq => by cases hq; exact hxg.2.1
    rw [if_pos ⟨hρ3, fun z => by have := (hneg _).mp z; cases this⟩]
    refine kr_name hKρ hSρ (some xx) rfl hxe ?_
    cases hnm : nmg T e true (some xx) with
    | none =>
      rw [if_pos ((hneg none).mpr rfl)]
      refine fin_ ?_ ?_
      · rw [hstA]
        show (match nmg T e true (some xx) with
          | none => []
          | some b => _) = _
        rw [hnm]
      · rw [hstK]
        show (match nmg T e true (some xx) with
          | none => some i
          | some b => _) = _
        rw [hnm]
    | some b =>
      have hbl := nmg_lt hnm
      have pb : ple e (some b) := fun q hq => by cases hq; exact hbl.2.2
      rw [if_neg (fun z => by have := (hneg _).mp z; cases this)]
      refine kr_name hKρ hSρ (some xx) rfl hxe ?_
      rw [hnm]
      refine kr_equal hKρ hSρ (some b) rfl pb ?_
      have hstK2 : atk T e (e + 1) i = match vlp T e (eqs T e (some b)) with
          | none => none
          | some j => atk T e (e + 1) j := by
        rw [hstK]
        show (match nmg T e true (some xx) with
          | none => some i
          | some b => match vlp T e (eqs T e (some b)) with
            | none => none
            | some j => atk T e (e + 1) j) = _
        rw [hnm]
      cases heq : eqs T e (some b) with
      | none => rw [heq] at hstK2; rw [i3] at hstK2; cases hstK2
      | some vq =>
      rw [heq] at hstK2
      have heg := eqs_gt hbl.2.2 heq
      cases hvl : vlp T e (some vq) with
      | none => rw [hvl] at hstK2; rw [i3] at hstK2; cases hstK2
      | some j =>
      rw [hvl] at hstK2
      have hvg := vlp_gt hvl
      refine kr_value hKρ hcρ hSρ (some vq) rfl (fun q hq => by cases hq; exact heg.2) ?_
      rw [hvl]
      have eat : atL T e (e + 1) i = (xx, b, vq, j) :: atL T e (e + 1) j := by
        rw [hstA]
        show (match nmg T e true (some xx) with
          | none => []
          | some b => match eqs T e (some b) with
            | none => []
            | some v => match vlp T e (some v) with
              | none => []
              | some j => (xx, b, v, j) :: atL T e (e + 1) j) = _
        rw [hnm]
        show (match eqs T e (some b) with
            | none => []
            | some v => match vlp T e (some v) with
              | none => []
              | some j => (xx, b, v, j) :: atL T e (e + 1) j) = _
        rw [heq]
        show (match vlp T e (some vq) with
              | none => []
              | some j => (xx, b, vq, j) :: atL T e (e + 1) j) = _
        rw [hvl]
      rw [eat, gvs_cons] at i4
      have eatN : atN T ((xx, b, vq, j) :: atL T e (e + 1) j) = sl T xx (b - xx) :: atN T (atL T e (e + 1) j) := rfl
      rw [eat, eatN] at e10
      rw [show enc (mvo p (some b)) - enc (mvo p (some xx)) = ((b - xx : Nat) : Int) from (by show ((p + b : Nat) : Int) - ((p + xx : Nat) : Int) = _; omega), show enc (mvo p (some xx)) = ((p + xx : Nat) : Int) from rfl]
      refine ⟨⟨by omega, by omega⟩, ?_⟩
      have esl : sl (ρ.2 176) (p + xx) (b - xx) = sl T xx (b - xx) := sh_sl hSρ (by omega)
      have hnc : ∀ cc ∈ sl T xx (b - xx), isNm cc = true := fun cc hcc => by
        obtain ⟨q, q1, q2⟩ := List.getElem_of_mem hcc
        rw [sl_ln] at q1
        have q3 := sl_get (f := T) (i := xx) q1
        rw [List.getElem?_eq_getElem (by rw [sl_ln]; exact q1)] at q3
        have q4 : (sl T xx (b - xx))[q] = T (xx + q) := Option.some.inj q3
        rw [← q2, q4]
        exact nmg_all hnm (xx + q) (by omega) (by omega)
      have hal : (atL T e (e + 1) n).length = acc.length + 1 + (atL T e (e + 1) j).length := by
        have := congrArg List.length e10
        unfold atN at this
        rw [List.length_map, List.length_append, List.length_map, List.length_cons, List.length_map] at this
        omega
      generalize hsn : sl T xx (b - xx) = s at *
      have hcap2 : kcL (gB g2) (s :: plk s) := by
        rw [e10] at hbk
        rw [show acc.map (fun z => z.1) ++ s :: atN T (atL T e (e + 1) j) = (acc.map (fun z => z.1) ++ [s]) ++ atN T (atL T e (e + 1) j) by rw [List.append_assoc]; rfl] at hbk
        have e11 : gnl ((acc.map (fun z => z.1) ++ [s]) ++ atN T (atL T e (e + 1) j)) = gnl (acc.map (fun z => z.1)) ++ ((s :: plk s) ++ gnl (atN T (atL T e (e + 1) j))) := by
          rw [← List.append_assoc, ← gnl_s]
          unfold gnl
          rw [List.flatMap_append]
        rw [e11] at hbk
        have := (kcL_app.mp hbk).2
        rw [← e1] at this
        exact (kcL_app.mp this).1
      refine ⟨(hX.dy ho).2, sp_K_bkZ (p := p + xx) (n := b - xx) hL hX.1 (Or.inl (by decide)) ⟨by omega, by omega⟩ rfl rfl esl hcap2.1 (fun v104 ρ1 w1 w2 w3 => ?_)⟩
      have hX1 := hX.kp ho w2 w3
      have hk1 : kle (gB g2) (kpS (gB g2) s) := kpS_pre
      have w3R : ∀ r, ¬ (211 ≤ r ∧ r ≤ 215) → ρ1.2 r = ρ.2 r := fun r z => funext (fun q => w3.2 r q (by omega))
      have hD1 : KAd ρ1 (kpS (gB g2) s) (gP g2) (aA a) := hD.dep hk1 cle.refl (w3.1 16 56 (by omega)) (by rw [w3.1 16 58 (by omega)]; exact Int.le_refl _) (fun r z1 z2 => w3R r (by omega)) (fun q _ => by rw [w3R 207 (by omega)])
      have hT1 : KAt o ρ1 (kpS (gB g2) s) (gP g2) (aA a) (at0 ++ acc) := hT.dep hk1 cle.refl (w3.1 o 14 (by omega)) (fun k z1 z2 => w3R _ (by have := rf_8 ho z1 z2; omega))
      have hkg : kle (gB g) (gB g2) := by rw [e1]; exact kpL_pre
      have hF1 : FG o σ ρ1 := hF.trans (frB.fg ho w3)
      have hKρ1 : KT L ρ1 (p + e) := by unfold KT; rw [hF1.1 16 17 (by omega)]; exact hK
      have h1761 : ρ1.2 176 = σ.2 176 := hF1.2 176 (by omega)
      have hcρ1 : chs ρ1 (p + e) := by unfold chs; rw [h1761]; exact hc
      have hSρ1 : SHT T (ρ1.2 176) e p := by rw [h1761]; exact hS
      have ev : ∀ (c0 m0 : Nat), val rm a (sl T (vq + 1) (j - 1 - (vq + 1))) c0 m0 = vrn rm (aE a) (bsy a) (und a) (2 * rm + 3) ([(sl T (vq + 1) (j - 1 - (vq + 1)), 0)], c0, m0, []) := fun _ _ => rfl
      rw [ev] at i4
      have htl := fun k => tgs_le (ad := aA a) (acc := acc) (k := k)
      have hgv : ∀ k, gV ((kpS (gB g2) s, g2.2) : KG) k ≤ 900000000 := fun k => by
        show gV g2 k ≤ _
        rw [e6]
        have := hV k
        have := htl k
        split <;> omega
      -- spaces behind, on whatever came
      have sps : ∀ (ρ2 : IS) (W : Int → IS → Prop), ρ2.1 16 17 = σ.1 16 17 → ρ2.2 176 = σ.2 176 → W (enc (mvo p (spc T e (some j)))) ρ2 → w_KReader_spaces L (enc (mvo p (some j))) W ρ2 := fun ρ2 W b1' b2 b3 => by
        refine kr_spc (σ := ρ2) (T := T) (e := e) (p := p) ?_ ?_ (some j) rfl (fun q hq => by cases hq; exact hvg.2.1) b3
        · unfold KT; rw [b1']; exact hK
        · rw [b2]; exact hS
      have tobad : ∀ (f : Nat) (ρ2 : IS), f ≠ 0 → tot = .inl f → ρ2.1 16 3 = (f : Int) → (ρ2.1 16 4 = ρ1.1 16 4 ∧ ρ2.1 16 17 = ρ1.1 16 17 ∧ ρ2.2 176 = ρ1.2 176) → w_KReader_spaces L (enc (mvo p (some j))) (fun v108 σ107 => K v108 σ107) ρ2 := fun f ρ2 b1' b2 b3 b4 => by
        refine sps ρ2 _ (by rw [b4.2.1, hF1.1 16 17 (by omega)]) (by rw [b4.2.2, h1761]) ?_
        exact hK' 0 _ _ (Or.inr ⟨rfl, f, b1', b2, b3, by rw [b4.1, hF1.1 16 4 (by omega)]⟩) (by omega)
      refine sp_K_given (A := sN (sN a 0 c) 1 m) (g := (kpS (gB g2) s, g2.2)) (at0 := at0) (acc := acc) (vv := vq) (j := j) (T := T) (p := p) (e := e) (el := el) (s := s) hL hX1 hD1 hT1 he e7 h6 hgv hKρ1 hcρ1 hSρ1 (by show p + e ≤ (gC g2).length; rw [e2]; exact hp) rfl (vlp_ltl hvl) (by show _ ≤ c; omega) (by show (gP g2).length + (j - 1 - (vq + 1)) + (rm - c) ≤ _; omega) (by omega) ((hel.le hkg).le hk1) hfst w1 hnc hcap2.2 hty hdl (by rw [hF1.1 16 58 (by omega)]; exact h58) (fun q1 ρ2 q2 q3 => ?_) (fun q1 f ρ2 q2 q0 q3 q4 => ?_) (fun q1 c' m' out q2 q3 q4 q5 ρ2 g3 q6 q7 q8 q9 q10 q11 q12 q13 => ?_)
      · exact tobad 8 ρ2 (by decide) (by rw [i4, if_pos q1]) q2 q3
      · have q2' : vrn rm (aE a) (bsy a) (und a) (2 * rm + 3) ([(sl T (vq + 1) (j - 1 - (vq + 1)), 0)], c, m, []) = .inl f := q2
        exact tobad f ρ2 q0 (by rw [i4, if_neg q1, q2']) q3 q4
      · have q2' : vrn rm (aE a) (bsy a) (und a) (2 * rm + 3) ([(sl T (vq + 1) (j - 1 - (vq + 1)), 0)], c, m, []) = .inr (c', m', out) := q2
        rw [if_neg q1, q2'] at i4
        have i4' : tot = gvs rm a T el (atL T e (e + 1) j) c' m' (acc ++ [(s, nrt (dty (aA a) (adf (aA a) el s)) out, adf (aA a) el s)]) := i4
        have q3' : m ≤ m' := q3
        have q5' : out.length + m' + c ≤ m + (j - 1 - (vq + 1)) + c' := q5
        have q6' : KVx rm nd o ρ2 g3 (sN (sN a 0 c') 1 m') (bsy a) := by
          obtain ⟨z1, z2, z3, z4, z5⟩ := q6
          obtain ⟨n1, n2, n3, n4, n5, n6, n7⟩ := z3
          exact ⟨z1, z2, ⟨n1, n2, n3, n4, n5, n6, n7⟩, z4, z5⟩
        have q9' : gB g3 = kpL (kpS (gB g2) s) (plk s) := q9
        have q10' : gC g3 = gC g2 := q10
        have q11' : gP g3 = gP g2 ++ nrt (dty (aA a) (adf (aA a) el s)) out := q11
        have hvl2 := nrt_len (dty (aA a) (adf (aA a) el s)) out
        have q12' : ∀ k, gV g3 k = gV g2 k + (if k = 22 then m' - m else 0) + tgz (aA a) (s, nrt (dty (aA a) (adf (aA a) el s)) out, adf (aA a) el s) k := q12
        have hF2 := hF1.trans q13
        have q8' : KAt o ρ2 (gB g3) (gP g3) (aA a) (at0 ++ (acc ++ [(s, nrt (dty (aA a) (adf (aA a) el s)) out, adf (aA a) el s)])) := q8
        have hstK3 : atk T e (e + 1) i = atk T e (e + 1) j := hstK2
        have q14 : c ≤ c' := (vrn_mk _ _ q2').1
        generalize hzz : nrt (dty (aA a) (adf (aA a) el s)) out = vz at *
        refine sps ρ2 _ (hF2.1 16 17 (by omega)) (hF2.2 176 (by omega)) ?_
        refine hK' (e + 1 - j) _ _ (Or.inl ⟨j, c', m', acc ++ [(s, vz, adf (aA a) el s)], g3, rfl, rfl, by omega, hvg.2.1, by rw [← hstK3]; exact i3, i4', q6', q7, q8', ?_, by rw [q10', e2], ?_, ?_, by omega, fun k => ?_, q4, by omega, by omega, ?_, hF2⟩) (by omega)
        · rw [q9', List.map_append]
          show _ = kpL (gB g) (gnl (acc.map (fun z => z.1) ++ [s]))
          rw [gnl_s, kpL_app, ← e1]
          rfl
        · obtain ⟨rr, hrr⟩ := e3
          exact ⟨rr ++ vz, by rw [q11', hrr, List.append_assoc]⟩
        · rw [q11', List.length_append]
          omega
        · rw [q12', e6, tgs_s]
          by_cases k22 : k = 22
          · rw [if_pos k22, if_pos k22, if_pos k22]; omega
          · rw [if_neg k22, if_neg k22, if_neg k22]; omega
        · rw [e10, List.map_append, List.append_assoc]
          rfl
end Kt3
