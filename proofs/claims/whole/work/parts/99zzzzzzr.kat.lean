/-! ===== the reference: a list of attributes, the first time through ===== -/
/-- the names that the definitions keep, the first time through -/
def adW (T : Nat → Int) (e : Nat) : Nat → Nat → List Str
  | 0, _ => []
  | m + 1, k => match spc T e (some k) with
    | none => []
    | some x => match nmg T e true (some x) with
      | none => []
      | some _ => tyWo T e (spc T e (nmg T e true (some x))) ++ (match dfn T e x with
        | none => []
        | some j => adW T e m j)
def adWo (T : Nat → Int) (e : Nat) (no : Option Nat) : List Str := match no with
  | none => []
  | some n => adW T e (e + 1) n
def adM (e : Nat) (no : Option Nat) : Nat := match no with
  | none => 0
  | some i => e + 2 - i
section Kat
variable {L : Nat → Nat} {rm nd o : Nat} {σ ρ τ : IS} {g g' g2 : KG} {Q : IS → Prop} {R : Int → IS → Prop} {T : Nat → Int} {p e : Nat} {CONT : Int → IS → Prop}
theorem adW_s {m k : Nat} : adW T e (m + 1) k = match spc T e (some k) with
    | none => []
    | some x => match nmg T e true (some x) with
      | none => []
      | some _ => tyWo T e (spc T e (nmg T e true (some x))) ++ (match dfn T e x with
        | none => []
        | some j => adW T e m j) := rfl
theorem adW_fuel : ∀ (n m k : Nat), k ≤ e → e < n + k → e < m + k → adW T e n k = adW T e m k := by
  intro n
  induction n with
  | zero => intro m k h0 h1 h2; omega
  | succ n ih =>
    intro m k h0 h1 h2
    cases m with
    | zero => omega
    | succ m =>
      rw [adW_s, adW_s]
      cases hs : spc T e (some k) with
      | none => rfl
      | some x =>
        dsimp only
        cases hn : nmg T e true (some x) with
        | none => rfl
        | some y =>
          dsimp only
          cases hd : dfn T e x with
          | none => rfl
          | some j =>
            dsimp only
            have h3 := spc_gt h0 hs
            have h4 := dfn_gt hd
            rw [ih m j h4.2 (by omega) (by omega)]
set_option maxHeartbeats 4000000 in
theorem sp_atl0 {v4 v6 : Int} {b : Nat} (no : Option Nat) (hL : KLn L o rm nd) (h : KZ rm nd o σ g) (hq0 : KLq σ (gB g) b []) (hK : KT L σ (p + e)) (hc : chs σ (p + e)) (hS : SHT T (σ.2 176) e p) (hno : ple e no) (hv4 : v4 = enc (mvo p no)) (hv6 : v6 = enc (mvo p (spc T e no))) (hroom : b + (adWo T e no).length ≤ 50000) (hcap : kcL (gB g) (adWo T e no))
    (hB : ∀ ρ g2, KZ rm nd o ρ g2 → gB g2 = kpL (gB g) (adWo T e no) → g2.2 = g.2 → (∀ pp kk, ¬ ((pp = 13 ∧ (kk = 1 ∨ kk = 6)) ∨ (pp = 16 ∧ (kk = 58 ∨ kk = 78 ∨ kk = 79 ∨ kk = 81 ∨ kk = 82))) → ρ.1 pp kk = σ.1 pp kk) → (∀ r, ¬ (211 ≤ r ∧ r ≤ 215) → r ≠ 207 → ρ.2 r = σ.2 r) → (∀ i, i < b → ρ.2 207 i = σ.2 207 i) → CONT (enc (mvo p (wd T e [62] (asp T e (no.bind (adk T e (e + 1))))))) ρ) :
    WL (fun (K7 : Int × Int → IS → Prop) (s9 : Int × Int) (σ10 : IS) => WJ (fun (s13 : Unit) (σ14 : IS) => WJ (fun (s17 : Int) (σ18 : IS) => CONT s17 σ18) (fun J15 => if s9.1 < 0 then J15 (-1) σ14 else w_KReader_anySpaces L s9.1 (fun v56 σ55 => w_KReader_word L v56 1124 (fun v58 σ57 => J15 v58 σ57) σ55) σ14)) (fun J11 => if s9.2 < 0 then J11 () σ10 else w_KReader_name L s9.2 (fun v61 σ60 => if v61 < 0 then J11 () σ60 else w_KReader_definition L s9.2 (fun v64 σ63 => w_KReader_spaces L v64 (fun v66 σ65 => K7 (v64, v66) σ65) σ63) σ60) σ10)) (v4, v6) σ := by
  have hneg : ∀ q : Option Nat, enc (mvo p q) < 0 ↔ q = none := fun q => by
    cases q with
    | none => exact ⟨fun _ => rfl, fun _ => by show (-1 : Int) < 0; decide⟩
    | some i => exact ⟨fun z => absurd z (by show ¬ ((p + i : Nat) : Int) < 0; omega), fun z => by cases z⟩
  generalize hNN : adWo T e no = NN at *
  generalize hRR : no.bind (adk T e (e + 1)) = RR at *
  refine WL_ind2 (fun nn s9 ρ => ∃ (ko : Option Nat) (acc : List Str) (g2 : KG), nn = adM e ko ∧ s9 = (enc (mvo p ko), enc (mvo p (spc T e ko))) ∧ ple e ko ∧ RR = ko.bind (adk T e (e + 1)) ∧ NN = acc ++ adWo T e ko ∧ KZ rm nd o ρ g2 ∧ gB g2 = kpL (gB g) acc ∧ g2.2 = g.2 ∧ KLq ρ (gB g2) b acc ∧ (∀ pp kk, ¬ ((pp = 13 ∧ (kk = 1 ∨ kk = 6)) ∨ (pp = 16 ∧ (kk = 58 ∨ kk = 78 ∨ kk = 79 ∨ kk = 81 ∨ kk = 82))) → ρ.1 pp kk = σ.1 pp kk) ∧ (∀ r, ¬ (211 ≤ r ∧ r ≤ 215) → r ≠ 207 → ρ.2 r = σ.2 r) ∧ ∀ i, i < b → ρ.2 207 i = σ.2 207 i) ?_ (adM e no) _ σ ⟨no, [], g, rfl, by rw [hv4, hv6], hno, hRR.symm, hNN.symm, h, rfl, rfl, hq0, fun _ _ _ => rfl, fun _ _ _ => rfl, fun _ _ => rfl⟩
  rintro nn s9 ρ ⟨ko, acc, g2, rfl, rfl, k1, k2, k3, hZ, e1, e2, hl, f1, f2, f3⟩ K hI
  try dsimp only
  have hKρ : KT L ρ (p + e) := by unfold KT; rw [f1 16 17 (by omega)]; exact hK
  have h176 : ρ.2 176 = σ.2 176 := f2 176 (by omega) (by omega)
  have hSρ : SHT T (ρ.2 176) e p := by rw [h176]; exact hS
  have hcρ : chs ρ (p + e) := fun i hi => by rw [h176]; exact hc i hi
  -- behind the last definition
  have fin_ : ko.bind (adk T e (e + 1)) = ko → adWo T e ko = [] → WJ (fun (s17 : Int) (σ18 : IS) => CONT s17 σ18) (fun J15 => if enc (mvo p ko) < 0 then J15 (-1) ρ else w_KReader_anySpaces L (enc (mvo p ko)) (fun v56 σ55 => w_KReader_word L v56 1124 (fun v58 σ57 => J15 v58 σ57) σ55) ρ) := fun hko hnil => by
    rw [hnil, List.append_nil] at k3
    rw [hko] at k2
    subst k3
    rw [k2] at hB
    have hgo := hB ρ g2 hZ e1 e2 f1 f2 f3
    refine WJ_dir ?_
    cases ko with
    | none =>
      rw [if_pos ((hneg none).mpr rfl)]
      exact hgo
    | some i =>
      rw [if_neg (fun z => by have := (hneg _).mp z; cases this)]
      refine kr_asp hKρ hSρ (some i) rfl k1 ?_
      refine kr_word hKρ hSρ _ rfl (asp_le k1) ti_1124 ?_
      exact hgo
  refine WJ_dir ?_
  cases ko with
  | none =>
    have e0 : spc T e none = none := rfl
    rw [e0, if_pos ((hneg none).mpr rfl)]
    exact fin_ rfl rfl
  | some i =>
    have hie := k1 i rfl
    have hst := adk_step (T := T) (e := e) hie
    have hws := adW_s (T := T) (e := e) (m := e) (k := i)
    cases hsp : spc T e (some i) with
    | none =>
      rw [hsp] at hst hws
      rw [if_pos ((hneg none).mpr rfl)]
      exact fin_ hst hws
    | some x =>
      have hxe := spc_gt hie hsp
      rw [hsp] at hst hws
      rw [if_neg (fun z => by have := (hneg _).mp z; cases this)]
      refine kr_name hKρ hSρ (some x) rfl (fun w hw => by cases hw; exact hxe.2.1) ?_
      have hst : adk T e (e + 1) i = match nmg T e true (some x) with
        | none => some i
        | some _ => match dfn T e x with
          | none => none
          | some j => adk T e (e + 1) j := hst
      have hws : adW T e (e + 1) i = match nmg T e true (some x) with
        | none => []
        | some _ => tyWo T e (spc T e (nmg T e true (some x))) ++ (match dfn T e x with
          | none => []
          | some j => adW T e e j) := hws
      cases hnm : nmg T e true (some x) with
      | none =>
        rw [hnm] at hst hws
        rw [if_pos ((hneg none).mpr rfl)]
        exact fin_ hst hws
      | some y =>
        rw [if_neg (fun z => by have := (hneg _).mp z; cases this)]
        have hws2 : adW T e (e + 1) i = tyWo T e (spc T e (nmg T e true (some x))) ++ (match dfn T e x with
          | none => []
          | some j => adW T e e j) := by rw [hws, hnm]
        have hst2 : adk T e (e + 1) i = match dfn T e x with
          | none => none
          | some j => adk T e (e + 1) j := by rw [hst, hnm]
        have k3' : NN = acc ++ (tyWo T e (spc T e (nmg T e true (some x))) ++ (match dfn T e x with
          | none => []
          | some j => adW T e e j)) := by rw [k3]; show acc ++ adW T e (e + 1) i = _; rw [hws2]
        have hcap2 := hcap
        rw [k3', kcL_app, kcL_app, ← e1] at hcap2
        have hlen : acc.length + (tyWo T e (spc T e (nmg T e true (some x)))).length ≤ NN.length := by
          rw [k3', List.length_append, List.length_append]; omega
        refine sp_K_definition (b := b) (l := acc) (xx := x) hL hZ hl hKρ hcρ hSρ rfl hxe.2.1 (by omega) hcap2.2.1 (fun ρ1 g3 w1 w2 w3 w4 w5 w6 w7 _ => ?_)
        have hKρ1 : KT L ρ1 (p + e) := by unfold KT; rw [w5 16 17 (by omega)]; exact hKρ
        have hSρ1 : SHT T (ρ1.2 176) e p := by rw [w6 176 (by omega) (by omega)]; exact hSρ
        have pdf : ple e (dfn T e x) := fun w hw => (dfn_gt hw).2
        refine kr_spc hKρ1 hSρ1 _ rfl pdf ?_
        refine hI (adM e (dfn T e x)) _ _ ⟨dfn T e x, acc ++ tyWo T e (spc T e (nmg T e true (some x))), g3, rfl, rfl, pdf, ?_, ?_, w1, ?_, ?_, w4, fun pp kk z => ?_, fun r z1 z2 => ?_, fun j hj => ?_⟩ ?_
        · rw [k2]
          show adk T e (e + 1) i = _
          rw [hst2]
          cases dfn T e x <;> rfl
        · rw [k3', List.append_assoc]
          congr 2
          cases hd : dfn T e x with
          | none => rfl
          | some j =>
            have := dfn_gt hd
            exact adW_fuel _ _ _ (by omega) (by omega) (by omega)
        · rw [w2, e1, kpL_app]
        · rw [w3]; exact e2
        · rw [w5 pp kk z, f1 pp kk z]
        · rw [w6 r z1 z2, f2 r z1 z2]
        · rw [w7 j (by omega), f3 j hj]
        · cases hd : dfn T e x with
          | none => show 0 < e + 2 - i; omega
          | some j =>
            have := dfn_gt hd
            show e + 2 - j < e + 2 - i
            omega
end Kat
