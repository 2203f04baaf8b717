/-! ===== the validator: whether an element fits its declaration (6) ===== -/
/-- the model of a declaration, and its names -/
def mvE (x : EDc) : MVl × List Str := (mdV (gd x.2.2) x.2.2.length (x.2.2.length + 2) [(0, none)] true 1 []).getD ((false, fun _ => false, fun _ => false, fun _ _ => false), [])
/-- the names of a mixed group -/
def mxN (x : EDc) : List Str := (mxL (gd x.2.2) x.2.2.length (x.2.2.length + 1) (mx0 x.2.2)).map (fun q => sl (gd x.2.2) q.1 (q.2 - q.1))
/-- whether a model makes a row of names -/
def acc (NS : List Str) (V : MVl) : (Nat → Bool) → Bool → List Str → Bool
  | _, c, [] => c
  | M, _, w :: r => acc NS V (stM NS V M w NS.length) (cpM NS V M w NS.length) r
/-- the names in an element -/
def cns (el : List Elm) (j e : Nat) : List Str := (chl (kpr el) el.length e j).map (fun i => (el.getD i elD).1)
def fit (ed : List EDc) (el : List Elm) (x : EDc) (e : Nat) : Bool :=
  if x.2.1 = 0 then !(el.getD e elD).2.2.2.2.2.1
  else if x.2.1 = 3 then (!(el.getD e elD).2.2.2.2.2.2) && acc (mvE x).2 (mvE x).1 (mvE x).1.2.1 (mvE x).1.1 (cns el 0 e)
  else if x.2.1 = 2 then (cns el 0 e).all (fun s => decide (s ∈ mxN x))
  else (cns el 0 e).all (fun s => (edf ed s).isSome)
/-- only the model's place has changed -/
def MAx (σ τ : IS) : Prop := (∀ o k, ¬ (o = 9 ∧ k = 12) → τ.1 o k = σ.1 o k) ∧ ∀ r, r ≠ 144 → r ≠ 145 → τ.2 r = σ.2 r
section Fts
variable {L : Nat → Nat} {σ : IS} {el : List Elm} {ed : List EDc}
theorem MAt.ax {τ : IS} {M : Nat → Bool} {c : Bool} (h : MAt σ τ M c) : MAx σ τ := ⟨h.1, h.2.1⟩
theorem acc_none {NS : List Str} {V : MVl} : ∀ (r : List Str) (M : Nat → Bool), (∀ p, M p = false) → acc NS V M false r = false := by
  intro r
  induction r with
  | nil => intro M _; rfl
  | cons w r ih =>
    intro M hM
    have h1 : cpM NS V M w NS.length = false := by
      unfold cpM
      rw [List.any_eq_false]
      intro p _
      rw [hM p]; simp
    show acc NS V (stM NS V M w NS.length) (cpM NS V M w NS.length) r = false
    rw [h1]
    refine ih _ (fun q => ?_)
    unfold stM
    rw [List.any_eq_false]
    intro p _
    rw [hM p]; simp
theorem acc_dead {NS : List Str} {V : MVl} {M : Nat → Bool} {w : Str} {r : List Str} (h : anM NS M w NS.length = false) : acc NS V (stM NS V M w NS.length) (cpM NS V M w NS.length) r = false := by
  unfold anM at h
  rw [List.any_eq_false] at h
  have h0 : ∀ p ∈ List.range NS.length, ∀ b, ((NS.getD p [] == w) && (M p && b)) = false := fun p hp b => by
    have := h p hp
    rw [← Bool.and_assoc]
    cases hx : ((NS.getD p [] == w) && M p) with
    | false => rfl
    | true => exact absurd hx this
  have h1 : cpM NS V M w NS.length = false := by
    unfold cpM
    rw [List.any_eq_false]
    intro p hp z
    rw [h0 p hp] at z; cases z
  rw [h1]
  refine acc_none r _ (fun q => ?_)
  unfold stM
  rw [List.any_eq_false]
  intro p hp z
  rw [h0 p hp] at z; cases z
set_option maxHeartbeats 1000000 in
theorem sp_Validator_fits {Q : Int → IS → Prop} {x : EDc} {e : Nat} {mk : Int} (hS : SI L σ) (hsl : SL L) (hL : MLn L) (he : e < el.length) (h62 : σ.1 6 2 = (el.length : Int)) (hE : ∀ i, i < el.length → Jn σ (σ.2 146 i) (el.getD i elD).1 ∧ cbt (σ.2 133 i) (el.getD i elD).2.2.2.2.2.1 (el.getD i elD).2.2.2.2.2.2) (hLk : LK (kpr el) el.length el.length 0 (σ.2 150) (σ.2 151)) (hLe : el.length ≤ L 133 ∧ el.length ≤ L 146 ∧ el.length ≤ L 150 ∧ el.length ≤ L 151 ∧ el.length < 1000000) (h125 : WM L σ 125 (fun s => en1 (edf ed s))) (l125 : L 125 = L 102) (h3 : x.2.1 = 3 → MDn σ (mvE x).1 (mvE x).2 ∧ (mvE x).2.length ≤ 256) (h2 : x.2.1 = 2 → ∀ w, w < jw σ → (σ.2 155 w = mk ↔ wst σ w ∈ mxN x))
    (hq : ∀ σ', MAx σ σ' → Q (b1 (fit ed el x e)) σ') : w_Validator_fits L (e : Int) (x.2.1 : Int) mk Q σ := by
  have hj := hS.jw_le
  have e155 : L 102 = L 155 := hsl.2.2.2.1
  have h102 : L 102 < 1000000 := hsl.2.2.2.2.2.2.1
  obtain ⟨x146e, c1, c2, c3⟩ := hE e he
  have hself : MAx σ σ := ⟨fun _ _ _ => rfl, fun _ _ _ => rfl⟩
  unfold w_Validator_fits
  rw [show Int.toNat (e : Int) = e from rfl]
  refine ⟨⟨by omega, by omega⟩, ?_⟩
  by_cases k0 : x.2.1 = 0
  · rw [if_pos (by omega)]
    have h := hq σ hself
    unfold fit at h
    rw [if_pos k0] at h
    have hb : (if σ.2 133 e = 0 then (1 : Int) else 0) = b1 (!(el.getD e elD).2.2.2.2.2.1) := by
      cases ht : (el.getD e elD).2.2.2.2.2.1 with
      | false => rw [if_pos (c2.mpr ht)]; rfl
      | true => rw [if_neg (fun z => by rw [c2.mp z] at ht; cases ht)]; rfl
    rw [hb]
    exact h
  · rw [if_neg (by omega)]
    -- the loop over what is in it, for any kind
    have loop : ∀ (F : Bool) (P : Bool → List Str → IS → Prop) (τ0 : IS), (∀ f r τ, P f r τ → MAx σ τ) → (∀ r τ, P false r τ → F = false) → (x.2.1 = 3 → ∀ τ, P true [] τ → τ.1 9 12 = b1 F) → (x.2.1 ≠ 3 → ∀ τ, P true [] τ → F = true) → (∀ (i : Nat) (r : List Str) (τ : IS) (J : Int → IS → Prop), i < el.length → P true ((el.getD i elD).1 :: r) τ → (∀ f τ', P f r τ' → J (b1 f) τ') → (if (x.2.1 : Int) = 3 then w_Model_accept L (τ.2 146 i) (fun v33 σ32 => J v33 σ32) τ else ((((x.2.1 : Int) = 2 → inL L 155 (τ.2 146 i)) ∧ (¬ (x.2.1 : Int) = 2 → inL L 125 (τ.2 146 i)))) ∧ J (if (x.2.1 : Int) = 2 then (if (τ.2 155 (Int.toNat (τ.2 146 i))) = mk then (1 : Int) else (0 : Int)) else (if (τ.2 125 (Int.toNat (τ.2 146 i))) = 0 then (0 : Int) else (1 : Int))) τ)) → P true (cns el 0 e) τ0 → (∀ τ, MAx σ τ → Q (b1 F) τ) → inL L 150 (e : Int) ∧ WL (fun (K6 : Int × Int × Int → IS → Prop) (s8 : Int × Int × Int) (σ9 : IS) => if s8.2.2 < (σ9.1 6 2) ∧ (¬ s8.2.1 = (-1) ∧ (¬ s8.1 = 0)) then inL L 146 s8.2.1 ∧ WJ (fun (s12 : Int) (σ13 : IS) => inL L 151 s8.2.1 ∧ inR (s8.2.2 + 1) ∧ K6 (s12, (σ13.2 151 (Int.toNat s8.2.1)), (s8.2.2 + 1)) σ13) (fun J10 => if (x.2.1 : Int) = 3 then w_Model_accept L (σ9.2 146 (Int.toNat s8.2.1)) (fun v33 σ32 => J10 v33 σ32) σ9 else ((((x.2.1 : Int) = 2 → inL L 155 (σ9.2 146 (Int.toNat s8.2.1))) ∧ (¬ (x.2.1 : Int) = 2 → inL L 125 (σ9.2 146 (Int.toNat s8.2.1))))) ∧ J10 (if (x.2.1 : Int) = 2 then (if (σ9.2 155 (Int.toNat (σ9.2 146 (Int.toNat s8.2.1)))) = mk then (1 : Int) else (0 : Int)) else (if (σ9.2 125 (Int.toNat (σ9.2 146 (Int.toNat s8.2.1)))) = 0 then (0 : Int) else (1 : Int))) σ9) else WJ (fun (s37 : Int) (σ38 : IS) => is01 s37 ∧ Q s37 σ38) (fun J35 => WJ (fun (s42 : Unit) (σ43 : IS) => J35 0 σ43) (fun J40 => if s8.1 = 0 then J40 () σ9 else WJ (fun (s47 : Unit) (σ48 : IS) => J35 1 σ48) (fun J45 => if (x.2.1 : Int) = 3 then w_Model_isComplete L  (fun v51 σ50 => if v51 = 0 then J40 () σ50 else J45 () σ50) σ9 else J45 () σ9)))) (1, (τ0.2 150 e), 0) τ0 := by
      intro F P τ0 hax hP0 hP3 hPn hst h0 hQ
      refine ⟨⟨by omega, by omega⟩, ?_⟩
      have e150 : τ0.2 150 e = en1 (nxk (kpr el) el.length e 0) - 1 := by
        rw [(hax _ _ _ h0).2 150 (by decide) (by decide)]
        exact hLk.1 e he
      refine WL_ind (fun (z : Int × Int × Int) τ => ∃ (j t : Nat) (f : Bool), z = (b1 f, en1 (nxk (kpr el) el.length e j) - 1, (t : Int)) ∧ t ≤ j ∧ P f (cns el j e) τ) (fun z _ => (el.length - z.2.2).toNat) ?_ _ τ0 ⟨0, 0, true, by rw [e150]; rfl, Nat.le_refl _, h0⟩
      rintro _ τ ⟨j, t, f, rfl, htj, hP⟩ K hK
      dsimp only at hK ⊢
      have hA := hax _ _ _ hP
      rw [hA.1 6 2 (by omega), h62]
      cases hn : nxk (kpr el) el.length e j with
      | none =>
        have hcn : cns el j e = [] := by
          unfold cns
          rw [chl_nxk _ j rfl, hn]
          rfl
        rw [hcn] at hP
        rw [if_neg (fun z => z.2.1 rfl)]
        refine WJ_dir (WJ_dir ?_)
        cases f with
        | false =>
          rw [if_pos (by decide)]
          have hF := hP0 _ _ hP
          have := hQ τ hA
          rw [hF] at this
          exact ⟨by decide, this⟩
        | true =>
          rw [if_neg (by decide)]
          refine WJ_dir ?_
          have hq' := hQ τ hA
          by_cases c3' : x.2.1 = 3
          · rw [if_pos (by omega)]
            unfold w_Model_isComplete
            rw [hP3 c3' τ hP]
            refine ⟨is01_b, ?_⟩
            cases F with
            | false => rw [if_pos (by decide)]; exact ⟨by decide, hq'⟩
            | true => rw [if_neg (by decide)]; exact ⟨by decide, hq'⟩
          · rw [if_neg (by omega)]
            rw [hPn c3' τ hP] at hq'
            exact ⟨by decide, hq'⟩
      | some i =>
        obtain ⟨hji, hin, hki⟩ := nxk_some _ j rfl hn
        have hcn : cns el j e = (el.getD i elD).1 :: cns el (i + 1) e := by
          unfold cns
          rw [chl_nxk _ j rfl, hn]
          rfl
        have ei : en1 (some i) - 1 = (i : Int) := by show (i : Int) + 1 - 1 = i; omega
        rw [ei]
        cases f with
        | false =>
          rw [if_neg (fun z => z.2.2 rfl)]
          refine WJ_dir (WJ_dir ?_)
          rw [if_pos (by decide)]
          have hF := hP0 _ _ hP
          have := hQ τ hA
          rw [hF] at this
          exact ⟨by decide, this⟩
        | true =>
          rw [if_pos ⟨by omega, by omega, by decide⟩, show Int.toNat (i : Int) = i from rfl]
          refine ⟨⟨by omega, by omega⟩, WJ_dir ?_⟩
          rw [hcn] at hP
          refine hst i _ τ _ hin hP (fun f τ' hP' => ?_)
          have hA' := hax _ _ _ hP'
          have e151 : τ'.2 151 i = en1 (nxk (kpr el) el.length e (i + 1)) - 1 := by
            rw [hA'.2 151 (by decide) (by decide)]
            exact hLk.2 i (Nat.zero_le _) hin e hki
          rw [e151]
          exact ⟨⟨by omega, by omega⟩, ⟨by omega, by omega⟩, hK _ _ ⟨i + 1, t + 1, f, by rw [show ((t + 1 : Nat) : Int) = (t : Int) + 1 by omega], by omega, hP'⟩ (by dsimp only; omega)⟩
    refine WJ_dir ?_
    by_cases k3 : x.2.1 = 3
    · rw [if_pos (by omega)]
      obtain ⟨hD, h256⟩ := h3 k3
      have hfit : fit ed el x e = ((!(el.getD e elD).2.2.2.2.2.2) && acc (mvE x).2 (mvE x).1 (mvE x).1.2.1 (mvE x).1.1 (cns el 0 e)) := by
        unfold fit
        rw [if_neg k0, if_pos k3]
      cases hsp : (el.getD e elD).2.2.2.2.2.2 with
      | true =>
        rw [hsp] at c3 hfit
        rw [if_neg (c3.mpr rfl)]
        have := hq σ hself
        rw [hfit] at this
        exact this
      | false =>
        rw [hsp] at c3 hfit
        have c60 : ia (σ.2 133 e) 6 = 0 := Classical.byContradiction (fun z => by cases c3.mp z)
        rw [if_pos c60]
        rw [hfit, Bool.not_false, Bool.true_and] at hq
        refine sp_Model_begin hL hD.1 (fun σ1 hA1 => ?_)
        refine loop (acc (mvE x).2 (mvE x).1 (mvE x).1.2.1 (mvE x).1.1 (cns el 0 e)) (fun f r τ => (∃ M c, MAt σ τ M c ∧ (f = true → acc (mvE x).2 (mvE x).1 M c r = acc (mvE x).2 (mvE x).1 (mvE x).1.2.1 (mvE x).1.1 (cns el 0 e))) ∧ (f = false → acc (mvE x).2 (mvE x).1 (mvE x).1.2.1 (mvE x).1.1 (cns el 0 e) = false)) σ1 ?_ ?_ ?_ ?_ ?_ ⟨⟨_, _, hA1, fun _ => rfl⟩, fun z => by cases z⟩ hq
        · rintro f r τ ⟨⟨M, c, hA, -⟩, -⟩
          exact hA.ax
        · rintro r τ ⟨-, h⟩
          exact h rfl
        · rintro - τ ⟨⟨M, c, hA, h⟩, -⟩
          rw [hA.2.2.1, ← h rfl]
          rfl
        · exact fun z => absurd k3 z
        · rintro i r τ J hi ⟨⟨M, c, hA, h⟩, -⟩ hJ
          rw [if_pos (by omega), hA.2.1 146 (by decide) (by decide)]
          refine sp_Model_accept hS hL hD h256 (hE i hi).1 hA (fun τ' hA' => hJ _ τ' ⟨⟨_, _, hA', fun hf => h rfl⟩, fun hf => ?_⟩)
          rw [← h rfl]
          exact acc_dead hf
    · rw [if_neg (by omega)]
      have hfit : fit ed el x e = (cns el 0 e).all (fun s => if x.2.1 = 2 then decide (s ∈ mxN x) else (edf ed s).isSome) := by
        unfold fit
        rw [if_neg k0, if_neg k3]
        split
        · rfl
        · rfl
      rw [hfit] at hq
      refine loop _ (fun f r τ => σ = τ ∧ (f && r.all (fun s => if x.2.1 = 2 then decide (s ∈ mxN x) else (edf ed s).isSome)) = (cns el 0 e).all (fun s => if x.2.1 = 2 then decide (s ∈ mxN x) else (edf ed s).isSome)) σ ?_ ?_ ?_ ?_ ?_ ⟨rfl, Bool.true_and _⟩ hq
      · rintro f r τ ⟨rfl, -⟩
        exact hself
      · rintro r τ ⟨-, h⟩
        rw [← h, Bool.false_and]
      · exact fun z => absurd z k3
      · rintro - τ ⟨-, h⟩
        rw [← h]; rfl
      · rintro i r τ J hi ⟨rfl, h⟩ hJ
        rw [if_neg (by omega)]
        obtain ⟨⟨w, w1, w2, w3⟩, -⟩ := hE i hi
        rw [w1, show Int.toNat (w : Int) = w from rfl]
        refine ⟨⟨fun _ => ⟨by omega, by omega⟩, fun _ => ⟨by omega, by omega⟩⟩, ?_⟩
        rw [List.all_cons, Bool.true_and] at h
        by_cases k2 : x.2.1 = 2
        · have hx := h2 k2 w w2
          rw [w3] at hx
          rw [if_pos (by omega)]
          have e1 : (if σ.2 155 w = mk then (1 : Int) else 0) = b1 (decide ((el.getD i elD).1 ∈ mxN x)) := by
            by_cases y : (el.getD i elD).1 ∈ mxN x
            · rw [if_pos (hx.mpr y), decide_eq_true y]; rfl
            · rw [if_neg (fun z => y (hx.mp z)), decide_eq_false y]; rfl
          rw [e1]
          exact hJ _ σ ⟨rfl, by rw [if_pos k2] at h; exact h⟩
        · rw [if_neg (by omega)]
          have e2 : σ.2 125 w = en1 (edf ed (el.getD i elD).1) := by rw [← w3]; exact h125.1 w w2
          have e1 : (if σ.2 125 w = 0 then (0 : Int) else 1) = b1 (edf ed (el.getD i elD).1).isSome := by
            rw [e2]
            cases hd : edf ed (el.getD i elD).1 with
            | none => rfl
            | some d => rw [if_neg (by show ¬ ((d : Int) + 1 = 0); omega)]; rfl
          rw [e1]
          exact hJ _ σ ⟨rfl, by rw [if_neg k2] at h; exact h⟩
end Fts
