/-! ===== the class's model: whether it is deterministic, and what it makes ===== -/
/-- no name stands twice in a set -/
def sgl (NS : List Str) (S : Nat → Bool) : Nat → Bool
  | 0 => true
  | b + 1 => sgl NS S b && !(S b && (List.range b).any (fun a => S a && NS.getD a [] == NS.getD b []))
def dtm (NS : List Str) (V : MVl) : Nat → Bool
  | 0 => sgl NS V.2.1 NS.length
  | p + 1 => dtm NS V p && sgl NS (V.2.2.2 p) NS.length
/-- a name more: what may come then, whether any, whether it may be the last -/
def stM (NS : List Str) (V : MVl) (M : Nat → Bool) (w : Str) (n q : Nat) : Bool := (List.range n).any (fun p => (NS.getD p [] == w) && (M p && V.2.2.2 p q))
def anM (NS : List Str) (M : Nat → Bool) (w : Str) (n : Nat) : Bool := (List.range n).any (fun p => (NS.getD p [] == w) && M p)
def cpM (NS : List Str) (V : MVl) (M : Nat → Bool) (w : Str) (n : Nat) : Bool := (List.range n).any (fun p => (NS.getD p [] == w) && (M p && V.2.2.1 p))
/-- only marks and the stamp have changed, by m at most -/
def VM (σ σ' : IS) (m : Nat) : Prop := (∀ o k, ¬ (o = 1 ∧ k = 16) → σ'.1 o k = σ.1 o k) ∧ (∀ r, r ≠ 155 → σ'.2 r = σ.2 r) ∧ (σ.1 1 16 ≤ σ'.1 1 16 ∧ σ'.1 1 16 ≤ σ.1 1 16 + (m : Int)) ∧ ∀ w, σ'.2 155 w ≤ σ'.1 1 16
theorem fa_1 {σ : IS} {r : Nat} {v : Int} : (fa σ r v).1 = σ.1 := rfl
theorem fa_2 {σ : IS} {r : Nat} {v : Int} {q j : Nat} : (fa σ r v).2 q j = if q = r then v else σ.2 q j := rfl
section Mdt
variable {L : Nat → Nat} {σ τ υ : IS} {NS : List Str} {V : MVl}
theorem any_s {P : Nat → Bool} {n : Nat} : (List.range (n + 1)).any P = ((List.range n).any P || P n) := by
  rw [List.range_succ, List.any_append, List.any_cons, List.any_nil, Bool.or_false]
theorem sgl_mono {S : Nat → Bool} : ∀ (n b : Nat), b ≤ n → sgl NS S n = true → sgl NS S b = true := by
  intro n
  induction n with
  | zero => intro b hb h; rw [show b = 0 by omega]; rfl
  | succ n ih =>
    intro b hb h
    by_cases c : b = n + 1
    · rw [c]; exact h
    · have h' : (sgl NS S n && !(S n && (List.range n).any (fun a => S a && NS.getD a [] == NS.getD n []))) = true := h
      rw [Bool.and_eq_true] at h'
      exact ih b (by omega) h'.1
theorem sgl_ext {S S' : Nat → Bool} : ∀ (n : Nat), (∀ p, p < n → S p = S' p) → sgl NS S n = sgl NS S' n := by
  intro n
  induction n with
  | zero => intro _; rfl
  | succ n ih =>
    intro h
    show (sgl NS S n && !(S n && (List.range n).any (fun a => S a && NS.getD a [] == NS.getD n []))) = (sgl NS S' n && !(S' n && (List.range n).any (fun a => S' a && NS.getD a [] == NS.getD n [])))
    have e2 : (List.range n).any (fun a => S a && NS.getD a [] == NS.getD n []) = (List.range n).any (fun a => S' a && NS.getD a [] == NS.getD n []) := by
      rw [Bool.eq_iff_iff, List.any_eq_true, List.any_eq_true]
      constructor
      · rintro ⟨a, h1, h2⟩
        rw [h a (by have := List.mem_range.mp h1; omega)] at h2
        exact ⟨a, h1, h2⟩
      · rintro ⟨a, h1, h2⟩
        rw [← h a (by have := List.mem_range.mp h1; omega)] at h2
        exact ⟨a, h1, h2⟩
    rw [ih (fun p hp => h p (by omega)), h n (by omega), e2]
theorem VM.refl (hm : ∀ w, σ.2 155 w ≤ σ.1 1 16) : VM σ σ 0 := ⟨fun _ _ _ => rfl, fun _ _ => rfl, ⟨Int.le_refl _, by omega⟩, hm⟩
theorem VM.trans {m m' : Nat} (h1 : VM σ τ m) (h2 : VM τ υ m') : VM σ υ (m + m') := ⟨fun o k y => (h2.1 o k y).trans (h1.1 o k y), fun r y => (h2.2.1 r y).trans (h1.2.1 r y), ⟨Int.le_trans h1.2.2.1.1 h2.2.2.1.1, by have := h1.2.2.1.2; have := h2.2.2.1.2; omega⟩, h2.2.2.2⟩
theorem VM.si {m : Nat} (h : VM σ τ m) (hS : SI L σ) : SI L τ := (SI_of hS (σ' := τ) (h.1 1 14 (by omega)) (by rw [h.1 1 3 (by omega)]; have := hS.1; omega) (fun r y1 y2 => h.2.1 r (by omega)) (fun i _ => by rw [h.2.1 101 (by decide)])).1
theorem VM.jn {m : Nat} {x : Int} {s : Str} (h : VM σ τ m) (hj : Jn σ x s) : Jn τ x s := Jn_row hj (h.1 1 14 (by omega)) (fun r h1 h2 => h.2.1 r (by omega))
theorem VM.bsE {m : Nat} (h : VM σ τ m) {r l p : Nat} (hr : r ≠ 155) : bs τ r l p = bs σ r l p := by unfold bs; rw [h.2.1 r hr]
set_option maxHeartbeats 1000000 in
theorem sp_Model_isSingle {Q : Int → IS → Prop} {r l : Nat} {S : Nat → Bool} (hS : SI L σ) (hsl : SL L) (hL : MLn L) (hr : 8 * l + 8 ≤ L r) (hr9 : L r < 1000000) (hr5 : r ≠ 155) (hn : σ.1 9 3 = (NS.length : Int)) (h256 : NS.length ≤ 256) (hJ : ∀ i, i < NS.length → Jn σ (σ.2 137 i) (NS.getD i [])) (hb : ∀ p, p < 256 → bs σ r l p = S p) (hs : 0 ≤ σ.1 1 16 ∧ σ.1 1 16 ≤ 2000000000) (hm : ∀ w, σ.2 155 w ≤ σ.1 1 16) (hq : ∀ σ', VM σ σ' 1 → Q (b1 (sgl NS S NS.length)) σ') : w_Model_isSingle L r (l : Int) Q σ := by
  have hj := hS.jw_le
  have e155 : L 102 = L 155 := hsl.2.2.2.1
  have l137 : L 137 = 256 := hL.1
  unfold w_Model_isSingle w_Store_newMark
  refine ⟨⟨by omega, by omega⟩, ?_⟩
  generalize hv : σ.1 1 16 + 1 = v
  refine WL_ind (fun z τ => ∃ p : Nat, z = (p : Int) ∧ p ≤ NS.length ∧ (∀ o k, ¬ (o = 1 ∧ k = 16) → τ.1 o k = σ.1 o k) ∧ τ.1 1 16 = v ∧ (∀ q, q ≠ 155 → τ.2 q = σ.2 q) ∧ (∀ w, τ.2 155 w ≤ v) ∧ sgl NS S p = true ∧ ∀ w, w < jw σ → (τ.2 155 w = v ↔ (List.range p).any (fun a => S a && NS.getD a [] == wst σ w) = true)) (fun z _ => (NS.length - z).toNat) ?_ 0 _ ⟨0, rfl, Nat.zero_le _, fun o k y => by rw [pf_1, if_neg y], pf_eq, fun _ _ => rfl, fun w => by have := hm w; show σ.2 155 w ≤ v; omega, rfl, fun w _ => ⟨fun y => by have := hm w; have y' : σ.2 155 w = v := y; omega, fun y => by cases y⟩⟩
  rintro _ τ ⟨p, rfl, hp, t1, t2, t3, t4, t5, t6⟩ K hK
  rw [t1 9 3 (by omega), hn]
  have hVM : VM σ τ 1 := ⟨t1, t3, ⟨by omega, by omega⟩, fun w => by rw [t2]; exact t4 w⟩
  by_cases c : p < NS.length
  · rw [if_pos (by omega)]
    refine sp_Model_has (by omega) hr hr9 (WJ_dir ?_)
    have ebs : bs τ r l p = S p := by
      rw [← hb p (by omega)]
      unfold bs
      rw [t3 r hr5]
    rw [ebs]
    have hsn : sgl NS S (p + 1) = (sgl NS S p && !(S p && (List.range p).any (fun a => S a && NS.getD a [] == NS.getD p []))) := rfl
    cases hSp : S p with
    | false =>
      rw [if_pos (by decide)]
      refine ⟨⟨by omega, by omega⟩, hK _ _ ⟨p + 1, by omega, by omega, t1, t2, t3, t4, by rw [hsn, t5, hSp]; rfl, fun w hw => ?_⟩ (by omega)⟩
      rw [any_s, hSp, Bool.false_and, Bool.or_false]
      exact t6 w hw
    | true =>
      obtain ⟨w, a1, a2, a3⟩ := hJ p c
      rw [if_neg (by decide), show Int.toNat (p : Int) = p from rfl, t3 137 (by decide), a1, show Int.toNat (w : Int) = w from rfl]
      refine ⟨⟨by omega, by omega⟩, ⟨by omega, by omega⟩, ?_⟩
      by_cases cm : τ.2 155 w = v
      · rw [if_pos cm]
        have h1 := (t6 w a2).mp cm
        rw [a3] at h1
        have h2 : sgl NS S (p + 1) = false := by rw [hsn, t5, hSp, h1]; rfl
        have h3 : sgl NS S NS.length = false := by
          cases hx : sgl NS S NS.length with
          | false => rfl
          | true => rw [sgl_mono _ _ (by omega) hx] at h2; cases h2
        have h4 := hq τ hVM
        rw [h3] at h4
        exact h4
      · rw [if_neg cm]
        have h1 : (List.range p).any (fun a => S a && NS.getD a [] == NS.getD p []) = false := by
          cases hx : (List.range p).any (fun a => S a && NS.getD a [] == NS.getD p []) with
          | false => rfl
          | true => exact absurd ((t6 w a2).mpr (by rw [a3]; exact hx)) cm
        refine ⟨⟨by omega, by omega⟩, ⟨by omega, by omega⟩, ⟨by omega, by omega⟩, hK _ _ ⟨p + 1, by omega, by omega, t1, t2, fun q hq' => ?_, fun w' => ?_, by rw [hsn, t5, hSp, h1]; rfl, fun w' hw' => ?_⟩ (by omega)⟩
        · rw [← t3 q hq']
          funext j
          rw [pr_2, if_neg (fun z => hq' z.1)]
        · rw [pr_2]
          by_cases y : w' = w
          · rw [if_pos ⟨rfl, y⟩]; exact Int.le_refl _
          · rw [if_neg (fun z => y z.2)]; exact t4 w'
        · rw [pr_2, any_s, hSp, Bool.true_and, Bool.or_eq_true, beq_iff_eq, ← a3]
          by_cases y : w' = w
          · rw [if_pos ⟨rfl, y⟩, y]
            exact ⟨fun _ => Or.inr rfl, fun _ => rfl⟩
          · rw [if_neg (fun z => y z.2), t6 w' hw']
            refine ⟨Or.inl, fun z => z.elim id (fun z => absurd ?_ y)⟩
            exact hS.2.2.2 w' w (by omega) (by omega) z.symm
  · rw [if_neg (by omega)]
    have ep : p = NS.length := by omega
    have h4 := hq τ hVM
    rw [← ep, t5] at h4
    exact h4
theorem sp_Model_isDeterministic {Q : Int → IS → Prop} (hS : SI L σ) (hsl : SL L) (hL : MLn L) (hM : MDn σ V NS) (h256 : NS.length ≤ 256) (hs : 0 ≤ σ.1 1 16 ∧ σ.1 1 16 ≤ 1900000000) (hm : ∀ w, σ.2 155 w ≤ σ.1 1 16) (hq : ∀ σ', VM σ σ' (NS.length + 1) → Q (b1 (dtm NS V NS.length)) σ') : w_Model_isDeterministic L Q σ := by
  obtain ⟨hX, -, hn, hF, hJ⟩ := hM
  obtain ⟨l7, l8, l9, l0, -⟩ := id hL
  unfold w_Model_isDeterministic
  refine sp_Model_isSingle (l := 0) (S := V.2.1) hS hsl hL (by omega) (by omega) (by decide) hn h256 hJ (fun p hp => (hX.2 p hp).1) ⟨by omega, by omega⟩ hm (fun σ1 v1 => ?_)
  refine WL_ind (fun (z : Int × Int) τ => ∃ p : Nat, z = (b1 (dtm NS V p), (p : Int)) ∧ p ≤ NS.length ∧ VM σ τ (p + 1)) (fun z _ => (NS.length - z.2).toNat) ?_ _ σ1 ⟨0, rfl, Nat.zero_le _, v1⟩
  rintro _ τ ⟨p, rfl, hp, hV⟩ K hK
  dsimp only at hK ⊢
  rw [hV.1 9 3 (by omega), hn]
  by_cases c : p < NS.length ∧ dtm NS V p = true
  · rw [if_pos ⟨by omega, by rw [c.2]; decide⟩]
    refine sp_Model_isSingle (S := V.2.2.2 p) (hV.si hS) hsl hL (by omega) (by omega) (by decide) (by rw [hV.1 9 3 (by omega)]; exact hn) h256 (fun i hi => by rw [hV.2.1 137 (by decide)]; exact hV.jn (hJ i hi)) (fun q hq' => by rw [hV.bsE (by decide)]; exact hF p c.1 q hq') ⟨by have := hV.2.2.1; omega, by have := hV.2.2.1; omega⟩ hV.2.2.2 (fun σ2 v2 => ⟨⟨by omega, by omega⟩, hK _ _ ⟨p + 1, ?_, by omega, hV.trans v2⟩ (by dsimp only; omega)⟩)
    have hd : dtm NS V (p + 1) = (dtm NS V p && sgl NS (V.2.2.2 p) NS.length) := rfl
    rw [hd, c.2, Bool.true_and, show ((p + 1 : Nat) : Int) = (p : Int) + 1 by omega]
  · have hdm : ∀ n, p ≤ n → dtm NS V p = false → dtm NS V n = false := by
      intro n
      induction n with
      | zero => intro h1 h2; rw [show p = 0 by omega] at h2; exact h2
      | succ n ih =>
        intro h1 h2
        by_cases y : p = n + 1
        · rw [← y]; exact h2
        · show (dtm NS V n && sgl NS (V.2.2.2 n) NS.length) = false
          rw [ih (by omega) h2]; rfl
    have hgo : Q (b1 (dtm NS V p)) τ := by
      have hVn : VM σ τ (NS.length + 1) := ⟨hV.1, hV.2.1, ⟨hV.2.2.1.1, by have := hV.2.2.1.2; omega⟩, hV.2.2.2⟩
      have h4 := hq τ hVn
      by_cases y : p < NS.length
      · have h5 : dtm NS V p = false := by
          cases hx : dtm NS V p with
          | false => rfl
          | true => exact absurd ⟨y, hx⟩ c
        rw [hdm _ hp h5] at h4
        rw [h5]
        exact h4
      · rw [show p = NS.length by omega]
        exact h4
    rw [if_neg (fun z => c ⟨by omega, by
      cases hx : dtm NS V p with
      | false => rw [hx] at z; exact absurd rfl z.2
      | true => rfl⟩)]
    exact ⟨is01_b, hgo⟩
/-- where a model is, names having been read: what may come, whether it may end -/
def MAt (σ τ : IS) (M : Nat → Bool) (c : Bool) : Prop := (∀ o k, ¬ (o = 9 ∧ k = 12) → τ.1 o k = σ.1 o k) ∧ (∀ r, r ≠ 144 → r ≠ 145 → τ.2 r = σ.2 r) ∧ τ.1 9 12 = b1 c ∧ ∀ p, p < 256 → bs τ 144 0 p = M p
theorem sp_Model_begin {Q : IS → Prop} (hL : MLn L) (hX : MXl σ 0 V) (hq : ∀ σ', MAt σ σ' V.2.1 V.1 → Q σ') : w_Model_begin L Q σ := by
  obtain ⟨l7, l8, l9, l0, m1, m2, m3, m4, m5⟩ := id hL
  unfold w_Model_begin
  rw [show Int.toNat (0 : Int) = 0 from rfl, show Int.toNat (8 : Int) = 8 from rfl]
  have e1 : (cp σ 139 0 144 0 8).2 141 0 = b1 V.1 := by rw [cp_2, if_neg (by omega)]; exact hX.1
  rw [e1]
  refine ⟨⟨by omega, by omega, by omega, by omega, by omega⟩, ⟨by omega, by omega⟩, is01_b, hq _ ⟨fun o k y => by rw [pf_1, if_neg y]; rfl, fun r y1 y2 => ?_, pf_eq, fun p hp => ?_⟩⟩
  · funext j
    rw [pf_2, cp_2, if_neg (fun z => y1 z.1)]
  · rw [← (hX.2 p hp).1]
    unfold bs
    rw [pf_2, cp_2, if_pos ⟨rfl, by omega, by omega⟩, show 0 + (8 * 0 + p / 32 - 0) = 8 * 0 + p / 32 by omega]
set_option maxHeartbeats 1000000 in
theorem sp_Model_accept {Q : Int → IS → Prop} {x : Int} {s : Str} {M : Nat → Bool} {c0 : Bool} (hS : SI L σ) (hL : MLn L) (hD : MDn σ V NS) (h256 : NS.length ≤ 256) (hx : Jn σ x s) (hA : MAt σ τ M c0) (hq : ∀ τ', MAt σ τ' (stM NS V M s NS.length) (cpM NS V M s NS.length) → Q (b1 (anM NS M s NS.length)) τ') : w_Model_accept L x Q τ := by
  obtain ⟨l7, l8, l9, l0, m1, m2, m3, m4, m5⟩ := id hL
  obtain ⟨hX, -, hn, hF, hJ⟩ := hD
  obtain ⟨a1, a2, a3, a4⟩ := hA
  unfold w_Model_accept
  refine WL_ind (fun (z : Int × Int) ρ => ∃ p : Nat, z = (b1 (anM NS M s p), (p : Int)) ∧ p ≤ NS.length ∧ (∀ o k, ¬ (o = 9 ∧ k = 12) → ρ.1 o k = σ.1 o k) ∧ (∀ r, r ≠ 144 → r ≠ 145 → ρ.2 r = σ.2 r) ∧ ρ.1 9 12 = b1 (cpM NS V M s p) ∧ (∀ q, q < 256 → bs ρ 144 0 q = M q) ∧ ∀ q, q < 256 → bs ρ 145 0 q = stM NS V M s p q) (fun z _ => (NS.length - z.2).toNat) ?_ _ _ ⟨0, rfl, Nat.zero_le _, fun o k y => ?_, fun r y1 y2 => ?_, ?_, fun q hq' => ?_, fun q hq' => ?_⟩
  · rintro _ ρ ⟨p, rfl, hp, r1, r2, r3, r4, r5⟩ K hK
    dsimp only at hK ⊢
    rw [r1 9 3 (by omega), hn]
    have an_s : anM NS M s (p + 1) = (anM NS M s p || ((NS.getD p [] == s) && M p)) := any_s
    have cp_s : cpM NS V M s (p + 1) = (cpM NS V M s p || ((NS.getD p [] == s) && (M p && V.2.2.1 p))) := any_s
    have st_s : ∀ q, stM NS V M s (p + 1) q = (stM NS V M s p q || ((NS.getD p [] == s) && (M p && V.2.2.2 p q))) := fun q => any_s
    by_cases c : p < NS.length
    · rw [if_pos (by omega), show Int.toNat (p : Int) = p from rfl, r2 137 (by decide) (by decide), show ((p : Int) + 1) = ((p + 1 : Nat) : Int) by omega]
      have hnx : (NS.getD p [] == s) = false ∨ M p = false → inR (((p + 1 : Nat) : Nat) : Int) ∧ K (b1 (anM NS M s p), ((p + 1 : Nat) : Int)) ρ := fun h => by
        have e1 : ((NS.getD p [] == s) && M p) = false := by rcases h with h | h <;> rw [h] <;> simp
        have e2 : ∀ b, ((NS.getD p [] == s) && (M p && b)) = false := fun b => by rw [← Bool.and_assoc, e1]; rfl
        refine ⟨⟨by omega, by omega⟩, hK _ _ ⟨p + 1, by rw [an_s, e1, Bool.or_false], by omega, r1, r2, by rw [cp_s, e2, Bool.or_false]; exact r3, r4, fun q hq' => by rw [st_s, e2, Bool.or_false]; exact r5 q hq'⟩ (by dsimp only; omega)⟩
      refine ⟨⟨by omega, by omega⟩, WJ_dir ?_⟩
      by_cases cw : σ.2 137 p = x
      · have hsn : NS.getD p [] = s := Jn.fun (hJ p c) (by rw [cw]; exact hx)
        have hsb : (NS.getD p [] == s) = true := by simpa using hsn
        rw [if_pos cw]
        refine sp_Model_has (l := 0) (by omega) (by omega) (by omega) ?_
        rw [r4 p (by omega)]
        cases hMp : M p with
        | false =>
          rw [if_pos (by decide)]
          exact hnx (Or.inr hMp)
        | true =>
          rw [if_neg (by decide)]
          refine sp_Model_has (l := 0) (by omega) (by omega) (by omega) ?_
          have e140 : bs ρ 140 0 p = V.2.2.1 p := by
            rw [← (hX.2 p (by omega)).2]
            unfold bs
            rw [r2 140 (by decide) (by decide)]
          rw [e140, r3, b1_io]
          refine ⟨is01_b, sp_Model_unite (l := 0) (by omega) (by omega) (by omega) (by omega) (by omega) (fun ρ2 u => ?_)⟩
          have e1 : ((NS.getD p [] == s) && M p) = true := by rw [hsb, hMp]; rfl
          have e2 : ∀ b, ((NS.getD p [] == s) && (M p && b)) = b := fun b => by rw [hsb, hMp]; simp
          refine ⟨⟨by omega, by omega⟩, hK _ _ ⟨p + 1, by rw [an_s, e1, Bool.or_true]; rfl, by omega, fun o k y => by rw [u.1, pf_1, if_neg y]; exact r1 o k y, fun q y1 y2 => by rw [u.2.1 q y2]; exact r2 q y1 y2, by rw [u.1, pf_eq, cp_s, e2], fun q hq' => ?_, fun q hq' => ?_⟩ (by dsimp only; omega)⟩
          · rw [u.oth hq' (by omega)]
            exact r4 q hq'
          · have e138 : bs ρ 138 p q = V.2.2.2 p q := by
              rw [← hF p c q hq']
              unfold bs
              rw [r2 138 (by decide) (by decide)]
            rw [u.or hq', st_s, e2]
            show (bs ρ 145 0 q || bs ρ 138 p q) = _
            rw [r5 q hq', e138]
      · have hsn : NS.getD p [] ≠ s := fun y => cw (Jn.inj hS (hJ p c) (by rw [y]; exact hx))
        rw [if_neg cw]
        exact hnx (Or.inl (by simpa using hsn))
    · rw [if_neg (by omega), show Int.toNat (0 : Int) = 0 from rfl, show Int.toNat (8 : Int) = 8 from rfl]
      have ep : p = NS.length := by omega
      rw [ep] at r3 r5 ⊢
      refine ⟨⟨by omega, by omega, by omega, by omega, by omega⟩, is01_b, hq _ ⟨r1, fun r y1 y2 => ?_, r3, fun q hq' => ?_⟩⟩
      · rw [← r2 r y1 y2]
        funext j
        rw [cp_2, if_neg (fun z => y1 z.1)]
      · rw [← r5 q hq']
        unfold bs
        rw [cp_2, if_pos ⟨rfl, by omega, by omega⟩, show 0 + (8 * 0 + q / 32 - 0) = 8 * 0 + q / 32 by omega]
  · rw [fa_1, pf_1, if_neg y]
    exact a1 o k y
  · rw [← a2 r y1 y2]
    funext j
    rw [fa_2, if_neg y2, pf_2]
  · rw [fa_1, pf_eq]; rfl
  · rw [← a4 q hq']
    unfold bs
    rw [fa_2, if_neg (by decide), pf_2]
  · unfold bs
    rw [fa_2, if_pos rfl, bt_0]; rfl
end Mdt
