/-! ===== element declarations in the class: how they are written ===== -/
section JMo
variable {L : Nat → Nat} {σ τ : IS} {e k : Nat} {o : Option Nat}
theorem jz.pf2 {p j : Nat} {x : Int} (hp : p ≠ 2) (h : jz e k σ o τ) : jz e k (pf σ p j x) o (pf τ p j x) := by
  have hn : ∀ (ρ : IS) (i : Nat), (pf ρ p j x).1 2 i = ρ.1 2 i := fun ρ i => by rw [pf_1, if_neg (fun z => hp z.1.symm)]
  have hrng : ∀ ρ : IS, rng ρ → rng (pf ρ p j x) := fun ρ hr i h1 h2 => by rw [hn]; exact hr i h1 h2
  cases o with
  | some q =>
    refine ⟨h.1, ⟨h.2.1.1, fun o i hi => ?_, hrng _ h.2.1.2.2⟩, (hn _ _).trans h.2.2⟩
    rw [pf_1, pf_1]
    split
    · rfl
    · exact h.2.1.2.1 o i hi
  | none =>
    refine ⟨⟨h.1.1, fun o i hi => ?_, ?_, hrng _ h.1.2.2.2⟩, (hn _ _).trans h.2⟩
    · rw [pf_1, pf_1]
      split
      · rfl
      · exact h.1.2.1 o i hi
    · obtain ⟨q, h1, h2⟩ := h.1.2.2.1
      exact ⟨q, (hn _ _).trans h1, h2⟩
theorem jz.pr2 {r i : Nat} {x : Int} (h : jz e k σ o τ) : jz e k (pr σ r i x) o (pr τ r i x) := by
  have hr : τ.2 = σ.2 := h.row
  have hr2 : (pr τ r i x).2 = (pr σ r i x).2 := by show uf τ.2 r i x = uf σ.2 r i x; rw [hr]
  cases o with
  | some q => exact ⟨h.1, ⟨hr2, h.2.1.2.1, h.2.1.2.2⟩, h.2.2⟩
  | none => exact ⟨⟨hr2, h.1.2.1, h.1.2.2.1, h.1.2.2.2⟩, h.2⟩
theorem jp.pf2 {p j : Nat} {x : Int} (hp : p ≠ 2 ∧ p ≠ 1) (h : jp e k σ o τ) : jp e k (pf σ p j x) o (pf τ p j x) := by
  obtain ⟨y, h⟩ := h
  have h2 := h.pf2 (j := j) (x := x) hp.1
  rw [pf_comm (fun z => hp.2 z.1.symm)] at h2
  exact ⟨y, h2⟩
theorem jp.pr2 {r i : Nat} {x : Int} (h : jp e k σ o τ) : jp e k (pr σ r i x) o (pr τ r i x) := by
  obtain ⟨y, h⟩ := h
  exact ⟨y, h.pr2⟩
/-- one further -/
theorem jp.to {p q : Nat} (h : jp e k σ (some p) τ) (hq : q ≤ e) : jp e k σ (some q) (pf τ 2 2 (q : Int)) := by
  obtain ⟨y, h⟩ := h
  exact ⟨y, hq, h.2.1.pos, pf_eq⟩
theorem jp.to0 {q : Nat} (h : jp e k σ none τ) (hq : q ≤ e + k) : jp e k σ none (pf τ 2 2 (q : Int)) := by
  obtain ⟨y, h⟩ := h
  exact ⟨y, h.1.pos hq, by rw [pf_nk (by decide)]; exact h.2⟩
theorem p_howOften {Q : IS → Prop} (hS : JS L σ e) (hk : k ≤ 50) (h : jp e k σ o τ) (hq : ∀ τ', jp e k σ (o.map (oft (σ.2 101) e)) τ' → Q τ') : w_Doctype_skipHowOften L Q τ := by
  have he : e < 1000000 := by have := hS.2.1; have := hS.2.2.1; omega
  unfold w_Doctype_skipHowOften
  obtain ⟨p, hj, hpk, hpo⟩ := h.jt hS hk
  refine sp_Reader_peek hj ?_
  refine WJ_dir ?_
  dsimp only
  by_cases c : lk (τ.2 101) e p = 63 ∨ (lk (τ.2 101) e p = 42 ∨ lk (τ.2 101) e p = 43)
  · rw [if_pos c, hj.1]
    have hlt : p < e := by
      rcases c with c | c | c
      · exact (lk_lt (by decide) c).1
      · exact (lk_lt (by decide) c).1
      · exact (lk_lt (by decide) c).1
    refine ⟨⟨by omega, by omega⟩, hq _ ?_⟩
    rw [show ((p : Int) + 1) = ((p + 1 : Nat) : Int) by omega]
    cases o with
    | none => exact h.to0 (by omega)
    | some q =>
      have := hpo q rfl
      subst this
      have e1 : (some p).map (oft (σ.2 101) e) = some (p + 1) := by
        show some (oft (σ.2 101) e p) = _
        unfold oft
        rw [h.row] at c
        rw [if_pos c]
      rw [e1]
      exact h.to (by omega)
  · rw [if_neg c]
    refine hq _ ?_
    cases o with
    | none => exact h
    | some q =>
      have := hpo q rfl
      subst this
      have e1 : (some p).map (oft (σ.2 101) e) = some p := by
        show some (oft (σ.2 101) e p) = _
        unfold oft
        rw [h.row] at c
        rw [if_neg c]
      rw [e1]
      exact h
set_option maxRecDepth 10000 in
theorem j_readMixed {Q : IS → Prop} (hS : JS L σ e) (h : jp e 0 σ o τ) (hq : ∀ τ', jp e 0 σ (o.bind (mxk (σ.2 101) e (e + 1) false)) τ' → Q τ') : w_Doctype_readMixed L Q τ := by
  have he : e < 1000000 := by have := hS.2.1; have := hS.2.2.1; omega
  unfold w_Doctype_readMixed
  refine p_skipSpace hS (by omega) h (fun v2 τ1 h1 _ _ => ?_)
  refine WL_ind (fun s ρ => ∃ (z : Option Nat) (b : Bool), s.1 = b1 b ∧ jp e 0 σ (asp (σ.2 101) e z) ρ ∧ o.bind (mxk (σ.2 101) e (e + 1) false) = z.bind (mxk (σ.2 101) e (e + 1) b) ∧ ∀ q, z = some q → q ≤ e ∧ 0 ≤ s.2 ∧ s.2 ≤ (q : Int)) (fun s _ => (1000000 - s.2).toNat) ?_ (0, 0) τ1 ⟨o, false, rfl, h1, rfl, fun q hq => ⟨by subst hq; exact h.at.2, by dsimp only; omega, by dsimp only; omega⟩⟩
  rintro ⟨s, t⟩ ρ ⟨z, b, hs, hz, htz, hzq⟩ K hI
  dsimp only at hs hzq hI ⊢
  refine WJ_of (fun _ ρ => ∃ y : Option Nat, jp e 0 σ y ρ ∧ o.bind (mxk (σ.2 101) e (e + 1) false) = (match wd (σ.2 101) e [41] y with
      | none => none
      | some z => if mt (σ.2 101) e z [42] = true then some (z + 1) else if b = true then none else some z)) (fun J hJ => ?_) ?_
  · have hfl := hz.fault hS
    cases z with
    | none =>
      have hf5 : ρ.1 2 4 = 5 := jp.f5 hz
      rw [if_neg (fun y => by rw [hf5] at y; exact absurd y.2 (by decide))]
      exact hJ _ _ ⟨none, hz, htz⟩
    | some q =>
      obtain ⟨hqe, ht0, htq⟩ := hzq q rfl
      have hf0 : ρ.1 2 4 = 0 := jp.f0 hz (by first | exact hS1 | exact hS)
      rw [if_pos ⟨by omega, hf0⟩]
      have hz' : jp e 0 σ (some (sk isSp (σ.2 101) e q)) ρ := hz
      have htz' : o.bind (mxk (σ.2 101) e (e + 1) false) = mxk (σ.2 101) e (e + 1) b q := htz
      rw [mxk_step hqe] at htz'
      refine p_skip hS (by omega) ti_1039 (by decide) hz' (fun v27 ρ1 h1 _ hv => ?_)
      rw [hv _ rfl, if_b1]
      have h1' : jp e 0 σ (if mt (σ.2 101) e (sk isSp (σ.2 101) e q) [124] = true then some (sk isSp (σ.2 101) e q + 1) else some (sk isSp (σ.2 101) e q)) ρ1 := h1
      by_cases c : mt (σ.2 101) e (sk isSp (σ.2 101) e q) [124] = true
      · rw [if_pos c]
        rw [if_pos c] at h1' htz'
        refine p_skipSpace hS (by omega) h1' (fun v30 ρ2 h2 _ _ => p_readName hS (by omega) h2 (fun v32 ρ3 h3 _ _ => p_skipSpace hS (by omega) h3 (fun v34 ρ4 h4 _ _ => ⟨⟨by omega, by omega⟩, ?_⟩)))
        refine hI _ _ ⟨_, true, rfl, h4, ?_, fun j hj => ?_⟩ (by dsimp only; omega)
        · rw [htz']
          cases nmg (σ.2 101) e true (asp (σ.2 101) e (some (sk isSp (σ.2 101) e q + 1))) with
          | none => rfl
          | some j => rfl
        · have g := mxk_gt hqe c hj
          exact ⟨g.2, by dsimp only; omega, by dsimp only; omega⟩
      · rw [if_neg c]
        rw [if_neg c] at h1' htz'
        exact hJ _ _ ⟨_, h1', htz'⟩
  · rintro _ ρ1 ⟨y, hy, hres⟩
    refine p_need hS (by omega) ti_1040 (by decide) hy (fun ρ2 h2 => p_skip hS (by omega) ti_1041 (by decide) h2 (fun v14 ρ3 h3 h01 hv => ?_))
    refine WJ_dir ?_
    dsimp only
    cases hw : wd (σ.2 101) e [41] y with
    | none =>
      rw [hw] at h3 hres
      dsimp only at hres
      have h3' : jp e 0 σ none ρ3 := h3
      split
      · exact p_fail hS h3' (fun τ' h' => hq τ' (by rw [hres]; exact h'))
      · exact hq _ (by rw [hres]; exact h3')
    | some w =>
      rw [hw] at h3 hres hv
      dsimp only at hres
      have hv' := hv w rfl
      have h3' : jp e 0 σ (if mt (σ.2 101) e w [42] = true then some (w + 1) else some w) ρ3 := h3
      by_cases c : mt (σ.2 101) e w [42] = true
      · rw [if_pos c] at h3' hres
        rw [c] at hv'
        have hv1 : v14 = 1 := hv'
        rw [if_neg (fun z => by rw [hv1] at z; exact absurd z.1 (by decide))]
        exact hq _ (by rw [hres]; exact h3')
      · rw [if_neg c] at h3' hres
        have hv1 : v14 = 0 := by rw [hv']; unfold b1; rw [if_neg c]
        cases b with
        | true =>
          have hs1 : s = 1 := hs
          rw [if_pos ⟨hv1, by omega⟩]
          rw [if_pos rfl] at hres
          exact p_fail hS h3' (fun τ' h' => hq τ' (by rw [hres]; exact h'))
        | false =>
          have hs1 : s = 0 := hs
          rw [if_neg (fun z => z.2 hs1)]
          rw [if_neg (by decide)] at hres
          exact hq _ (by rw [hres]; exact h3')
/-- the same but for what the reading of a model leaves -/
def MBR (σ σ1 : IS) : Prop := (∀ o j : Nat, ¬ (o = 5 ∧ (j = 8 ∨ j = 9)) → σ1.1 o j = σ.1 o j) ∧ ∀ r i : Nat, r ≠ 128 → σ1.2 r i = σ.2 r i
theorem MBR.refl : MBR σ σ := ⟨fun _ _ _ => rfl, fun _ _ _ => rfl⟩
theorem MBR.js {σ1 : IS} (h : MBR σ σ1) (hS : JS L σ e) : JS L σ1 e := ⟨(h.1 2 3 (by omega)).trans hS.1, hS.2.1, hS.2.2.1, (h.1 2 4 (by omega)).trans hS.2.2.2.1, fun j h1 h2 => by rw [h.1 2 j (by omega)]; exact hS.2.2.2.2 j h1 h2⟩
theorem MBR.row {σ1 : IS} (h : MBR σ σ1) {r : Nat} (hr : r ≠ 128) : σ1.2 r = σ.2 r := funext (fun i => h.2 r i hr)
theorem MBR.f {σ1 : IS} (h : MBR σ σ1) {j : Nat} {x : Int} (hj : j = 8 ∨ j = 9) : MBR σ (pf σ1 5 j x) := ⟨fun o i hi => by rw [pf_1, if_neg (by omega)]; exact h.1 o i hi, h.2⟩
theorem MBR.r {σ1 : IS} (h : MBR σ σ1) {i : Nat} {x : Int} : MBR σ (pr σ1 128 i x) := ⟨h.1, fun r j hr => by rw [pr_2, if_neg (by omega)]; exact h.2 r j hr⟩
/-- the separators of the open groups, the innermost first -/
def sps (σ : IS) (st : List Int) : Prop := ∀ j, j < st.length → σ.2 128 (st.length - j) = st.getD j 0
theorem sps_push {σ1 : IS} {st : List Int} {x : Int} (h : sps σ1 st) : sps (pr σ1 128 (st.length + 1) x) (x :: st) := by
  intro j hj
  rw [List.length_cons] at hj ⊢
  rw [pr_2]
  cases j with
  | zero => rw [if_pos ⟨rfl, by omega⟩]; rfl
  | succ j =>
    rw [if_neg (by omega), show st.length + 1 - (j + 1) = st.length - j by omega, h j (by omega)]
    rfl
theorem sps_pop {σ1 : IS} {st : List Int} {x : Int} (h : sps σ1 (x :: st)) : sps σ1 st := by
  intro j hj
  have := h (j + 1) (by rw [List.length_cons]; omega)
  rw [List.length_cons, show st.length + 1 - (j + 1) = st.length - j by omega] at this
  rw [this]
  rfl
theorem sps_top {σ1 : IS} {st : List Int} {x : Int} (h : sps σ1 (x :: st)) : σ1.2 128 (st.length + 1) = x := by
  have := h 0 (by rw [List.length_cons]; omega)
  rw [List.length_cons, show st.length + 1 - 0 = st.length + 1 by omega] at this
  rw [this]
  rfl
theorem sps_set {σ1 : IS} {st : List Int} {x y : Int} (h : sps σ1 (x :: st)) : sps (pr σ1 128 (st.length + 1) y) (y :: st) := by
  exact sps_push (sps_pop h)
theorem sps_f {σ1 : IS} {st : List Int} {o j : Nat} {y : Int} (h : sps σ1 st) : sps (pf σ1 o j y) st := h
set_option maxRecDepth 10000 in
set_option maxHeartbeats 2000000 in
theorem j_readModel {Q : IS → Prop} (hS : JS L σ e) {p : Nat} (hsep : e < p + L 128) (h128 : 1 < L 128 ∧ L 128 < 1000000) (h : jp e 0 σ o τ) (ho : ∀ q, o = some q → p < q)
    (h1 : ∀ q r σ1 τ', o = some q → mdk (σ.2 101) e (e + 2) [0] true q 0 1 = some r → MBR σ σ1 → σ1.1 5 8 = (r.2.1 : Int) → σ1.1 5 9 = (r.2.2 : Int) → jp e 0 σ1 (some r.1) τ' → Q τ')
    (h0 : o.bind (fun q => mdk (σ.2 101) e (e + 2) [0] true q 0 1) = none → ∀ σ1 τ', MBR σ σ1 → jp e 0 σ1 none τ' → Q τ') : w_Doctype_readModel L Q τ := by
  have he : e < 1000000 := by have := hS.2.1; have := hS.2.2.1; omega
  unfold w_Doctype_readModel
  refine ⟨⟨by omega, by omega⟩, ?_⟩
  have hb0 : jp e 0 (pr (pf (pf σ 5 8 0) 5 9 1) 128 1 0) o (pr (pf (pf τ 5 8 0) 5 9 1) 128 (Int.toNat 1) 0) := ((h.pf2 (by decide)).pf2 (by decide)).pr2
  have hM0 : MBR σ (pr (pf (pf σ 5 8 0) 5 9 1) 128 1 0) := ((MBR.refl.f (Or.inl rfl)).f (Or.inr rfl)).r
  cases o with
  | none =>
    refine WL_ind (fun s ρ => jp e 0 (pr (pf (pf σ 5 8 0) 5 9 1) 128 1 0) none ρ) (fun _ _ => 0) ?_ (1, 1, 0) _ hb0
    intro s ρ hz K hI
    have hf5 : ρ.1 2 4 = 5 := by rw [hz.fault (hM0.js hS), if_pos rfl]
    rw [if_neg (fun y => by rw [hf5] at y; exact absurd y.2.2 (by decide))]
    exact h0 rfl _ ρ hM0 hz
  | some q0 =>
  have hpq0 := ho q0 rfl
  have hq0e := h.at.2
  have h0' : mdk (σ.2 101) e (e + 2) [0] true q0 0 1 = none → ∀ σ1 τ', MBR σ σ1 → jp e 0 σ1 none τ' → Q τ' := h0
  generalize hR : mdk (σ.2 101) e (e + 2) [0] true q0 0 1 = R at *
  refine WL_ind (fun s ρ => ∃ (z : Option Nat) (σ1 : IS), MBR σ σ1 ∧ jp e 0 σ1 z ρ ∧ 0 ≤ s.2.2 ∧ (0 ≤ s.1 ∧ s.1 ≤ 1000000) ∧ (σ1.1 5 8 ≤ s.2.2 ∧ 0 ≤ σ1.1 5 8) ∧ (z = none → R = none) ∧ ∀ q, z = some q → ∃ (st : List Int) (due : Bool) (n d : Nat), q ≤ e ∧ s.2.2 ≤ (q : Int) ∧ s.1 = (st.length : Int) ∧ s.2.1 = b1 due ∧ p + st.length ≤ q ∧ sps σ1 st ∧ σ1.1 5 8 = (n : Int) ∧ σ1.1 5 9 = (d : Int) ∧ d ≤ q ∧ R = mdk (σ.2 101) e (e + 2) st due q n d) (fun s _ => (1000000 - s.2.2).toNat) ?_ (1, 1, 0) _ ⟨some q0, _, hM0, hb0, by dsimp only; omega, by dsimp only; omega, by rw [pr_1, pf_1, if_neg (by omega), pf_1, if_pos ⟨rfl, rfl⟩]; dsimp only; omega, fun hn => (by cases hn), fun q hq => by cases hq; exact ⟨[0], true, 0, 1, hq0e, by dsimp only; omega, rfl, rfl, hpq0, sps_push (st := []) (fun j hj => absurd hj (by simp)), by rw [pr_1, pf_1, if_neg (by omega), pf_1, if_pos ⟨rfl, rfl⟩]; rfl, by rw [pr_1, pf_1, if_pos ⟨rfl, rfl⟩]; rfl, by omega, hR.symm⟩⟩
  rintro ⟨deep, due0, t⟩ ρ ⟨z, σ1, hM, hz, ht0, hd0, hn8, hzn, hzq⟩ K hI
  dsimp only at ht0 hd0 hn8 hzq hI ⊢
  have hS1 : JS L σ1 e := hM.js hS
  have hT : σ1.2 101 = σ.2 101 := hM.row (by decide)
  have hfl := hz.fault hS1
  cases z with
  | none =>
    have hf5 : ρ.1 2 4 = 5 := jp.f5 hz
    rw [if_neg (fun y => by rw [hf5] at y; exact absurd y.2.2 (by decide))]
    exact h0' (hzn rfl) σ1 ρ hM hz
  | some q =>
    obtain ⟨st, due, n, d, hqe, htq, hdl, hdu, hpq, hsp, h8, h9, hdq, hres⟩ := hzq q rfl
    have hf0 : ρ.1 2 4 = 0 := jp.f0 hz (by first | exact hS1 | exact hS)
    cases st with
    | nil =>
      have hd : deep = 0 := hdl
      rw [if_neg (fun y => by omega)]
      exact h1 q0 (q, n, d) σ1 ρ rfl (by rw [hR, hres]; rfl) hM h8 h9 hz
    | cons s st =>
      rw [List.length_cons] at hdl hpq
      rw [if_pos ⟨by omega, by omega, hf0⟩]
      have hsl := sk_le (p := isSp) (T := σ.2 101) hqe
      refine p_skipSpace hS1 (by omega) hz (fun v6 ρ1 hρ1 _ _ => ?_)
      have hρ1' : jp e 0 σ1 (some (sk isSp (σ.2 101) e q)) ρ1 := by rw [hT] at hρ1; exact hρ1
      refine p_peek hS1 (by omega) hρ1' (fun v8 hv8 => ?_)
      have hv := hv8 _ rfl
      rw [hT] at hv
      have hstep : R = (if due = true then (if lk (σ.2 101) e (sk isSp (σ.2 101) e q) = 40 then mdk (σ.2 101) e (e + 1) (0 :: s :: st) true (sk isSp (σ.2 101) e q + 1) n (if d < st.length + 2 then st.length + 2 else d) else (match nmg (σ.2 101) e true (some (sk isSp (σ.2 101) e q)) with
            | none => none
            | some j => mdk (σ.2 101) e (e + 1) (s :: st) false (oft (σ.2 101) e j) (n + 1) d))
          else if lk (σ.2 101) e (sk isSp (σ.2 101) e q) = 41 then mdk (σ.2 101) e (e + 1) st false (oft (σ.2 101) e (sk isSp (σ.2 101) e q + 1)) n d
          else if (lk (σ.2 101) e (sk isSp (σ.2 101) e q) = 124 ∨ lk (σ.2 101) e (sk isSp (σ.2 101) e q) = 44) ∧ (s = 0 ∨ s = lk (σ.2 101) e (sk isSp (σ.2 101) e q)) then mdk (σ.2 101) e (e + 1) (lk (σ.2 101) e (sk isSp (σ.2 101) e q) :: st) true (sk isSp (σ.2 101) e q + 1) n d
          else none) := hres
      have hpos := hρ1'.at.1
      have k8 : ρ1.1 5 8 = (n : Int) := by rw [hρ1'.keep (by omega) (by omega), h8]
      have k9 : ρ1.1 5 9 = (d : Int) := by rw [hρ1'.keep (by omega) (by omega), h9]
      generalize hy : sk isSp (σ.2 101) e q = y at *
      refine WJ_dir ?_
      dsimp only
      cases due with
      | true =>
        have hdu1 : due0 = 1 := hdu
        rw [if_pos rfl] at hstep
        refine ⟨fun _ _ => ⟨by omega, by omega⟩, ?_⟩
        by_cases c2 : v8 = 40
        · have c2' : lk (σ.2 101) e y = 40 := by rw [← hv]; exact c2
          have hlt := (lk_lt (by decide) c2').1
          rw [if_pos ⟨by omega, c2, by omega⟩, hpos]
          rw [if_pos c2'] at hstep
          refine ⟨⟨by omega, by omega⟩, ⟨by omega, by omega⟩, ⟨by omega, by omega⟩, ⟨by omega, by omega⟩, ?_⟩
          have e1 : (deep + 1).toNat = st.length + 1 + 1 := by omega
          rw [e1, k9, show ((y : Int) + 1) = ((y + 1 : Nat) : Int) by omega]
          have hx : (if (d : Int) < deep + 1 then deep + 1 else (d : Int)) = ((if d < st.length + 2 then st.length + 2 else d : Nat) : Int) := by
            by_cases cd : d < st.length + 2
            · rw [if_pos cd, if_pos (by omega)]; omega
            · rw [if_neg cd, if_neg (by omega)]
          rw [hx]
          refine hI _ _ ⟨some (y + 1), _, (hM.r).f (Or.inr rfl), ((hρ1'.to (show y + 1 ≤ e by omega)).pr2).pf2 (by decide), by dsimp only; omega, by dsimp only; omega, ?_, fun hn => (by cases hn), fun q' hq' => ?_⟩ (by dsimp only; omega)
          · rw [pf_1, if_neg (by omega), pr_1]; dsimp only; omega
          · cases hq'
            refine ⟨0 :: s :: st, true, n, _, by omega, by dsimp only; omega, by dsimp only; rw [List.length_cons, List.length_cons]; omega, hdu1, by rw [List.length_cons, List.length_cons]; omega, sps_f (sps_push hsp), ?_, pf_eq, ?_, ?_⟩
            · rw [pf_1, if_neg (by omega), pr_1]; exact h8
            · split <;> omega
            · rw [hstep]
              exact mdk_fuel _ _ _ _ _ _ _ (by omega) (by omega) (by omega)
        · rw [if_neg (fun z => c2 z.2.1), if_neg (by omega)]
          have c2' : ¬ lk (σ.2 101) e y = 40 := by rw [← hv]; exact c2
          rw [if_neg c2'] at hstep
          refine p_readName hS1 (by omega) hρ1' (fun v47 ρ2 hρ2 _ _ => p_howOften hS1 (by omega) hρ2 (fun ρ3 hρ3 => ?_))
          rw [hT] at hρ3
          have k83 : ρ3.1 5 8 = (n : Int) := by rw [hρ3.keep (by omega) (by omega), h8]
          rw [k83]
          refine ⟨⟨by omega, by omega⟩, ⟨by omega, by omega⟩, ?_⟩
          refine hI _ _ ⟨_, pf σ1 5 8 ((n : Int) + 1), hM.f (Or.inl rfl), hρ3.pf2 (by decide), by dsimp only; omega, by dsimp only; omega, ?_, fun hn => ?_, fun q' hq' => ?_⟩ (by dsimp only; omega)
          · rw [pf_eq]; dsimp only; omega
          · cases hnm : nmg (σ.2 101) e true (some y) with
            | none => rw [hstep, hnm]
            | some j => rw [hnm] at hn; cases hn
          · cases hnm : nmg (σ.2 101) e true (some y) with
            | none => rw [hnm] at hq'; cases hq'
            | some j =>
              rw [hnm] at hq' hstep
              cases hq'
              dsimp only at hstep
              have g1 := nmg_lt hnm
              have g2 := oft_le (T := σ.2 101) g1.2.2
              refine ⟨s :: st, false, n + 1, d, g2.2, by dsimp only; omega, by dsimp only; rw [List.length_cons]; omega, rfl, by rw [List.length_cons]; omega, sps_f hsp, by rw [pf_eq]; omega, by rw [pf_1, if_neg (by omega)]; exact h9, by omega, ?_⟩
              rw [hstep]
              exact mdk_fuel _ _ _ _ _ _ _ (by omega) (by omega) (by omega)
      | false =>
        have hdu1 : due0 = 0 := hdu
        rw [if_neg (by decide)] at hstep
        refine ⟨fun z => absurd hdu1 z, ?_⟩
        rw [if_neg (fun z => z.1 hdu1), if_pos hdu1]
        by_cases c2 : v8 = 41
        · have c2' : lk (σ.2 101) e y = 41 := by rw [← hv]; exact c2
          have hlt := (lk_lt (by decide) c2').1
          rw [if_pos c2, hpos]
          rw [if_pos c2'] at hstep
          refine ⟨⟨by omega, by omega⟩, ?_⟩
          rw [show ((y : Int) + 1) = ((y + 1 : Nat) : Int) by omega]
          refine p_howOften hS1 (by omega) (hρ1'.to (show y + 1 ≤ e by omega)) (fun ρ3 hρ3 => ⟨⟨by omega, by omega⟩, ⟨by omega, by omega⟩, ?_⟩)
          rw [hT] at hρ3
          have g2 := oft_le (T := σ.2 101) (show y + 1 ≤ e by omega)
          refine hI _ _ ⟨_, σ1, hM, hρ3, by dsimp only; omega, by dsimp only; omega, by dsimp only; omega, fun hn => (by cases hn), fun q' hq' => ?_⟩ (by dsimp only; omega)
          cases hq'
          refine ⟨st, false, n, d, g2.2, by dsimp only; omega, by dsimp only; omega, hdu1, by omega, sps_pop hsp, h8, h9, by omega, ?_⟩
          rw [hstep]
          exact mdk_fuel _ _ _ _ _ _ _ (by omega) (by omega) (by omega)
        · rw [if_neg c2]
          have c2' : ¬ lk (σ.2 101) e y = 41 := by rw [← hv]; exact c2
          rw [if_neg c2'] at hstep
          have e1 : deep.toNat = st.length + 1 := by omega
          have hrow : ρ1.2 128 deep.toNat = s := by rw [hρ1'.row, e1]; exact sps_top hsp
          refine WJ_of (fun _ ρ2 => ρ1 = ρ2 ∧ R = none) (fun J hJ => ?_) ?_
          · by_cases c3 : v8 = 124 ∨ v8 = 44
            · have hlt : y < e := by
                rw [hv] at c3
                rcases c3 with c4 | c4
                · exact (lk_lt (by decide) c4).1
                · exact (lk_lt (by decide) c4).1
              rw [if_pos c3, hrow]
              refine ⟨⟨by omega, by omega⟩, fun _ => ⟨by omega, by omega⟩, ?_⟩
              by_cases c4 : ¬ s = 0 ∧ ¬ s = v8
              · rw [if_pos c4]
                refine hJ _ _ ⟨rfl, ?_⟩
                rw [hstep, if_neg (fun z => by rw [← hv] at z; omega)]
              · rw [if_neg c4, hpos]
                refine ⟨⟨by omega, by omega⟩, ⟨by omega, by omega⟩, ⟨by omega, by omega⟩, ?_⟩
                have hnb : nb v8 = v8 := by
                  rcases c3 with c5 | c5 <;> rw [c5] <;> decide
                rw [if_pos ⟨by rw [← hv]; exact c3, by rw [← hv]; omega⟩, ← hv] at hstep
                rw [hnb, e1, show ((y : Int) + 1) = ((y + 1 : Nat) : Int) by omega]
                refine hI _ _ ⟨some (y + 1), _, hM.r, (hρ1'.to (show y + 1 ≤ e by omega)).pr2, by dsimp only; omega, by dsimp only; omega, by rw [pr_1]; dsimp only; omega, fun hn => (by cases hn), fun q' hq' => ?_⟩ (by dsimp only; omega)
                cases hq'
                refine ⟨v8 :: st, true, n, d, by omega, by dsimp only; omega, by dsimp only; rw [List.length_cons]; omega, rfl, by rw [List.length_cons]; omega, sps_set hsp, by rw [pr_1]; exact h8, by rw [pr_1]; exact h9, by omega, ?_⟩
                rw [hstep]
                exact mdk_fuel _ _ _ _ _ _ _ (by omega) (by omega) (by omega)
            · rw [if_neg c3]
              refine hJ _ _ ⟨rfl, ?_⟩
              rw [hstep, if_neg (fun z => c3 (by rw [hv]; exact z.1))]
          · rintro _ _ ⟨rfl, hRn⟩
            refine p_fail hS1 hρ1' (fun ρ3 hρ3 => ⟨⟨by omega, by omega⟩, ?_⟩)
            exact hI _ _ ⟨none, σ1, hM, hρ3, by dsimp only; omega, by dsimp only; omega, by dsimp only; omega, fun _ => hRn, fun q' hq' => by cases hq'⟩ (by dsimp only; omega)
end JMo
