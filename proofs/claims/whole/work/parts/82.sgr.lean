/-! ===== the class's store: what stays when it grows ===== -/
def jw (σ : IS) : Nat := (σ.1 1 14).toNat
def jtp (σ : IS) : Nat := (σ.1 1 3).toNat
def sgr (σ σ' : IS) : Prop := jw σ ≤ jw σ' ∧ jtp σ ≤ jtp σ' ∧ (∀ w, w < jw σ → wst σ' w = wst σ w) ∧ (∀ i, i < jtp σ → σ'.2 101 i = σ.2 101 i) ∧ ∀ w, w < jw σ → σ'.2 102 w = σ.2 102 w ∧ σ'.2 103 w = σ.2 103 w
/-- the number of a word -/
def Jn (σ : IS) (x : Int) (s : Str) : Prop := ∃ w : Nat, x = (w : Int) ∧ w < jw σ ∧ wst σ w = s
/-- a piece of the store's characters -/
def Jt (σ : IS) (x : Int) (l : List Int) : Prop := ∃ a : Nat, x = (a : Int) ∧ a + l.length ≤ jtp σ ∧ sl (σ.2 101) a l.length = l
/-- a number for each word -/
def WM (L : Nat → Nat) (σ : IS) (r : Nat) (f : Str → Int) : Prop := (∀ w, w < jw σ → σ.2 r w = f (wst σ w)) ∧ (∀ w, jw σ ≤ w → w < L 155 → σ.2 r w = 0) ∧ ∀ s, f s ≠ 0 → ∃ w, w < jw σ ∧ wst σ w = s
section SG
variable {L : Nat → Nat} {σ σ' σ'' : IS}
theorem sgr.refl : sgr σ σ := ⟨Nat.le_refl _, Nat.le_refl _, fun _ _ => rfl, fun _ _ => rfl, fun _ _ => ⟨rfl, rfl⟩⟩
theorem sgr.trans (h1 : sgr σ σ') (h2 : sgr σ' σ'') : sgr σ σ'' := ⟨Nat.le_trans h1.1 h2.1, Nat.le_trans h1.2.1 h2.2.1, fun w hw => (h2.2.2.1 w (Nat.lt_of_lt_of_le hw h1.1)).trans (h1.2.2.1 w hw), fun i hi => (h2.2.2.2.1 i (Nat.lt_of_lt_of_le hi h1.2.1)).trans (h1.2.2.2.1 i hi), fun w hw => ⟨(h2.2.2.2.2 w (Nat.lt_of_lt_of_le hw h1.1)).1.trans (h1.2.2.2.2 w hw).1, (h2.2.2.2.2 w (Nat.lt_of_lt_of_le hw h1.1)).2.trans (h1.2.2.2.2 w hw).2⟩⟩
theorem Jn.gr {x : Int} {s : Str} (h : Jn σ x s) (g : sgr σ σ') : Jn σ' x s := by
  obtain ⟨w, h1, h2, h3⟩ := h
  exact ⟨w, h1, Nat.lt_of_lt_of_le h2 g.1, by rw [g.2.2.1 w h2, h3]⟩
theorem Jt.gr {x : Int} {l : List Int} (h : Jt σ x l) (g : sgr σ σ') : Jt σ' x l := by
  obtain ⟨a, h1, h2, h3⟩ := h
  refine ⟨a, h1, Nat.le_trans h2 g.2.1, ?_⟩
  have e : sl (σ'.2 101) a l.length = sl (σ.2 101) a l.length := sl_ext (fun j hj => g.2.2.2.1 _ (by omega))
  rw [e, h3]
theorem SI.jw_le (h : SI L σ) : ((jw σ : Nat) : Int) = σ.1 1 14 ∧ jw σ ≤ L 102 := by
  have := h.1
  unfold jw
  omega
theorem SI.jtp_le (h : SI L σ) : ((jtp σ : Nat) : Int) = σ.1 1 3 ∧ jtp σ ≤ L 101 := by
  have := h.1
  unfold jtp
  omega
theorem Jn.inj (hI : SI L σ) {x y : Int} {s : Str} (h1 : Jn σ x s) (h2 : Jn σ y s) : x = y := by
  obtain ⟨w, a1, a2, a3⟩ := h1
  obtain ⟨v, b1, b2, b3⟩ := h2
  have := hI.jw_le
  have e := hI.2.2.2 w v (by omega) (by omega) (by rw [a3, b3])
  omega
theorem Jn.fun {x : Int} {s t : Str} (h1 : Jn σ x s) (h2 : Jn σ x t) : s = t := by
  obtain ⟨w, a1, a2, a3⟩ := h1
  obtain ⟨v, b1, b2, b3⟩ := h2
  have e : w = v := by omega
  subst e
  rw [← a3, b3]
theorem Jn.rng (hI : SI L σ) {x : Int} {s : Str} (h : Jn σ x s) : 0 ≤ x ∧ x < (L 102 : Int) ∧ x < σ.1 1 14 ∧ x.toNat < jw σ ∧ wst σ x.toNat = s := by
  obtain ⟨w, a1, a2, a3⟩ := h
  have := hI.jw_le
  have e : x.toNat = w := by omega
  rw [e]
  exact ⟨by omega, by omega, by omega, a2, a3⟩
theorem WM.gr {r : Nat} {f : Str → Int} (h : WM L σ r f) (g : sgr σ σ') (hS : SI L σ') (hl : SL L) (hr : σ'.2 r = σ.2 r) : WM L σ' r f := by
  obtain ⟨h1, h2, h3⟩ := h
  have hj := hS.jw_le
  have hL : L 102 = L 155 := hl.2.2.2.1
  refine ⟨fun w hw => ?_, fun w hw hwl => ?_, fun s hs => ?_⟩
  · rw [hr]
    by_cases c : w < jw σ
    · rw [h1 w c, g.2.2.1 w c]
    · rw [h2 w (by omega) (by omega)]
      refine Classical.byContradiction (fun hz => ?_)
      obtain ⟨v, hv1, hv2⟩ := h3 (wst σ' w) (fun e => hz e.symm)
      rw [← g.2.2.1 v hv1] at hv2
      have g1 := g.1
      have := hS.2.2.2 v w (by omega) (by omega) hv2
      omega
  · rw [hr]
    have g1 := g.1
    exact h2 w (by omega) hwl
  · obtain ⟨v, hv1, hv2⟩ := h3 s hs
    exact ⟨v, Nat.lt_of_lt_of_le hv1 g.1, by rw [g.2.2.1 v hv1, hv2]⟩
theorem wst_pr {r i : Nat} {x : Int} (hr : r < 101 ∨ 103 < r) {w : Nat} : wst (pr σ r i x) w = wst σ w := by
  unfold wst wfr wsz
  have e : ∀ q, q = 101 ∨ q = 102 ∨ q = 103 → (pr σ r i x).2 q = σ.2 q := fun q hq => funext (fun j => by rw [pr_2, if_neg (by omega)])
  rw [e 101 (by omega), e 102 (by omega), e 103 (by omega)]
theorem wst_pf {o k : Nat} {x : Int} {w : Nat} : wst (pf σ o k x) w = wst σ w := rfl
theorem WM.set {r : Nat} {f : Str → Int} (h : WM L σ r f) (hS : SI L σ) (hr : r < 101 ∨ 106 < r) {w : Nat} {x : Int} (hw : w < jw σ) : WM L (pr σ r w x) r (fun s => if s = wst σ w then x else f s) := by
  obtain ⟨h1, h2, h3⟩ := h
  have hj := hS.jw_le
  have ej : jw (pr σ r w x) = jw σ := rfl
  refine ⟨fun v hv => ?_, fun v hv hvl => ?_, fun s hs => ?_⟩
  · rw [ej] at hv
    rw [wst_pr (by omega), pr_2]
    by_cases c : v = w
    · subst c
      rw [if_pos ⟨rfl, rfl⟩]
      dsimp only
      rw [if_pos rfl]
    · rw [if_neg (fun z => c z.2), h1 v hv]
      dsimp only
      rw [if_neg (fun z => c (hS.2.2.2 v w (by omega) (by omega) z))]
  · rw [ej] at hv
    rw [pr_2, if_neg (by omega)]
    exact h2 v hv hvl
  · dsimp only at hs
    by_cases c : s = wst σ w
    · exact ⟨w, hw, by rw [wst_pr (by omega), c]⟩
    · rw [if_neg c] at hs
      obtain ⟨v, hv1, hv2⟩ := h3 s hs
      exact ⟨v, hv1, by rw [wst_pr (by omega), hv2]⟩
theorem WM.cong {r : Nat} {f f' : Str → Int} (h : WM L σ r f) (he : ∀ s, f s = f' s) : WM L σ r f' := by
  have : f = f' := funext he
  rw [← this]
  exact h
/-- what the store needs stays -/
theorem SI_of (h : SI L σ) (h14 : σ'.1 1 14 = σ.1 1 14) (h3 : σ.1 1 3 ≤ σ'.1 1 3 ∧ σ'.1 1 3 ≤ (L 101 : Int)) (hrow : ∀ r, 102 ≤ r → r ≤ 106 → σ'.2 r = σ.2 r) (hch : ∀ i, i < jtp σ → σ'.2 101 i = σ.2 101 i) : SI L σ' ∧ sgr σ σ' := by
  have hj := h.jw_le
  have ht := h.jtp_le
  have hw : ∀ w, w < jw σ → wst σ' w = wst σ w := by
    intro w hw
    have hb := h.2.1 w (by omega)
    unfold wst wfr wsz
    rw [hrow 102 (by omega) (by omega), hrow 103 (by omega) (by omega)]
    exact sl_ext (fun j hj2 => hch _ (by omega))
  have hsl : slt L σ' = slt L σ := by
    funext w
    unfold slt
    rw [hrow 104 (by omega) (by omega)]
  refine ⟨⟨by rw [h14]; have := h.1; omega, fun w hw2 => ?_, fun b hb => ?_, fun w v h1 h2 h5 => ?_⟩, ?_, ?_, hw, hch, fun w _ => ⟨by rw [hrow 102 (by omega) (by omega)], by rw [hrow 103 (by omega) (by omega)]⟩⟩
  · rw [h14] at hw2
    have hb := h.2.1 w hw2
    rw [hw w (by omega), hsl, hrow 102 (by omega) (by omega), hrow 103 (by omega) (by omega), hrow 104 (by omega) (by omega), hrow 105 (by omega) (by omega)]
    exact ⟨hb.1, hb.2.1, by omega, hb.2.2.2.1, hb.2.2.2.2⟩
  · rw [hsl, h14, hrow 106 (by omega) (by omega)]
    exact h.2.2.1 b hb
  · rw [h14] at h1 h2
    rw [hw w (by omega), hw v (by omega)] at h5
    exact h.2.2.2 w v h1 h2 h5
  · unfold jw
    rw [h14]
    exact Nat.le_refl _
  · unfold jtp
    omega
theorem SI_pf {o k : Nat} {x : Int} (h : SI L σ) (hk : ¬ (o = 1 ∧ (k = 3 ∨ k = 14))) : SI L (pf σ o k x) ∧ sgr σ (pf σ o k x) :=
  SI_of h (by rw [pf_1, if_neg (by omega)]) (by rw [pf_1, if_neg (by omega)]; have := h.1; omega) (fun _ _ _ => rfl) (fun _ _ => rfl)
theorem SI_pr {r i : Nat} {x : Int} (h : SI L σ) (hr : r < 101 ∨ 106 < r) : SI L (pr σ r i x) ∧ sgr σ (pr σ r i x) :=
  SI_of h rfl (by rw [pr_1]; have := h.1; omega) (fun q h1 h2 => funext (fun j => by rw [pr_2, if_neg (by omega)])) (fun j _ => by rw [pr_2, if_neg (by omega)])
/-- a character more -/
theorem SI_add {c : Int} (h : SI L σ) (ht : jtp σ < L 101) : SI L (pf (pr σ 101 (jtp σ) c) 1 3 ((jtp σ : Int) + 1)) ∧ sgr σ (pf (pr σ 101 (jtp σ) c) 1 3 ((jtp σ : Int) + 1)) := by
  have hj := h.jtp_le
  refine SI_of h (by rw [pf_1, if_neg (by omega)]; rfl) (by rw [pf_eq]; omega) (fun q h1 h2 => funext (fun j => by rw [pf_2, pr_2, if_neg (by omega)])) (fun j hj2 => by rw [pf_2, pr_2, if_neg (by omega)])
theorem sp_Store_add {Q : IS → Prop} {c : Int} (h : SI L σ) (hl : SL L) (ht : jtp σ < L 101) (hq : Q (pf (pr σ 101 (jtp σ) c) 1 3 ((jtp σ : Int) + 1))) : w_Store_add L c Q σ := by
  have hj := h.jtp_le
  have h9 : L 101 < 1000000 := hl.2.2.2.2.2.2.2
  unfold w_Store_add
  refine WJ_dir ?_
  dsimp only
  rw [if_pos (by omega)]
  refine ⟨⟨by omega, by omega⟩, ⟨by omega, by omega⟩, ?_⟩
  rw [← hj.1, show Int.toNat ((jtp σ : Nat) : Int) = jtp σ by omega]
  exact hq
/-- a word, whatever comes: in a bad state nothing more is asked -/
theorem intd.gr {l : List Int} {x : Int} (hI : SI L σ) (h : intd L σ σ' l x) : sgr σ σ' ∧ Jn σ' x l := by
  obtain ⟨h1, ⟨w, hw1, hw2, hw3⟩, h3, h4, h6, h5⟩ := h
  have hj := hI.jw_le
  have hj' := h1.jw_le
  refine ⟨⟨?_, ?_, fun v hv => h3 v (by omega), fun i _ => h4.2 101 i (by omega), fun v hv => h6 v (by omega)⟩, w, hw1, by omega, hw3⟩
  · rcases h5 with h5 | h5
    · have := h5.2.1; omega
    · have := h5.2.1; omega
  · unfold jtp
    rw [h4.1 1 3 (by omega)]
    exact Nat.le_refl _
end SG
