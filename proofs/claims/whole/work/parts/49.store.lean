/-! ===== the class's store of words ===== -/
def hsj (n : Int) (l : List Int) : Int := l.foldl (fun h c => wr (wr (h * 31) + c)) n
def hJ (l : List Int) : Int := ix (hsj l.length l) (iur (hsj l.length l) 15)
/-- the greatest number below n in that slot -/
def lastB (slot : Nat → Int) (b : Int) : Nat → Int
  | 0 => -1
  | n + 1 => if slot n = b then (n : Int) else lastB slot b n
theorem lastB_lt {slot : Nat → Int} {b : Int} : ∀ n : Nat, -1 ≤ lastB slot b n ∧ lastB slot b n < n := by
  intro n
  induction n with
  | zero => unfold lastB; omega
  | succ n ih =>
    unfold lastB
    split
    · omega
    · omega
theorem lastB_is {slot : Nat → Int} {b : Int} : ∀ n : Nat, 0 ≤ lastB slot b n → slot (lastB slot b n).toNat = b := by
  intro n
  induction n with
  | zero => intro h; unfold lastB at h; omega
  | succ n ih =>
    intro h
    unfold lastB at h ⊢
    split at h
    · rename_i e
      rw [if_pos e]
      simpa using e
    · rename_i e
      rw [if_neg e]
      exact ih h
theorem lastB_none {slot : Nat → Int} {b : Int} : ∀ (n w : Nat), w < n → lastB slot b n < w → slot w ≠ b := by
  intro n
  induction n with
  | zero => intro w h; omega
  | succ n ih =>
    intro w hw h
    unfold lastB at h
    split at h
    · omega
    · rename_i e
      by_cases ew : w = n
      · subst ew; exact e
      · exact ih w (by omega) h
theorem lastB_cong {s1 s2 : Nat → Int} {b : Int} : ∀ n : Nat, (∀ w, w < n → s1 w = s2 w) → lastB s1 b n = lastB s2 b n := by
  intro n
  induction n with
  | zero => intro _; rfl
  | succ n ih =>
    intro h
    unfold lastB
    rw [h n (by omega), ih (fun w hw => h w (by omega))]
def wfr (σ : IS) (w : Nat) : Nat := (σ.2 102 w).toNat
def wsz (σ : IS) (w : Nat) : Nat := (σ.2 103 w).toNat
def wst (σ : IS) (w : Nat) : List Int := sl (σ.2 101) (wfr σ w) (wsz σ w)
def slt (L : Nat → Nat) (σ : IS) (w : Nat) : Int := ia (σ.2 104 w) ((L 106 : Int) - 1)
def SL (L : Nat → Nat) : Prop := L 102 = L 103 ∧ L 102 = L 104 ∧ L 102 = L 105 ∧ L 102 = L 155 ∧ 0 < L 106 ∧ L 106 < 1000000 ∧ L 102 < 1000000 ∧ L 101 < 1000000
def SI (L : Nat → Nat) (σ : IS) : Prop :=
  (0 ≤ σ.1 1 14 ∧ σ.1 1 14 ≤ (L 102 : Int) ∧ 0 ≤ σ.1 1 3 ∧ σ.1 1 3 ≤ (L 101 : Int)) ∧
  (∀ w : Nat, (w : Int) < σ.1 1 14 → 0 ≤ σ.2 102 w ∧ 0 ≤ σ.2 103 w ∧ σ.2 102 w + σ.2 103 w ≤ σ.1 1 3 ∧ σ.2 104 w = hJ (wst σ w) ∧ σ.2 105 w = lastB (slt L σ) (slt L σ w) w) ∧
  (∀ b : Nat, b < L 106 → σ.2 106 b = lastB (slt L σ) b (σ.1 1 14).toNat) ∧
  (∀ w v : Nat, (w : Int) < σ.1 1 14 → (v : Int) < σ.1 1 14 → wst σ w = wst σ v → w = v)
theorem slt_in {L : Nat → Nat} (hl : SL L) (x : Int) : 0 ≤ ia x ((L 106 : Int) - 1) ∧ ia x ((L 106 : Int) - 1) < (L 106 : Int) := by
  obtain ⟨-, -, -, -, h5, h6, -, -⟩ := hl
  have h := ia_in (x := x) (m := (L 106 : Int) - 1) (by omega)
  omega
theorem sp_Store_find {L : Nat → Nat} {a n : Int} {Q : Int → IS → Prop} {σ : IS} (hS : SI L σ) (hl : SL L) (ha : 0 ≤ a ∧ 0 ≤ n ∧ a + n ≤ (L 101 : Int))
    (h1 : ∀ w : Nat, (w : Int) < σ.1 1 14 → wst σ w = sl (σ.2 101) a.toNat n.toNat → Q w (pf σ 1 13 (hJ (sl (σ.2 101) a.toNat n.toNat)))) (h0 : (∀ w : Nat, (w : Int) < σ.1 1 14 → wst σ w ≠ sl (σ.2 101) a.toNat n.toNat) → Q (-1) (pf σ 1 13 (hJ (sl (σ.2 101) a.toNat n.toNat)))) : w_Store_find L a n Q σ := by
  obtain ⟨hs1, hs2, hs3, hs4⟩ := hS
  have hl' := hl
  obtain ⟨l2, l3, l4, l5, l6, l7, l8, l9⟩ := hl'
  unfold w_Store_find
  refine WL_ind (fun s τ => τ = σ ∧ a ≤ s.2 ∧ s.2 ≤ a + n ∧ s.1 = hsj n (sl (σ.2 101) a.toNat (s.2 - a).toNat)) (fun s _ => (a + n - s.2).toNat) ?_ (n, a) σ ⟨rfl, by simp, by dsimp only; omega, by simp [sl, hsj]⟩
  rintro ⟨h, k⟩ τ ⟨rfl, k0, k1, hh⟩ K hI
  dsimp only at k0 k1 hh hI ⊢
  refine ⟨⟨by omega, by omega⟩, ?_⟩
  by_cases c : k < a + n
  · rw [if_pos c]
    refine ⟨⟨by omega, by omega⟩, ⟨by omega, by omega⟩, hI _ _ ⟨rfl, by dsimp only; omega, by dsimp only; omega, ?_⟩ (by dsimp only; omega)⟩
    try dsimp only
    rw [show (k + 1 - a).toNat = (k - a).toNat + 1 by omega, sl_succ, show a.toNat + (k - a).toNat = k.toNat by omega, hh]
    simp [hsj, List.foldl_append]
  · rw [if_neg c]
    have e : k = a + n := by omega
    subst e
    rw [show (a + n - a).toNat = n.toNat by omega] at hh
    have eh : ix h (iur h 15) = hJ (sl (τ.2 101) a.toNat n.toNat) := by
      unfold hJ
      rw [sl_ln, show ((n.toNat : Nat) : Int) = n by omega, ← hh]
    rw [eh]
    generalize hT : sl (τ.2 101) a.toNat n.toNat = T at *
    have hb := slt_in hl (hJ T)
    have hb' : ((ia (hJ T) ((L 106 : Int) - 1)).toNat : Int) = ia (hJ T) ((L 106 : Int) - 1) := by omega
    refine ⟨⟨by omega, by omega⟩, ⟨by omega, by omega⟩, ?_⟩
    have hslot : ∀ w : Nat, (w : Int) < τ.1 1 14 → wst τ w = T → slt L τ w = ia (hJ T) ((L 106 : Int) - 1) := by
      intro w hw e
      unfold slt
      rw [(hs2 w hw).2.2.2.1, e]
    rw [hs3 _ (by omega), hb']
    refine WL_ind (fun s ρ => ρ = pf τ 1 13 (hJ T) ∧ 0 ≤ s.2 ∧ ∃ m : Nat, (m : Int) ≤ τ.1 1 14 ∧ s.1 = lastB (slt L τ) (ia (hJ T) ((L 106 : Int) - 1)) m ∧ s.2 + (m : Int) ≤ τ.1 1 14 ∧ ∀ w : Nat, (m : Int) ≤ w → (w : Int) < τ.1 1 14 → wst τ w ≠ T) (fun s _ => (τ.1 1 14 - s.2).toNat) ?_ (lastB (slt L τ) (ia (hJ T) ((L 106 : Int) - 1)) (τ.1 1 14).toNat, 0) _ ⟨rfl, by simp, (τ.1 1 14).toNat, by omega, rfl, by dsimp only; omega, fun w h2 h3 => by omega⟩
    rintro ⟨x, t⟩ ρ ⟨rfl, t0, m, hm, hx, htm, hno⟩ K2 hI2
    dsimp only at t0 hx htm hI2 ⊢
    have f14 : (pf τ 1 13 (hJ T)).1 1 14 = τ.1 1 14 := pf_nk (by decide)
    have f13 : (pf τ 1 13 (hJ T)).1 1 13 = hJ T := pf_eq
    have fr : ∀ r i, (pf τ 1 13 (hJ T)).2 r i = τ.2 r i := fun _ _ => rfl
    have hlt := lastB_lt (slot := slt L τ) (b := ia (hJ T) ((L 106 : Int) - 1)) m
    rw [← hx] at hlt
    rw [f14, f13]
    simp only [fr]
    by_cases c2 : t < τ.1 1 14 ∧ ¬ x = -1
    · rw [if_pos c2]
      have hX := hs2 x.toNat (by omega)
      have hxs : slt L τ x.toNat = ia (hJ T) ((L 106 : Int) - 1) := by
        rw [hx]
        exact lastB_is m (by omega)
      refine ⟨⟨by omega, by omega⟩, fun _ => ⟨by omega, by omega⟩, ?_⟩
      have hsx : wsz τ x.toNat = (τ.2 103 x.toNat).toNat := rfl
      -- the loop that compares
      refine WL_ind (fun s ρ => ρ = pf τ 1 13 (hJ T) ∧ 0 ≤ s.2 ∧ (s.1 = s.2 ∧ s.2 ≤ n ∧ τ.2 103 x.toNat = n ∧ (∀ j : Nat, (j : Int) < s.2 → τ.2 101 (wfr τ x.toNat + j) = τ.2 101 (a.toNat + j)) ∨ s.1 = -1 ∧ s.2 = 0 ∧ wst τ x.toNat ≠ T)) (fun s _ => (n - s.2).toNat) ?_ _ _ ?_
      · rintro ⟨z, i⟩ ρ ⟨rfl, i0, hz⟩ K3 hI3
        dsimp only at i0 hz hI3 ⊢
        simp only [fr]
        have hres : (z = n → wst τ x.toNat = T) := by
          intro ez
          rcases hz with ⟨z1, z2, z3, z4⟩ | ⟨z1, z2, z3⟩
          · rw [← hT]
            unfold wst
            rw [hsx, z3]
            exact sl_ext (fun j hj => z4 j (by omega))
          · omega
        refine ⟨fun c3 c4 => ⟨⟨by omega, by omega⟩, ⟨by omega, by omega⟩, ⟨?_, ?_⟩, ⟨by omega, by omega⟩, ⟨by omega, by omega⟩⟩, ?_⟩
        · omega
        · rcases hz with ⟨z1, z2, z3, z4⟩ | ⟨z1, z2, z3⟩ <;> omega
        by_cases c3 : i < n ∧ (z = i ∧ τ.2 101 (Int.toNat (τ.2 102 (Int.toNat x) + i)) = τ.2 101 (Int.toNat (a + i)))
        · rw [if_pos c3]
          rcases hz with ⟨z1, z2, z3, z4⟩ | ⟨z1, z2, z3⟩
          · refine ⟨⟨by omega, by omega⟩, ⟨by omega, by omega⟩, hI3 _ _ ⟨rfl, by dsimp only; omega, Or.inl ⟨by dsimp only; omega, by dsimp only; omega, z3, fun j hj => ?_⟩⟩ (by dsimp only; omega)⟩
            dsimp only at hj
            by_cases ej : (j : Int) < i
            · exact z4 j ej
            · have e5 := c3.2.2
              rw [show Int.toNat (τ.2 102 (Int.toNat x) + i) = wfr τ x.toNat + j by unfold wfr; omega, show Int.toNat (a + i) = a.toNat + j by omega] at e5
              exact e5
          · omega
        · rw [if_neg c3]
          by_cases c4 : z = n
          · rw [if_pos c4]
            have h2 := h1 x.toNat (by omega) (hres c4)
            rwa [show ((x.toNat : Nat) : Int) = x by omega] at h2
          · rw [if_neg c4]
            have hne : wst τ x.toNat ≠ T := by
              rcases hz with ⟨z1, z2, z3, z4⟩ | ⟨z1, z2, z3⟩
              · intro e5
                rw [← hT] at e5
                obtain ⟨-, e6⟩ := sl_inj e5
                refine c3 ⟨by omega, z1, ?_⟩
                have e7 := e6 i.toNat (by rw [hsx]; omega)
                rw [show Int.toNat (τ.2 102 (Int.toNat x) + i) = wfr τ x.toNat + i.toNat by unfold wfr; omega, show Int.toNat (a + i) = a.toNat + i.toNat by omega]
                exact e7
              · exact z3
            refine ⟨⟨by omega, by omega⟩, ⟨by omega, by omega⟩, hI2 _ _ ⟨rfl, by dsimp only; omega, x.toNat, by omega, ?_, by dsimp only; omega, fun w h2 h3 e5 => ?_⟩ (by dsimp only; omega)⟩
            · dsimp only
              rw [hX.2.2.2.2, hxs]
            · by_cases ew : w = x.toNat
              · subst ew
                exact hne e5
              · by_cases em : (w : Int) < m
                · exact lastB_none m w (by omega) (by rw [← hx]; omega) (hslot w h3 e5)
                · exact hno w (by omega) h3 e5
      · refine ⟨rfl, by simp, ?_⟩
        try dsimp only
        have hX4 := hX.2.2.2.1
        by_cases c3 : τ.2 104 (Int.toNat x) = hJ T
        · rw [if_pos c3]
          by_cases c4 : τ.2 103 (Int.toNat x) = n
          · rw [if_pos c4]
            exact Or.inl ⟨rfl, by omega, c4, fun j hj => by omega⟩
          · rw [if_neg c4]
            refine Or.inr ⟨rfl, rfl, fun e5 => ?_⟩
            rw [← hT] at e5
            have e6 := (sl_inj e5).1
            rw [hsx] at e6
            exact c4 (by omega)
        · rw [if_neg c3]
          refine Or.inr ⟨rfl, rfl, fun e5 => ?_⟩
          exact c3 (by rw [hX4, e5])
    · rw [if_neg c2]
      refine h0 (fun w hw e5 => ?_)
      have hx1 : x = -1 ∨ τ.1 1 14 ≤ t := by omega
      rcases hx1 with e6 | e6
      · by_cases em : (w : Int) < m
        · exact lastB_none m w (by omega) (by rw [← hx]; omega) (hslot w hw e5)
        · exact hno w (by omega) hw e5
      · exact hno w (by omega) hw e5
/-- what intern leaves when the word is new -/
theorem SI_new {L : Nat → Nat} {σ τ : IS} {l : List Int} {n : Nat} {a z : Int} (hS : SI L σ) (hl : SL L) (hn : σ.1 1 14 = (n : Int)) (hnew : ∀ w : Nat, (w : Int) < σ.1 1 14 → wst σ w ≠ l) (ha : 0 ≤ a ∧ 0 ≤ z ∧ a + z ≤ σ.1 1 3) (hla : sl (σ.2 101) a.toNat z.toNat = l) (hcap : (n : Int) < (L 102 : Int))
    (f14 : τ.1 1 14 = (n : Int) + 1) (f3 : τ.1 1 3 = σ.1 1 3) (g1 : ∀ i, τ.2 101 i = σ.2 101 i) (g2 : ∀ i, i ≠ n → τ.2 102 i = σ.2 102 i) (g2n : τ.2 102 n = a) (g3 : ∀ i, i ≠ n → τ.2 103 i = σ.2 103 i) (g3n : τ.2 103 n = z) (g4 : ∀ i, i ≠ n → τ.2 104 i = σ.2 104 i) (g4n : τ.2 104 n = hJ l)
    (g5 : ∀ i, i ≠ n → τ.2 105 i = σ.2 105 i) (g5n : τ.2 105 n = σ.2 106 (ia (hJ l) ((L 106 : Int) - 1)).toNat) (g6 : ∀ i, i ≠ (ia (hJ l) ((L 106 : Int) - 1)).toNat → τ.2 106 i = σ.2 106 i) (g6n : τ.2 106 (ia (hJ l) ((L 106 : Int) - 1)).toNat = (n : Int)) :
    SI L τ ∧ wst τ n = l ∧ ∀ w : Nat, w < n → wst τ w = wst σ w := by
  obtain ⟨hs1, hs2, hs3, hs4⟩ := hS
  have hb := slt_in hl (hJ l)
  rw [hn] at hs1 hs2 hs3 hs4 hnew
  have hold : ∀ w : Nat, w < n → wst τ w = wst σ w := by
    intro w hw
    unfold wst wfr wsz
    rw [g2 w (by omega), g3 w (by omega)]
    exact sl_ext (fun j hj => g1 _)
  have hnn : wst τ n = l := by
    unfold wst wfr wsz
    rw [g2n, g3n, ← hla]
    exact sl_ext (fun j hj => g1 _)
  have hslo : ∀ w : Nat, w < n → slt L τ w = slt L σ w := by
    intro w hw
    unfold slt
    rw [g4 w (by omega)]
  have hsln : slt L τ n = ia (hJ l) ((L 106 : Int) - 1) := by
    unfold slt
    rw [g4n]
  refine ⟨⟨by rw [f14, f3]; omega, ?_, ?_, ?_⟩, hnn, hold⟩
  · intro w hw
    rw [f14] at hw
    rw [f3]
    by_cases e : w = n
    · subst e
      rw [g2n, g3n, g4n, g5n, hnn, hsln]
      refine ⟨ha.1, ha.2.1, ha.2.2, rfl, ?_⟩
      rw [hs3 _ (by omega)]
      rw [show ((ia (hJ l) ((L 106 : Int) - 1)).toNat : Int) = ia (hJ l) ((L 106 : Int) - 1) by omega, show ((w : Int)).toNat = w by omega]
      exact (lastB_cong w hslo).symm
    · have h := hs2 w (by omega)
      rw [g2 w e, g3 w e, g4 w e, g5 w e, hold w (by omega), hslo w (by omega)]
      refine ⟨h.1, h.2.1, h.2.2.1, h.2.2.2.1, ?_⟩
      rw [h.2.2.2.2]
      exact (lastB_cong w (fun v hv => hslo v (by omega))).symm
  · intro b hb2
    rw [f14, show ((n : Int) + 1).toNat = n + 1 by omega]
    unfold lastB
    rw [hsln]
    by_cases e : b = (ia (hJ l) ((L 106 : Int) - 1)).toNat
    · subst e
      rw [g6n, if_pos (by omega)]
    · rw [g6 b e, if_neg (by omega), hs3 b hb2, show ((n : Int)).toNat = n by omega]
      exact (lastB_cong n hslo).symm
  · intro w v hw hv e
    rw [f14] at hw hv
    by_cases ew : w = n
    · by_cases ev : v = n
      · rw [ew, ev]
      · subst ew
        rw [hnn, hold v (by omega)] at e
        exact absurd e.symm (hnew v (by omega))
    · by_cases ev : v = n
      · subst ev
        rw [hnn, hold w (by omega)] at e
        exact absurd e (hnew w (by omega))
      · rw [hold w (by omega), hold v (by omega)] at e
        exact hs4 w v (by omega) (by omega) e
def frS (σ σ' : IS) : Prop := (∀ o k : Nat, ¬ (o = 1 ∧ (k = 13 ∨ k = 14)) → σ'.1 o k = σ.1 o k) ∧ (∀ r i : Nat, r < 102 ∨ 106 < r → σ'.2 r i = σ.2 r i)
def intd (L : Nat → Nat) (σ σ' : IS) (l : List Int) (x : Int) : Prop :=
  SI L σ' ∧ (∃ w : Nat, x = (w : Int) ∧ (w : Int) < σ'.1 1 14 ∧ wst σ' w = l) ∧ (∀ w : Nat, (w : Int) < σ.1 1 14 → wst σ' w = wst σ w) ∧ frS σ σ' ∧ (∀ w : Nat, (w : Int) < σ.1 1 14 → σ'.2 102 w = σ.2 102 w ∧ σ'.2 103 w = σ.2 103 w) ∧
  (((∃ w : Nat, x = (w : Int) ∧ (w : Int) < σ.1 1 14 ∧ wst σ w = l) ∧ σ'.1 1 14 = σ.1 1 14 ∧ ∀ r i, σ'.2 r i = σ.2 r i) ∨ ((∀ w : Nat, (w : Int) < σ.1 1 14 → wst σ w ≠ l) ∧ σ'.1 1 14 = σ.1 1 14 + 1 ∧ x = σ.1 1 14))
theorem pf_no' {σ : IS} {o k : Nat} {x : Int} (h : ¬ (o = 1 ∧ (k = 13 ∨ k = 14))) : (pf σ 1 13 x).1 o k = σ.1 o k := by
  show uf σ.1 1 13 x o k = _
  rw [uf_n (fun q => h ⟨q.1, Or.inl q.2⟩)]
theorem SI_sought {L : Nat → Nat} {σ : IS} {x : Int} (h : SI L σ) : SI L (pf σ 1 13 x) := by
  have f14 : (pf σ 1 13 x).1 1 14 = σ.1 1 14 := pf_nk (by decide)
  have f3 : (pf σ 1 13 x).1 1 3 = σ.1 1 3 := pf_nk (by decide)
  unfold SI at h ⊢
  rw [f14, f3]
  exact h
theorem sp_Store_intern {L : Nat → Nat} {a z : Int} {Q : Int → IS → Prop} {σ : IS} (hS : SI L σ) (hl : SL L) (ha : 0 ≤ a ∧ 0 ≤ z ∧ a + z ≤ σ.1 1 3) (hcap : (∀ w : Nat, (w : Int) < σ.1 1 14 → wst σ w ≠ sl (σ.2 101) a.toNat z.toNat) → σ.1 1 14 < (L 102 : Int)) (h : ∀ x σ', intd L σ σ' (sl (σ.2 101) a.toNat z.toNat) x → Q x σ') : w_Store_intern L a z Q σ := by
  have hs1 := hS.1
  have hl' := hl
  obtain ⟨l2, l3, l4, l5, l6, l7, l8, l9⟩ := hl'
  unfold w_Store_intern
  refine sp_Store_find hS hl ⟨ha.1, ha.2.1, by omega⟩ (fun w hw e => ?_) (fun hnew => ?_)
  · rw [if_neg (by omega)]
    refine h _ _ ⟨SI_sought hS, ⟨w, rfl, by rw [pf_nk (by decide)]; exact hw, e⟩, fun _ _ => rfl, ⟨fun o k hk => pf_no' hk, fun _ _ _ => rfl⟩, fun _ _ => ⟨rfl, rfl⟩, Or.inl ⟨⟨w, rfl, hw, e⟩, pf_nk (by decide), fun _ _ => rfl⟩⟩
  · rw [if_pos rfl]
    have hc := hcap hnew
    obtain ⟨n, hn⟩ : ∃ n : Nat, σ.1 1 14 = (n : Int) := ⟨(σ.1 1 14).toNat, by omega⟩
    have f14 : (pf σ 1 13 (hJ (sl (σ.2 101) a.toNat z.toNat))).1 1 14 = (n : Int) := by rw [pf_nk (by decide), hn]
    have f13 : (pf σ 1 13 (hJ (sl (σ.2 101) a.toNat z.toNat))).1 1 13 = hJ (sl (σ.2 101) a.toNat z.toNat) := pf_eq
    rw [f14, f13]
    generalize hT : sl (σ.2 101) a.toNat z.toNat = T at *
    have hb := slt_in hl (hJ T)
    rw [if_pos (by omega)]
    refine ⟨⟨by omega, by omega⟩, ⟨by omega, by omega⟩, ⟨by omega, by omega⟩, ⟨by omega, by omega⟩, ⟨by omega, by omega⟩, ⟨by omega, by omega⟩, ⟨by omega, by omega⟩, ⟨by omega, by omega⟩, ⟨by omega, by omega⟩, ?_⟩
    have en : Int.toNat (n : Int) = n := by omega
    rw [en, show ((n : Int) + 1 - 1) = (n : Int) by omega]
    have hN := SI_new (τ := pf (pr (pr (pr (pr (pr (pf σ 1 13 (hJ T)) 102 n a) 103 n z) 104 n (hJ T)) 105 n ((pf σ 1 13 (hJ T)).2 106 (Int.toNat (ia (hJ T) ((L 106 : Int) - 1))))) 106 (Int.toNat (ia (hJ T) ((L 106 : Int) - 1))) (n : Int)) 1 14 ((n : Int) + 1)) hS hl hn hnew ha hT (by omega) pf_eq (by simp [pf_1, pr_1])
      (fun i => by simp [pf_2, pr_2])
      (fun i hi => by simp [pf_2, pr_2, hi])
      (by simp [pf_2, pr_2])
      (fun i hi => by simp [pf_2, pr_2, hi])
      (by simp [pf_2, pr_2])
      (fun i hi => by simp [pf_2, pr_2, hi])
      (by simp [pf_2, pr_2])
      (fun i hi => by simp [pf_2, pr_2, hi])
      (by simp [pf_2, pr_2])
      (fun i hi => by simp [pf_2, pr_2, hi])
      (by simp [pf_2, pr_2])
    refine h _ _ ⟨hN.1, ⟨n, rfl, by rw [pf_eq]; omega, hN.2.1⟩, fun w hw => hN.2.2 w (by omega), ⟨fun o k hk => ?_, fun r i hr => ?_⟩, fun w hw => ?_, Or.inr ⟨hnew, by rw [pf_eq, hn], hn.symm⟩⟩
    · rw [pf_1, if_neg (fun q => hk ⟨q.1, Or.inr q.2⟩)]
      show (pf σ 1 13 (hJ T)).1 o k = _
      rw [pf_1, if_neg (fun q => hk ⟨q.1, Or.inl q.2⟩)]
    · rw [pf_2, pr_2, if_neg (by omega), pr_2, if_neg (by omega), pr_2, if_neg (by omega), pr_2, if_neg (by omega), pr_2, if_neg (by omega)]
      rfl
    · have hwn : w ≠ n := by omega
      constructor
      · simp [pf_2, pr_2, hwn]
      · simp [pf_2, pr_2, hwn]
