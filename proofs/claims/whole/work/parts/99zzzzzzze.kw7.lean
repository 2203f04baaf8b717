/-! ===== room (7): all names that a text and its entities have (pure) ===== -/
/-- names, pairs of element and attribute, how many attributes are given -/
abbrev TT : Type := List Str × List (Str × Str) × Nat
def tt0 : TT := ([], [], 0)
def tta (x y : TT) : TT := (x.1 ++ y.1, x.2.1 ++ y.2.1, x.2.2 + y.2.2)
def tw1 (x : TT) : Nat := Wn x.1
def tw2 (x : TT) : Nat := 8 * x.2.1.length + 5 * x.2.2
def tle (x y : TT) : Prop := (∀ s ∈ x.1, s ∈ y.1) ∧ (∀ p ∈ x.2.1, p ∈ y.2.1) ∧ x.2.2 ≤ y.2.2
def tk (a : AS) : TT := (tkN a, tkP a, tkG a)
def ps (m : Nat) (t : List Int) : AS := sN (sF (a0 t) [(t, 1, 0), ([], 0, 0)]) 4 m
def md (b : Bool) : Nat := if b = true then 1 else 2
/-- all that a text has: of declarations (1), of content (2) -/
def al : Nat → Nat → List Int → TT
  | 0, _, _ => tt0
  | n + 1, m, t => if t = [] then tt0 else tta (tk (ps m t)) (tta (match itE (ps m t) with
    | none => tt0
    | some x => al n (md x.2.1) x.2.2) (match itK (ps m t) with
    | none => tt0
    | some k => al n m (t.drop k)))
section Kw7
variable {rm nd : Nat} {a a' : AS} {X Y Z W : TT}
theorem tw1_a : tw1 (tta X Y) = tw1 X + tw1 Y := Wn_app
theorem tw2_a : tw2 (tta X Y) = tw2 X + tw2 Y := by
  unfold tw2 tta
  dsimp only
  rw [List.length_append]
  omega
theorem tle.refl : tle X X := ⟨fun _ h => h, fun _ h => h, Nat.le_refl _⟩
theorem tle.trans (h1 : tle X Y) (h2 : tle Y Z) : tle X Z := ⟨fun s h => h2.1 s (h1.1 s h), fun s h => h2.2.1 s (h1.2.1 s h), Nat.le_trans h1.2.2 h2.2.2⟩
theorem tle_l : tle X (tta X Y) := ⟨fun _ h => List.mem_append_left _ h, fun _ h => List.mem_append_left _ h, Nat.le_add_right _ _⟩
theorem tle_r : tle Y (tta X Y) := ⟨fun _ h => List.mem_append_right _ h, fun _ h => List.mem_append_right _ h, Nat.le_add_left _ _⟩
theorem tle_0 : tle tt0 X := ⟨fun _ h => (by cases h), fun _ h => (by cases h), Nat.zero_le _⟩
theorem ps_cur {m : Nat} {t : List Int} : cur (ps m t) = t := rfl
theorem itE_lt {x : Ent} (h : itE a = some x) : x.2.2.length < (cur a).length := by
  unfold itE at h
  split at h
  · cases h
  · split at h
    · split at h
      · rename_i d
        have h8 : 8 ≤ (cur a).length := by
          rcases dSub_c (a := a) with ⟨y, -⟩ | ⟨y, -⟩ | ⟨y, -⟩ | y | ⟨y, -⟩ | ⟨y, -⟩ | ⟨y, -⟩ | ⟨y, z⟩ | ⟨y, -⟩ | y <;> try omega
          have := mt_at (by decide) (Nat.zero_le _) z
          have e8 : [60, 33, 69, 78, 84, 73, 84, 89].length = 8 := rfl
          omega
        obtain ⟨k, h1, h2, h3, h4, h5⟩ := enS_at h8 h
        omega
      · cases h
    · cases h
theorem al_fuel : ∀ (n n' m : Nat) (t : List Int), t.length ≤ n → t.length ≤ n' → al n m t = al n' m t := by
  intro n
  induction n with
  | zero =>
    intro n' m t h1 h2
    have : t = [] := List.length_eq_zero_iff.mp (by omega)
    subst this
    cases n' <;> rfl
  | succ n ih =>
    intro n' m t h1 h2
    by_cases ht : t = []
    · subst ht; cases n' <;> rfl
    · cases n' with
      | zero => exact absurd (List.length_eq_zero_iff.mp (by omega)) ht
      | succ n' =>
        unfold al
        rw [if_neg ht, if_neg ht]
        have hw := itm_W (a := ps m t) ht
        have e1 : (match itE (ps m t) with
          | none => tt0
          | some x => al n (md x.2.1) x.2.2) = (match itE (ps m t) with
          | none => tt0
          | some x => al n' (md x.2.1) x.2.2) := by
          cases hE : itE (ps m t) with
          | none => rfl
          | some x =>
            have := itE_lt hE
            rw [ps_cur] at this
            exact ih n' _ _ (by omega) (by omega)
        have e2 : (match itK (ps m t) with
          | none => tt0
          | some k => al n m (t.drop k)) = (match itK (ps m t) with
          | none => tt0
          | some k => al n' m (t.drop k)) := by
          cases hK : itK (ps m t) with
          | none => rfl
          | some k =>
            have := iw_k hw hK
            have hl : (t.drop k).length = t.length - k := List.length_drop
            exact ih n' _ _ (by rw [hl]; omega) (by rw [hl]; omega)
        rw [e1, e2]
theorem al_W : ∀ (n m : Nat) (t : List Int), tw1 (al n m t) ≤ t.length ∧ tw2 (al n m t) ≤ t.length := by
  intro n
  induction n with
  | zero => intro m t; exact ⟨Nat.zero_le _, Nat.zero_le _⟩
  | succ n ih =>
    intro m t
    unfold al
    by_cases ht : t = []
    · rw [if_pos ht]; exact ⟨Nat.zero_le _, Nat.zero_le _⟩
    · rw [if_neg ht, tw1_a, tw1_a, tw2_a, tw2_a]
      obtain ⟨w1, w2, w3⟩ := itm_W (a := ps m t) ht
      rw [ps_cur] at w1 w2
      have k1 : tw1 (tk (ps m t)) = Wn (tkN (ps m t)) := rfl
      have k2 : tw2 (tk (ps m t)) = 8 * (tkP (ps m t)).length + 5 * tkG (ps m t) := rfl
      rw [k1, k2]
      have hE : tw1 (match itE (ps m t) with
          | none => tt0
          | some x => al n (md x.2.1) x.2.2) ≤ exl (itE (ps m t)) ∧ tw2 (match itE (ps m t) with
          | none => tt0
          | some x => al n (md x.2.1) x.2.2) ≤ exl (itE (ps m t)) := by
        cases itE (ps m t) with
        | none => exact ⟨Nat.zero_le _, Nat.zero_le _⟩
        | some x => exact ih _ _
      cases hK : itK (ps m t) with
      | none =>
        obtain ⟨y1, y2, y3⟩ := w2 hK
        rw [y3] at hE ⊢
        have : exl none = 0 := rfl
        have z1 : tw1 tt0 = 0 := rfl
        have z2 : tw2 tt0 = 0 := rfl
        dsimp only at hE ⊢
        omega
      | some k =>
        obtain ⟨y0, y1, y2, y3⟩ := w1 k hK
        have := ih m (t.drop k)
        have hl : (t.drop k).length = t.length - k := List.length_drop
        rw [hl] at this
        dsimp only
        omega
/-- what an item has depends on little -/
theorem tk_eq {b : AS} (hc : cur a = cur b) (h4 : aN a 4 = aN b 4) (hp : aN a 4 = 1 ∨ aN a 4 = 2) (hF : (aF a).length = 1 ↔ (aF b).length = 1) : tk a = tk b ∧ itK a = itK b ∧ itE a = itE b := by
  have hF' : ((aF a).length = 1) = ((aF b).length = 1) := propext hF
  have d1 : dSub a = dSub b := by unfold dSub; rw [hc]; simp only [hF']
  have d2 : dCon a = dCon b := by unfold dCon; rw [hc]
  have n1 : nmP a = nmP b := by unfold nmP; rw [hc]
  have n2 : nmEl a = nmEl b := by unfold nmEl; rw [hc]
  have n3 : nmAs a = nmAs b := by unfold nmAs; rw [hc]
  have n4 : nmN a = nmN b := by unfold nmN; rw [hc]
  have n5 : nmTs a = nmTs b := by unfold nmTs; rw [hc]
  have n6 : prA a = prA b := by unfold prA; rw [hc]
  have n7 : tgn a = tgn b := by unfold tgn; rw [hc]
  refine ⟨?_, ?_, ?_⟩
  · have t1 : tkN a = tkN b := by
      unfold tkN
      rw [d1, d2, n1, n2, n3, n4, n5, hc, h4]
      split
      · rfl
      · split
        · rfl
        · split
          · rfl
          · omega
    have t2 : tkP a = tkP b := by unfold tkP; rw [d1, n6, hc, h4]
    have t3 : tkG a = tkG b := by
      unfold tkG
      rw [d2, n7, hc, h4]
      split
      · rfl
      · split
        · rfl
        · split
          · rfl
          · omega
    unfold tk
    rw [t1, t2, t3]
  · unfold itK
    rw [d1, d2, hc, h4]
    by_cases c : cur b = []
    · rw [if_pos c, if_pos c]
    · rw [if_neg c, if_neg c]
      rcases hp with hp | hp
      · rw [if_pos (show aN b 4 = 1 by omega), if_pos (show aN b 4 = 1 by omega)]
      · rw [if_neg (show ¬ aN b 4 = 1 by omega), if_neg (show ¬ aN b 4 = 1 by omega), if_pos (show aN b 4 = 2 by omega), if_pos (show aN b 4 = 2 by omega)]
  · unfold itE
    rw [d1, hc, h4]
theorem tk_ps (hF : 1 < (aF a).length) (hp : aN a 4 = 1 ∨ aN a 4 = 2) : tk a = tk (ps (aN a 4) (cur a)) ∧ itK a = itK (ps (aN a 4) (cur a)) ∧ itE a = itE (ps (aN a 4) (cur a)) :=
  tk_eq rfl rfl hp ⟨fun h => by omega, fun h => by exact absurd h (show ¬ (2 = 1) by decide)⟩
theorem al_step {m : Nat} {t : List Int} (ht : t ≠ []) : tle (tk (ps m t)) (al t.length m t) ∧ (∀ x, itE (ps m t) = some x → tle (al x.2.2.length (md x.2.1) x.2.2) (al t.length m t)) ∧ ∀ k, itK (ps m t) = some k → tle (al (t.drop k).length m (t.drop k)) (al t.length m t) := by
  have hl : 0 < t.length := List.length_pos_iff.mpr ht
  obtain ⟨n, hn⟩ : ∃ n, t.length = n + 1 := ⟨t.length - 1, by omega⟩
  have e0 : al t.length m t = tta (tk (ps m t)) (tta (match itE (ps m t) with
    | none => tt0
    | some x => al n (md x.2.1) x.2.2) (match itK (ps m t) with
    | none => tt0
    | some k => al n m (t.drop k))) := by
    rw [hn]
    conv => lhs; unfold al
    rw [if_neg ht]
  rw [e0]
  refine ⟨tle_l, fun x hx => ?_, fun k hk => ?_⟩
  · have h1 := itE_lt hx
    rw [ps_cur] at h1
    rw [hx]
    refine tle.trans ?_ tle_r
    dsimp only
    rw [al_fuel x.2.2.length n (md x.2.1) x.2.2 (Nat.le_refl _) (by omega)]
    exact tle_l
  · have h1 := iw_k (itm_W (a := ps m t) ht) hk
    have hd : (t.drop k).length = t.length - k := List.length_drop
    rw [hk]
    refine tle.trans ?_ tle_r
    dsimp only
    rw [al_fuel (t.drop k).length n m (t.drop k) (Nat.le_refl _) (by rw [hd]; omega)]
    exact tle_r
/-- what is left of the text itself -/
def bsr (a : AS) : Nat := ((aF a).getLastD ([], 0, 0)).1.length
def GT (a : AS) (X : TT) : Prop := (tw1 X + bsr a ≤ aN a 8 ∧ tw2 X + bsr a ≤ aN a 8) ∧ (∀ x ∈ aE a, tle (al x.2.2.length (md x.2.1) x.2.2) X) ∧ ∀ f ∈ (aF a).dropLast, tle (al f.1.length (aN a 4) f.1) X
theorem stp_ph (hG : GI rm nd a) (hs : stp rm nd a = .inr a') (hc : cur a ≠ []) (hl : 1 < (aF a).length) : aN a' 4 = aN a 4 := by
  obtain ⟨q, t, hF⟩ : ∃ q t, aF a = (cur a, q) :: t := by
    cases hF : aF a with
    | nil => rw [hF] at hl; exact absurd hl (by decide)
    | cons f t => exact ⟨f.2, t, by unfold cur; rw [hF]⟩
  obtain ⟨k, -, hk, -⟩ := stp_frm hs hc hF
  have hl' : 1 < (aF a').length := by
    rw [hF] at hl
    rcases hk with hk | ⟨i, -, hk, -⟩
    · rw [hk]; exact hl
    · rw [hk, List.length_cons]; rw [List.length_cons] at hl ⊢; omega
  obtain ⟨⟨-, -, -, -, -, ⟨p1, p2, -, -⟩, -, -, p3, -, p4, -⟩, -, -⟩ := id hG
  obtain ⟨⟨-, -, -, -, -, ⟨q1, q2, -, -⟩, q6, -, q3, -, q4, -⟩, -, -⟩ := (stk a a' hG hs).1
  have hph := p4 hl
  have hph' := q4 hl'
  rcases hph with h1 | h2
  · rcases hph' with y | y
    · omega
    · exfalso
      have hO := q2.mp y
      have hL : aL a = [] := p3 (by omega)
      have key : (aL a').map e5 = (aL a).map e5 := by
        have h0 : stp rm nd a = iSub rm nd a := by unfold stp; rw [if_neg hc, if_pos h1]
        rw [h0, iSub_d] at hs
        rcases dSub_c (a := a) with ⟨d, h⟩ | ⟨d, h⟩ | ⟨d, h⟩ | d | ⟨d, h⟩ | ⟨d, h⟩ | ⟨d, h⟩ | ⟨d, h⟩ | ⟨d, h⟩ | d <;> rw [d] at hs
        · exact (pH_spc hs).1
        · exact (pH_prf hs).1
        · exact (pH_sbe hs).1
        · exact (pH_cmt hs).1
        · exact (pH_pin (cn := false) hs).1
        · have hs' : iEld a = .inr a' := hs
          unfold iEld at hs'
          split at hs'
          · split at hs'
            · split at hs'
              · cases hs'
              · cases hs'
                rw [(adv_other (a := sD a _)).2.2.2.2.2.2.1]; rfl
            · cases hs'
          · cases hs'
        · have hs' : iAtl rm a = .inr a' := hs
          unfold iAtl at hs'
          split at hs'
          · split at hs'
            · split at hs'
              · cases hs'
              · cases hs'
                rw [(adv_other (a := sN (sN (sA a _) 0 _) 1 _)).2.2.2.2.2.2.1]; rfl
            · cases hs'
          · cases hs'
        · exact (pH_ent hs).1
        · exact (pH_not hs).1
        · cases hs
      rw [hL] at key
      have hL' : aL a' = [] := List.map_eq_nil_iff.mp key
      cases hO' : aO a' with
      | nil => exact hO hO'
      | cons e r =>
        rw [hO', hL'] at q6
        exact absurd q6.1 (Nat.not_lt_zero _)
  · rcases hph' with y | y
    · exfalso
      have hL' := q3 (by omega)
      have hO := p2.mp h2
      have hLl : (aL a).length ≤ (aL a').length := by
        rcases stp_tre hs with ⟨z, -⟩ | ⟨nm, gv, z, -⟩
        · have := congrArg List.length z
          rw [List.length_map, List.length_map] at this
          omega
        · have := congrArg List.length z
          rw [List.length_append, List.length_map, List.length_map] at this
          omega
      rw [hL', List.length_nil] at hLl
      cases hO' : aO a with
      | nil => exact hO hO'
      | cons e r =>
        obtain ⟨⟨-, -, -, -, -, -, p6, -⟩, -, -⟩ := id hG
        rw [hO'] at p6
        have := p6.1
        omega
    · omega
end Kw7
