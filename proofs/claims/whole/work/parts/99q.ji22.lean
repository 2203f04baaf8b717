/-! ===== items of the class: how long a definition is ===== -/
section JI22
variable {T : Nat → Int} {e : Nat}
theorem brL_len {b : Bool} : ∀ (n k z : Nat), k ≤ e → brk T e b n k = some z → 2 * (brL T e b n k).length + k ≤ z := by
  intro n
  induction n with
  | zero => intro k z _ h; cases h
  | succ n ih =>
    intro k z h0 h
    have h' : (match nmg T e b (asp T e (some k)) with
      | none => none
      | some j => if mt T e (sk isSp T e j) [124] = true then brk T e b n (sk isSp T e j + 1) else wd T e [41] (some (sk isSp T e j))) = some z := h
    have hL : brL T e b (n + 1) k = (match nmg T e b (asp T e (some k)) with
      | none => []
      | some j => (sk isSp T e k, j) :: (if mt T e (sk isSp T e j) [124] = true then brL T e b n (sk isSp T e j + 1) else [])) := rfl
    cases hn : nmg T e b (asp T e (some k)) with
    | none => rw [hn] at h'; cases h'
    | some j =>
      rw [hn] at h' hL
      dsimp only at h' hL
      rw [hL, List.length_cons]
      have g0 := sk_le (p := isSp) (T := T) h0
      have g1 := nmg_lt (i := sk isSp T e k) hn
      have g2 := sk_le (p := isSp) (T := T) g1.2.2
      by_cases c : mt T e (sk isSp T e j) [124] = true
      · rw [if_pos c] at h' ⊢
        have g3 := wd_bad (l := [124]) ti_1039 (by decide) c
        have g4 : [(124 : Int)].length = 1 := rfl
        have := ih _ z (by omega) h'
        omega
      · rw [if_neg c] at h' ⊢
        have := wd1 (by decide) h'
        rw [List.length_nil]
        omega
theorem tyn_len {l : List Int} {t : Nat} (h : tyn l = some t) : 2 ≤ l.length := by
  obtain ⟨h1, h2⟩ := tyn_some h
  rw [← h2]
  have : ∀ t, t < 9 → 2 ≤ (tyT.getD t []).length := by decide
  exact this t h1
theorem typ_len {i z : Nat} (hi : i ≤ e) (h : typ T e i = some z) : 2 * (atyL T e i).length + i + 1 ≤ z ∧ i + 2 ≤ z ∧ z ≤ e := by
  have hbr : ∀ (b : Bool) (y w : Nat), brt T e b (some y) = some w → 2 * (brL T e b (e + 1) (y + 1)).length + y + 1 ≤ w ∧ y + 2 ≤ w ∧ w ≤ e := by
    intro b y w hb
    have hg := brt_gt hb
    unfold brt at hb
    cases hw : wd T e [40] (some y) with
    | none => rw [hw] at hb; cases hb
    | some x =>
      rw [hw, Option.bind_some] at hb
      have g := wd1 (by decide) hw
      rw [g.1] at hb
      have := brL_len _ _ _ (show y + 1 ≤ e by omega) hb
      omega
  unfold typ at h
  unfold atyL
  by_cases c : lk T e i = 40
  · rw [if_pos c] at h ⊢
    exact hbr false i z h
  · rw [if_neg c] at h ⊢
    cases hn : nmg T e true (some i) with
    | none => rw [hn] at h; cases h
    | some n =>
      rw [hn] at h
      dsimp only at h ⊢
      have g := nmg_lt hn
      cases ht : tyn (sl T i (n - i)) with
      | none => rw [ht] at h; cases h
      | some t =>
        rw [ht] at h
        dsimp only at h ⊢
        have hl := tyn_len ht
        rw [sl_len2] at hl
        by_cases c8 : t = 8
        · rw [if_pos c8] at h ⊢
          cases hs : spc T e (some n) with
          | none => rw [hs] at h; cases h
          | some x =>
            rw [hs] at h
            dsimp only
            have g1 := spc_gt g.2.2 hs
            have := hbr true x z h
            omega
        · rw [if_neg c8] at h ⊢
          cases h
          rw [List.length_nil]
          omega
/-- a definition from x on: its name ends at b, its type begins at y and ends at w0, its default begins at w -/
theorem dfn_len {x j : Nat} (h : dfn T e x = some j) : ∃ b y w0 w, nmg T e true (some x) = some b ∧ spc T e (some b) = some y ∧ typ T e y = some w0 ∧ spc T e (some w0) = some w ∧ dft T e w = some j ∧ x < b ∧ b < y ∧ 2 * (atyL T e y).length + y + 1 ≤ w0 ∧ y + 2 ≤ w0 ∧ w0 < w ∧ w + 2 ≤ j ∧ j ≤ e := by
  unfold dfn at h
  cases hn : nmg T e true (some x) with
  | none => rw [hn] at h; cases h
  | some b =>
    rw [hn] at h
    have g := nmg_lt hn
    cases hs : spc T e (some b) with
    | none => rw [hs] at h; cases h
    | some y =>
      rw [hs] at h
      dsimp only at h
      have g1 := spc_gt g.2.2 hs
      cases ht : typ T e y with
      | none => rw [ht] at h; cases h
      | some w0 =>
        rw [ht] at h
        have g2 := typ_len (by omega) ht
        cases hw : spc T e (some w0) with
        | none => rw [hw] at h; cases h
        | some w =>
          rw [hw] at h
          dsimp only at h
          have g3 := spc_gt (by omega) hw
          have g4 := dft_gt h
          exact ⟨b, y, w0, w, rfl, hs, ht, hw, h, by omega, by omega, by omega, by omega, by omega, by omega, by omega⟩
end JI22
