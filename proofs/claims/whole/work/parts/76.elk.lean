/-! ===== element declarations: how they are written ===== -/
/-- from behind #PCDATA, or a name, on -/
def mxk (T : Nat → Int) (e : Nat) : Nat → Bool → Nat → Option Nat
  | 0, _, _ => none
  | m + 1, b, k => if mt T e (sk isSp T e k) [124] = true then (match nmg T e true (asp T e (some (sk isSp T e k + 1))) with
      | none => none
      | some j => mxk T e m true j) else (match wd T e [41] (some (sk isSp T e k)) with
      | none => none
      | some z => if mt T e z [42] = true then some (z + 1) else if b = true then none else some z)
/-- the names of a mixed group: where they begin and end -/
def mxL (T : Nat → Int) (e : Nat) : Nat → Nat → List (Nat × Nat)
  | 0, _ => []
  | m + 1, k => if mt T e (sk isSp T e k) [124] = true then (match nmg T e true (asp T e (some (sk isSp T e k + 1))) with
      | none => []
      | some j => (sk isSp T e (sk isSp T e k + 1), j) :: mxL T e m j) else []
theorem mxk_gt {T : Nat → Int} {e k j : Nat} (hk : k ≤ e) (c : mt T e (sk isSp T e k) [124] = true) (hn : nmg T e true (asp T e (some (sk isSp T e k + 1))) = some j) : k + 1 < j ∧ j ≤ e := by
  have g0 := sk_le (p := isSp) (T := T) hk
  have g3 := wd_bad (l := [124]) ti_1039 (by decide) c
  have g4 : [(124 : Int)].length = 1 := rfl
  have g5 := sk_le (p := isSp) (T := T) (show sk isSp T e k + 1 ≤ e by omega)
  have g1 := nmg_lt (i := sk isSp T e (sk isSp T e k + 1)) hn
  omega
theorem mxk_fuel {T : Nat → Int} {e : Nat} : ∀ (n m : Nat) (b : Bool) (k : Nat), k ≤ e → e < n + k → e < m + k → mxk T e n b k = mxk T e m b k := by
  intro n
  induction n with
  | zero => intro m b k h0 h1 h2; omega
  | succ n ih =>
    intro m b k h0 h1 h2
    cases m with
    | zero => omega
    | succ m =>
      show (if mt T e (sk isSp T e k) [124] = true then (match nmg T e true (asp T e (some (sk isSp T e k + 1))) with
        | none => none
        | some j => mxk T e n true j) else (match wd T e [41] (some (sk isSp T e k)) with
        | none => none
        | some z => if mt T e z [42] = true then some (z + 1) else if b = true then none else some z)) = (if mt T e (sk isSp T e k) [124] = true then (match nmg T e true (asp T e (some (sk isSp T e k + 1))) with
        | none => none
        | some j => mxk T e m true j) else (match wd T e [41] (some (sk isSp T e k)) with
        | none => none
        | some z => if mt T e z [42] = true then some (z + 1) else if b = true then none else some z))
      by_cases c : mt T e (sk isSp T e k) [124] = true
      · rw [if_pos c, if_pos c]
        cases hn : nmg T e true (asp T e (some (sk isSp T e k + 1))) with
        | none => rfl
        | some j =>
          have g := mxk_gt h0 c hn
          exact ih m true j g.2 (by omega) (by omega)
      · rw [if_neg c, if_neg c]
theorem mxk_step {T : Nat → Int} {e : Nat} {b : Bool} {k : Nat} (h0 : k ≤ e) : mxk T e (e + 1) b k = if mt T e (sk isSp T e k) [124] = true then (match nmg T e true (asp T e (some (sk isSp T e k + 1))) with
      | none => none
      | some j => mxk T e (e + 1) true j) else (match wd T e [41] (some (sk isSp T e k)) with
      | none => none
      | some z => if mt T e z [42] = true then some (z + 1) else if b = true then none else some z) := by
  show (if mt T e (sk isSp T e k) [124] = true then (match nmg T e true (asp T e (some (sk isSp T e k + 1))) with
    | none => none
    | some j => mxk T e e true j) else (match wd T e [41] (some (sk isSp T e k)) with
    | none => none
    | some z => if mt T e z [42] = true then some (z + 1) else if b = true then none else some z)) = _
  by_cases c : mt T e (sk isSp T e k) [124] = true
  · rw [if_pos c, if_pos c]
    cases hn : nmg T e true (asp T e (some (sk isSp T e k + 1))) with
    | none => rfl
    | some j =>
      have g := mxk_gt h0 c hn
      exact mxk_fuel e (e + 1) true j g.2 (by omega) (by omega)
  · rw [if_neg c, if_neg c]
theorem mxk_le {T : Nat → Int} {e : Nat} : ∀ (n : Nat) (b : Bool) (k z : Nat), k ≤ e → mxk T e n b k = some z → k < z ∧ z ≤ e := by
  intro n
  induction n with
  | zero => intro b k z _ h; cases h
  | succ n ih =>
    intro b k z h0 h
    have h' : (if mt T e (sk isSp T e k) [124] = true then (match nmg T e true (asp T e (some (sk isSp T e k + 1))) with
      | none => none
      | some j => mxk T e n true j) else (match wd T e [41] (some (sk isSp T e k)) with
      | none => none
      | some z => if mt T e z [42] = true then some (z + 1) else if b = true then none else some z)) = some z := h
    have g0 := sk_le (p := isSp) (T := T) h0
    by_cases c : mt T e (sk isSp T e k) [124] = true
    · rw [if_pos c] at h'
      cases hn : nmg T e true (asp T e (some (sk isSp T e k + 1))) with
      | none => rw [hn] at h'; cases h'
      | some j =>
        rw [hn] at h'
        have g := mxk_gt h0 c hn
        have := ih true j z g.2 h'
        omega
    · rw [if_neg c] at h'
      cases hw : wd T e [41] (some (sk isSp T e k)) with
      | none => rw [hw] at h'; cases h'
      | some w =>
        rw [hw] at h'
        dsimp only at h'
        have g3 := wd1 (by decide) hw
        split at h'
        · rename_i c2
          have g5 := wd_bad (l := [42]) ti_1041 (by decide) c2
          have g6 : [(42 : Int)].length = 1 := rfl
          cases h'
          omega
        · split at h'
          · cases h'
          · cases h'; omega
/-- how often -/
def oft (T : Nat → Int) (e k : Nat) : Nat := if lk T e k = 63 ∨ (lk T e k = 42 ∨ lk T e k = 43) then k + 1 else k
theorem oft_le {T : Nat → Int} {e k : Nat} (hk : k ≤ e) : k ≤ oft T e k ∧ oft T e k ≤ e := by
  unfold oft
  split
  · rename_i c
    have : k < e := by
      by_cases z : k < e
      · exact z
      · unfold lk at c
        rw [if_neg z] at c
        omega
    omega
  · omega
/-- a model from within its groups on (their separators, the innermost first): behind it, how many names, how deep -/
def mdk (T : Nat → Int) (e : Nat) : Nat → List Int → Bool → Nat → Nat → Nat → Option (Nat × Nat × Nat)
  | 0, _, _, _, _, _ => none
  | _ + 1, [], _, k, n, d => some (k, n, d)
  | m + 1, s :: st, due, k, n, d => if due = true then (if lk T e (sk isSp T e k) = 40 then mdk T e m (0 :: s :: st) true (sk isSp T e k + 1) n (if d < st.length + 2 then st.length + 2 else d) else (match nmg T e true (some (sk isSp T e k)) with
        | none => none
        | some j => mdk T e m (s :: st) false (oft T e j) (n + 1) d))
      else if lk T e (sk isSp T e k) = 41 then mdk T e m st false (oft T e (sk isSp T e k + 1)) n d
      else if (lk T e (sk isSp T e k) = 124 ∨ lk T e (sk isSp T e k) = 44) ∧ (s = 0 ∨ s = lk T e (sk isSp T e k)) then mdk T e m (lk T e (sk isSp T e k) :: st) true (sk isSp T e k + 1) n d
      else none
theorem mdk_fuel {T : Nat → Int} {e : Nat} : ∀ (N M : Nat) (st : List Int) (due : Bool) (k n d : Nat), k ≤ e → e + 1 < N + k → e + 1 < M + k → mdk T e N st due k n d = mdk T e M st due k n d := by
  intro N
  induction N with
  | zero => intro M st due k n d h0 h1 h2; omega
  | succ N ih =>
    intro M st due k n d h0 h1 h2
    cases M with
    | zero => omega
    | succ M =>
      cases st with
      | nil => rfl
      | cons s st =>
        have g0 := sk_le (p := isSp) (T := T) h0
        show (if due = true then (if lk T e (sk isSp T e k) = 40 then mdk T e N (0 :: s :: st) true (sk isSp T e k + 1) n (if d < st.length + 2 then st.length + 2 else d) else (match nmg T e true (some (sk isSp T e k)) with
            | none => none
            | some j => mdk T e N (s :: st) false (oft T e j) (n + 1) d))
          else if lk T e (sk isSp T e k) = 41 then mdk T e N st false (oft T e (sk isSp T e k + 1)) n d
          else if (lk T e (sk isSp T e k) = 124 ∨ lk T e (sk isSp T e k) = 44) ∧ (s = 0 ∨ s = lk T e (sk isSp T e k)) then mdk T e N (lk T e (sk isSp T e k) :: st) true (sk isSp T e k + 1) n d
          else none) = (if due = true then (if lk T e (sk isSp T e k) = 40 then mdk T e M (0 :: s :: st) true (sk isSp T e k + 1) n (if d < st.length + 2 then st.length + 2 else d) else (match nmg T e true (some (sk isSp T e k)) with
            | none => none
            | some j => mdk T e M (s :: st) false (oft T e j) (n + 1) d))
          else if lk T e (sk isSp T e k) = 41 then mdk T e M st false (oft T e (sk isSp T e k + 1)) n d
          else if (lk T e (sk isSp T e k) = 124 ∨ lk T e (sk isSp T e k) = 44) ∧ (s = 0 ∨ s = lk T e (sk isSp T e k)) then mdk T e M (lk T e (sk isSp T e k) :: st) true (sk isSp T e k + 1) n d
          else none)
        by_cases c1 : due = true
        · rw [if_pos c1, if_pos c1]
          by_cases c2 : lk T e (sk isSp T e k) = 40
          · rw [if_pos c2, if_pos c2]
            have g1 := (lk_lt (by decide) c2).1
            exact ih M _ _ _ _ _ (by omega) (by omega) (by omega)
          · rw [if_neg c2, if_neg c2]
            cases hn : nmg T e true (some (sk isSp T e k)) with
            | none => rfl
            | some j =>
              dsimp only
              have g1 := nmg_lt hn
              have g2 := oft_le (T := T) g1.2.2
              exact ih M _ _ _ _ _ (by omega) (by omega) (by omega)
        · rw [if_neg c1, if_neg c1]
          by_cases c2 : lk T e (sk isSp T e k) = 41
          · rw [if_pos c2, if_pos c2]
            have g1 := (lk_lt (by decide) c2).1
            have g2 := oft_le (T := T) (show sk isSp T e k + 1 ≤ e by omega)
            exact ih M _ _ _ _ _ (by omega) (by omega) (by omega)
          · rw [if_neg c2, if_neg c2]
            by_cases c3 : (lk T e (sk isSp T e k) = 124 ∨ lk T e (sk isSp T e k) = 44) ∧ (s = 0 ∨ s = lk T e (sk isSp T e k))
            · rw [if_pos c3, if_pos c3]
              have g1 : sk isSp T e k < e := by
                rcases c3.1 with c4 | c4
                · exact (lk_lt (by decide) c4).1
                · exact (lk_lt (by decide) c4).1
              exact ih M _ _ _ _ _ (by omega) (by omega) (by omega)
            · rw [if_neg c3, if_neg c3]
theorem mdk_le {T : Nat → Int} {e : Nat} : ∀ (N : Nat) (st : List Int) (due : Bool) (k n d : Nat) (r : Nat × Nat × Nat), k ≤ e → mdk T e N st due k n d = some r → k ≤ r.1 ∧ r.1 ≤ e ∧ n ≤ r.2.1 ∧ r.2.1 + k ≤ n + r.1 ∧ d ≤ r.2.2 := by
  intro N
  induction N with
  | zero => intro st due k n d r _ h; cases h
  | succ N ih =>
    intro st due k n d r h0 h
    cases st with
    | nil =>
      have h' : some (k, n, d) = some r := h
      cases h'
      exact ⟨Nat.le_refl _, h0, Nat.le_refl _, Nat.le_refl _, Nat.le_refl _⟩
    | cons s st =>
      have g0 := sk_le (p := isSp) (T := T) h0
      have h' : (if due = true then (if lk T e (sk isSp T e k) = 40 then mdk T e N (0 :: s :: st) true (sk isSp T e k + 1) n (if d < st.length + 2 then st.length + 2 else d) else (match nmg T e true (some (sk isSp T e k)) with
            | none => none
            | some j => mdk T e N (s :: st) false (oft T e j) (n + 1) d))
          else if lk T e (sk isSp T e k) = 41 then mdk T e N st false (oft T e (sk isSp T e k + 1)) n d
          else if (lk T e (sk isSp T e k) = 124 ∨ lk T e (sk isSp T e k) = 44) ∧ (s = 0 ∨ s = lk T e (sk isSp T e k)) then mdk T e N (lk T e (sk isSp T e k) :: st) true (sk isSp T e k + 1) n d
          else none) = some r := h
      by_cases c1 : due = true
      · rw [if_pos c1] at h'
        by_cases c2 : lk T e (sk isSp T e k) = 40
        · rw [if_pos c2] at h'
          have g1 := (lk_lt (by decide) c2).1
          have := ih _ _ _ _ _ r (by omega) h'
          split at this <;> omega
        · rw [if_neg c2] at h'
          cases hn : nmg T e true (some (sk isSp T e k)) with
          | none => rw [hn] at h'; cases h'
          | some j =>
            rw [hn] at h'
            dsimp only at h'
            have g1 := nmg_lt hn
            have g2 := oft_le (T := T) g1.2.2
            have := ih _ _ _ _ _ r (by omega) h'
            omega
      · rw [if_neg c1] at h'
        by_cases c2 : lk T e (sk isSp T e k) = 41
        · rw [if_pos c2] at h'
          have g1 := (lk_lt (by decide) c2).1
          have g2 := oft_le (T := T) (show sk isSp T e k + 1 ≤ e by omega)
          have := ih _ _ _ _ _ r (by omega) h'
          omega
        · rw [if_neg c2] at h'
          by_cases c3 : (lk T e (sk isSp T e k) = 124 ∨ lk T e (sk isSp T e k) = 44) ∧ (s = 0 ∨ s = lk T e (sk isSp T e k))
          · rw [if_pos c3] at h'
            have g1 : sk isSp T e k < e := by
              rcases c3.1 with c4 | c4
              · exact (lk_lt (by decide) c4).1
              · exact (lk_lt (by decide) c4).1
            have := ih _ _ _ _ _ r (by omega) h'
            omega
          · rw [if_neg c3] at h'
            cases h'
/-- which kind of content: 0 EMPTY, 1 ANY, 2 mixed, 3 model -/
def cnK (T : Nat → Int) (e c : Nat) : Nat := if mt T e c [69, 77, 80, 84, 89] = true then 0 else if mt T e c [65, 78, 89] = true then 1 else if mt T e (sk isSp T e (c + 1)) [35, 80, 67, 68, 65, 84, 65] = true then 2 else 3
/-- the model that begins at c -/
def mdl (T : Nat → Int) (e c : Nat) : Option (Nat × Nat × Nat) := if mt T e c [40] = true then mdk T e (e + 2) [0] true (c + 1) 0 1 else none
/-- behind the content that begins at c -/
def cnt (T : Nat → Int) (e c : Nat) : Option Nat := if cnK T e c = 0 then some (c + 5) else if cnK T e c = 1 then some (c + 3) else if cnK T e c = 2 then (if mt T e c [40] = true then mxk T e (e + 1) false (sk isSp T e (c + 1) + 7) else none) else (mdl T e c).map (fun r => r.1)
/-- where the content begins -/
def elc (T : Nat → Int) (e p : Nat) : Option Nat := spc T e (nmg T e true (spc T e (some (p + 9))))
/-- behind the declaration of an element that begins at p -/
def elk (T : Nat → Int) (e p : Nat) : Option Nat := wd T e [62] (asp T e ((elc T e p).bind (cnt T e)))
