/-! ===== attribute declarations: how they are written ===== -/
/-- names or tokens between | up to the bracket, from behind ( or | on: behind the bracket -/
def brk (T : Nat → Int) (e : Nat) (b : Bool) : Nat → Nat → Option Nat
  | 0, _ => none
  | m + 1, k => match nmg T e b (asp T e (some k)) with
    | none => none
    | some j => if mt T e (sk isSp T e j) [124] = true then brk T e b m (sk isSp T e j + 1) else wd T e [41] (some (sk isSp T e j))
/-- where they begin and end -/
def brL (T : Nat → Int) (e : Nat) (b : Bool) : Nat → Nat → List (Nat × Nat)
  | 0, _ => []
  | m + 1, k => match nmg T e b (asp T e (some k)) with
    | none => []
    | some j => (sk isSp T e k, j) :: (if mt T e (sk isSp T e j) [124] = true then brL T e b m (sk isSp T e j + 1) else [])
theorem brk_fuel {T : Nat → Int} {e : Nat} {b : Bool} : ∀ (n m k : Nat), k ≤ e → e < n + k → e < m + k → brk T e b n k = brk T e b m k := by
  intro n
  induction n with
  | zero => intro m k h0 h1 h2; omega
  | succ n ih =>
    intro m k h0 h1 h2
    cases m with
    | zero => omega
    | succ m =>
      show (match nmg T e b (asp T e (some k)) with
        | none => none
        | some j => if mt T e (sk isSp T e j) [124] = true then brk T e b n (sk isSp T e j + 1) else wd T e [41] (some (sk isSp T e j))) = (match nmg T e b (asp T e (some k)) with
        | none => none
        | some j => if mt T e (sk isSp T e j) [124] = true then brk T e b m (sk isSp T e j + 1) else wd T e [41] (some (sk isSp T e j)))
      cases hn : nmg T e b (asp T e (some k)) with
      | none => rfl
      | some j =>
        dsimp only
        have g0 := sk_le (p := isSp) (T := T) h0
        have g1 := nmg_lt (i := sk isSp T e k) hn
        have g2 := sk_le (p := isSp) (T := T) g1.2.2
        by_cases c : mt T e (sk isSp T e j) [124] = true
        · rw [if_pos c, if_pos c]
          have g3 := wd_bad (l := [124]) ti_1039 (by decide) c
          have g4 : [(124 : Int)].length = 1 := rfl
          exact ih m _ (by omega) (by omega) (by omega)
        · rw [if_neg c, if_neg c]
theorem brk_step {T : Nat → Int} {e : Nat} {b : Bool} {k : Nat} (h0 : k ≤ e) : brk T e b (e + 1) k = match nmg T e b (asp T e (some k)) with
    | none => none
    | some j => if mt T e (sk isSp T e j) [124] = true then brk T e b (e + 1) (sk isSp T e j + 1) else wd T e [41] (some (sk isSp T e j)) := by
  show (match nmg T e b (asp T e (some k)) with
    | none => none
    | some j => if mt T e (sk isSp T e j) [124] = true then brk T e b e (sk isSp T e j + 1) else wd T e [41] (some (sk isSp T e j))) = _
  cases hn : nmg T e b (asp T e (some k)) with
  | none => rfl
  | some j =>
    dsimp only
    have g0 := sk_le (p := isSp) (T := T) h0
    have g1 := nmg_lt (i := sk isSp T e k) hn
    have g2 := sk_le (p := isSp) (T := T) g1.2.2
    by_cases c : mt T e (sk isSp T e j) [124] = true
    · rw [if_pos c, if_pos c]
      have g3 := wd_bad (l := [124]) ti_1039 (by decide) c
      have g4 : [(124 : Int)].length = 1 := rfl
      exact brk_fuel e (e + 1) _ (by omega) (by omega) (by omega)
    · rw [if_neg c, if_neg c]
theorem brk_le {T : Nat → Int} {e : Nat} {b : Bool} : ∀ (n k z : Nat), k ≤ e → brk T e b n k = some z → k + 1 < z ∧ z ≤ e := by
  intro n
  induction n with
  | zero => intro k z _ h; cases h
  | succ n ih =>
    intro k z h0 h
    have h' : (match nmg T e b (asp T e (some k)) with
      | none => none
      | some j => if mt T e (sk isSp T e j) [124] = true then brk T e b n (sk isSp T e j + 1) else wd T e [41] (some (sk isSp T e j))) = some z := h
    cases hn : nmg T e b (asp T e (some k)) with
    | none => rw [hn] at h'; cases h'
    | some j =>
      rw [hn] at h'
      dsimp only at h'
      have g0 := sk_le (p := isSp) (T := T) h0
      have g1 := nmg_lt (i := sk isSp T e k) hn
      have g2 := sk_le (p := isSp) (T := T) g1.2.2
      by_cases c : mt T e (sk isSp T e j) [124] = true
      · rw [if_pos c] at h'
        have g3 := wd_bad (l := [124]) ti_1039 (by decide) c
        have g4 : [(124 : Int)].length = 1 := rfl
        have := ih _ z (by omega) h'
        omega
      · rw [if_neg c] at h'
        have g3 := wd1 (by decide) h'
        omega
/-- a bracketed list -/
def brt (T : Nat → Int) (e : Nat) (b : Bool) (o : Option Nat) : Option Nat := (wd T e [40] o).bind (brk T e b (e + 1))
theorem brt_gt {T : Nat → Int} {e : Nat} {b : Bool} {i z : Nat} (h : brt T e b (some i) = some z) : i + 2 < z ∧ z ≤ e := by
  unfold brt at h
  cases hw : wd T e [40] (some i) with
  | none => rw [hw] at h; cases h
  | some w =>
    rw [hw, Option.bind_some] at h
    have g := wd1 (by decide) hw
    have := brk_le _ _ _ (show w ≤ e by omega) h
    omega
def tyT : List (List Int) := [[67, 68, 65, 84, 65], [73, 68], [73, 68, 82, 69, 70], [73, 68, 82, 69, 70, 83], [69, 78, 84, 73, 84, 89], [69, 78, 84, 73, 84, 73, 69, 83], [78, 77, 84, 79, 75, 69, 78], [78, 77, 84, 79, 75, 69, 78, 83], [78, 79, 84, 65, 84, 73, 79, 78]]
/-- a type's number, by its word -/
def tyn (l : List Int) : Option Nat := tyT.findIdx? (fun w => w == l)
/-- behind a type -/
def typ (T : Nat → Int) (e i : Nat) : Option Nat := if lk T e i = 40 then brt T e false (some i) else match nmg T e true (some i) with
  | none => none
  | some n => match tyn (sl T i (n - i)) with
    | none => none
    | some t => if t = 8 then brt T e true (spc T e (some n)) else some n
/-- what type it is -/
def atyN (T : Nat → Int) (e i : Nat) : Nat := if lk T e i = 40 then 9 else match nmg T e true (some i) with
  | none => 0
  | some n => (tyn (sl T i (n - i))).getD 0
/-- the list of a type -/
def atyL (T : Nat → Int) (e i : Nat) : List (Nat × Nat) := if lk T e i = 40 then brL T e false (e + 1) (i + 1) else match nmg T e true (some i) with
  | none => []
  | some n => match tyn (sl T i (n - i)) with
    | none => []
    | some t => if t = 8 then (match spc T e (some n) with
      | none => []
      | some x => brL T e true (e + 1) (x + 1)) else []
theorem typ_gt {T : Nat → Int} {e i z : Nat} (h : typ T e i = some z) : i < z ∧ z ≤ e := by
  unfold typ at h
  split at h
  · have := brt_gt h; omega
  · split at h
    · cases h
    · rename_i n hn
      have g := nmg_lt hn
      split at h
      · cases h
      · split at h
        · cases hs : spc T e (some n) with
          | none => rw [hs] at h; cases h
          | some x =>
            rw [hs] at h
            have g1 := spc_gt g.2.2 hs
            have := brt_gt h
            omega
        · cases h; omega
/-- a default: which kind (1 required, 2 implied, 3 fixed, 4 given), where its value begins -/
def dfK (T : Nat → Int) (e i : Nat) : Nat := if mt T e i [35, 82, 69, 81, 85, 73, 82, 69, 68] = true then 1 else if mt T e i [35, 73, 77, 80, 76, 73, 69, 68] = true then 2 else if mt T e i [35, 70, 73, 88, 69, 68] = true then 3 else 4
def dfV (T : Nat → Int) (e i : Nat) : Option Nat := if dfK T e i = 4 then some i else if dfK T e i = 3 then spc T e (some (i + 6)) else none
def dft (T : Nat → Int) (e i : Nat) : Option Nat := if dfK T e i = 1 then some (i + 9) else if dfK T e i = 2 then some (i + 8) else vlp T e (dfV T e i)
theorem dft_gt {T : Nat → Int} {e i z : Nat} (h : dft T e i = some z) : i + 1 < z ∧ z ≤ e := by
  unfold dft at h
  split at h
  · rename_i c
    unfold dfK at c
    split at c
    · rename_i c1
      have := wd_bad (l := [35, 82, 69, 81, 85, 73, 82, 69, 68]) ti_1042 (by decide) c1
      have g : [(35 : Int), 82, 69, 81, 85, 73, 82, 69, 68].length = 9 := rfl
      cases h
      omega
    · split at c <;> (try split at c) <;> omega
  · split at h
    · rename_i c
      unfold dfK at c
      split at c
      · omega
      · split at c
        · rename_i c1
          have := wd_bad (l := [35, 73, 77, 80, 76, 73, 69, 68]) ti_1043 (by decide) c1
          have g : [(35 : Int), 73, 77, 80, 76, 73, 69, 68].length = 8 := rfl
          cases h
          omega
        · split at c <;> omega
    · cases hd : dfV T e i with
      | none => rw [hd] at h; cases h
      | some v =>
        rw [hd] at h
        have g := vlp_gt h
        unfold dfV at hd
        split at hd
        · cases hd; omega
        · split at hd
          · rename_i c
            have c3 : mt T e i [35, 70, 73, 88, 69, 68] = true := by
              unfold dfK at c
              split at c
              · omega
              · split at c
                · omega
                · split at c
                  · assumption
                  · omega
            have := wd_bad (l := [35, 70, 73, 88, 69, 68]) ti_1044 (by decide) c3
            have g6 : [(35 : Int), 70, 73, 88, 69, 68].length = 6 := rfl
            have := spc_gt (show i + 6 ≤ e by omega) hd
            omega
          · cases hd
/-- a definition that begins at the name x -/
def dfn (T : Nat → Int) (e x : Nat) : Option Nat := match spc T e (nmg T e true (some x)) with
  | none => none
  | some y => match spc T e (typ T e y) with
    | none => none
    | some w => dft T e w
theorem dfn_gt {T : Nat → Int} {e x z : Nat} (h : dfn T e x = some z) : x + 5 < z ∧ z ≤ e := by
  unfold dfn at h
  cases hn : nmg T e true (some x) with
  | none => rw [hn] at h; cases h
  | some n =>
    rw [hn] at h
    have g1 := nmg_lt hn
    cases hs : spc T e (some n) with
    | none => rw [hs] at h; cases h
    | some y =>
      rw [hs] at h
      dsimp only at h
      have g2 := spc_gt g1.2.2 hs
      cases ht : typ T e y with
      | none => rw [ht] at h; cases h
      | some t =>
        rw [ht] at h
        have g3 := typ_gt ht
        cases hs2 : spc T e (some t) with
        | none => rw [hs2] at h; cases h
        | some w =>
          rw [hs2] at h
          dsimp only at h
          have g4 := spc_gt g3.2 hs2
          have g5 := dft_gt h
          omega
/-- behind the last definition -/
def adk (T : Nat → Int) (e : Nat) : Nat → Nat → Option Nat
  | 0, _ => none
  | m + 1, k => match spc T e (some k) with
    | none => some k
    | some x => match nmg T e true (some x) with
      | none => some k
      | some _ => match dfn T e x with
        | none => none
        | some j => adk T e m j
/-- where the definitions begin -/
def adL (T : Nat → Int) (e : Nat) : Nat → Nat → List Nat
  | 0, _ => []
  | m + 1, k => match spc T e (some k) with
    | none => []
    | some x => match nmg T e true (some x) with
      | none => []
      | some _ => match dfn T e x with
        | none => []
        | some j => x :: adL T e m j
theorem adk_fuel {T : Nat → Int} {e : Nat} : ∀ (n m k : Nat), k ≤ e → e < n + k → e < m + k → adk T e n k = adk T e m k := by
  intro n
  induction n with
  | zero => intro m k h0 h1 h2; omega
  | succ n ih =>
    intro m k h0 h1 h2
    cases m with
    | zero => omega
    | succ m =>
      show (match spc T e (some k) with
        | none => some k
        | some x => match nmg T e true (some x) with
          | none => some k
          | some _ => match dfn T e x with
            | none => none
            | some j => adk T e n j) = (match spc T e (some k) with
        | none => some k
        | some x => match nmg T e true (some x) with
          | none => some k
          | some _ => match dfn T e x with
            | none => none
            | some j => adk T e m j)
      cases hs : spc T e (some k) with
      | none => rfl
      | some x =>
        dsimp only
        have g1 := spc_gt h0 hs
        cases hn : nmg T e true (some x) with
        | none => rfl
        | some b =>
          dsimp only
          cases hv : dfn T e x with
          | none => rfl
          | some j =>
            dsimp only
            have g3 := dfn_gt hv
            exact ih m j g3.2 (by omega) (by omega)
theorem adk_step {T : Nat → Int} {e k : Nat} (hk : k ≤ e) : adk T e (e + 1) k = match spc T e (some k) with
    | none => some k
    | some x => match nmg T e true (some x) with
      | none => some k
      | some _ => match dfn T e x with
        | none => none
        | some j => adk T e (e + 1) j := by
  show (match spc T e (some k) with
    | none => some k
    | some x => match nmg T e true (some x) with
      | none => some k
      | some _ => match dfn T e x with
        | none => none
        | some j => adk T e e j) = _
  cases hs : spc T e (some k) with
  | none => rfl
  | some x =>
    dsimp only
    have g1 := spc_gt hk hs
    cases hn : nmg T e true (some x) with
    | none => rfl
    | some b =>
      dsimp only
      cases hv : dfn T e x with
      | none => rfl
      | some j =>
        dsimp only
        have g3 := dfn_gt hv
        exact adk_fuel e (e + 1) j g3.2 (by omega) (by omega)
theorem adk_le {T : Nat → Int} {e : Nat} : ∀ (n k z : Nat), k ≤ e → adk T e n k = some z → k ≤ z ∧ z ≤ e := by
  intro n
  induction n with
  | zero => intro k z _ h; cases h
  | succ n ih =>
    intro k z hk h
    have h' : (match spc T e (some k) with
      | none => some k
      | some x => match nmg T e true (some x) with
        | none => some k
        | some _ => match dfn T e x with
          | none => none
          | some j => adk T e n j) = some z := h
    cases hs : spc T e (some k) with
    | none => rw [hs] at h'; cases h'; exact ⟨Nat.le_refl _, hk⟩
    | some x =>
      rw [hs] at h'
      dsimp only at h'
      have g1 := spc_gt hk hs
      cases hn : nmg T e true (some x) with
      | none => rw [hn] at h'; cases h'; exact ⟨Nat.le_refl _, hk⟩
      | some b =>
        rw [hn] at h'
        dsimp only at h'
        cases hv : dfn T e x with
        | none => rw [hv] at h'; cases h'
        | some j =>
          rw [hv] at h'
          dsimp only at h'
          have g3 := dfn_gt hv
          have := ih j z g3.2 h'
          omega
/-- behind the declaration of attributes that begins at p -/
def alk (T : Nat → Int) (e p : Nat) : Option Nat := wd T e [62] (asp T e ((nmg T e true (spc T e (some (p + 9)))).bind (adk T e (e + 1))))
