/-! ===== an entity's text, how it is written ===== -/
theorem nm_st2 {c : Int} (h : isSt c = true) : isNm c = true := by rw [isNm_eq, h]; rfl
theorem nm_noq {c : Int} (h : isNm c = true) : c ≠ 34 ∧ c ≠ 39 ∧ c ≠ 60 := by
  refine ⟨?_, ?_, ?_⟩ <;> (intro z; rw [z] at h; exact absurd h (by decide))
theorem hex_noq {c : Int} (h : hexd c = true) : c ≠ 34 ∧ c ≠ 39 ∧ c ≠ 60 := by
  refine ⟨?_, ?_, ?_⟩ <;> (intro z; rw [z] at h; exact absurd h (by decide))
theorem nmg_all {T : Nat → Int} {e i j : Nat} {name : Bool} (h : nmg T e name (some i) = some j) : ∀ q, i ≤ q → q < j → isNm (T q) = true := by
  intro q h1 h2
  have hlt := nmg_lt h
  have h' : (if (if name = true then isSt (lk T e i) else isNm (lk T e i)) = true then some (sk isNm T e (i + 1)) else none) = some j := h
  by_cases hc : (if name = true then isSt (lk T e i) else isNm (lk T e i)) = true
  · rw [if_pos hc] at h'
    have ej := Option.some.inj h'
    have hl : lk T e i = T i := by unfold lk; rw [if_pos hlt.1]
    rw [hl] at hc
    by_cases eq : q = i
    · rw [eq]
      cases name
      · exact hc
      · exact nm_st2 hc
    · exact sk_all (p := isNm) (T := T) (e := e) (i := i + 1) q (by omega) (by omega)
  · rw [if_neg hc] at h'
    cases h'
/-- no quote and no < stands in a reference -/
theorem rfp_noq {T : Nat → Int} {e p j : Nat} (h : rfp T e (some p) = some j) : ∀ q, p ≤ q → q < j → T q ≠ 34 ∧ T q ≠ 39 ∧ T q ≠ 60 := by
  intro q h1 h2
  have hlt := rfp_lt h
  by_cases eq : q = p
  · rw [eq, hlt.2.2.2]
    decide
  · by_cases h35 : T (p + 1) = 35
    · by_cases eq1 : q = p + 1
      · rw [eq1, h35]
        decide
      · have key : ∀ hex : Bool, (hex = true ↔ T (p + 2) = 120) → T q ≠ 34 ∧ T q ≠ 39 ∧ T q ≠ 60 := by
          intro hex hh
          have hn := rfp_num h h35 hex hh _ rfl
          by_cases eq2 : q = j - 1
          · rw [eq2, hn.2.2.1]
            decide
          · by_cases hq : q < (if hex = true then p + 3 else p + 2)
            · cases hex with
              | false => rw [if_neg (by decide)] at hq; omega
              | true =>
                rw [if_pos rfl] at hq
                rw [show q = p + 2 by omega, hh.mp rfl]
                decide
            · have := sk_all (p := hxP hex) (T := T) (e := e) (i := if hex = true then p + 3 else p + 2) q (by omega) (by rw [hn.2.2.2]; omega)
              unfold hxP at this
              cases hex
              · exact hex_noq (dg_hex this)
              · exact hex_noq this
        by_cases hx : T (p + 2) = 120
        · exact key true ⟨fun _ => hx, fun _ => rfl⟩
        · exact key false ⟨fun z => Bool.noConfusion z, fun z => absurd z hx⟩
    · have hn := rfp_nam h h35
      by_cases eq2 : q = j - 1
      · rw [eq2, hn.2.1]
        decide
      · exact nm_noq (nmg_all hn.1 q (by omega) (by omega))
/-- '%' name ';' -/
def pcp (T : Nat → Int) (e k : Nat) : Option Nat := wd T e [59] (nmg T e true (some (k + 1)))
theorem pcp_lt {T : Nat → Int} {e k j : Nat} (h : pcp T e k = some j) : k + 2 < j ∧ j ≤ e ∧ ∀ q, k < q → q < j → T q ≠ 34 ∧ T q ≠ 39 ∧ T q ≠ 60 := by
  unfold pcp at h
  cases hn : nmg T e true (some (k + 1)) with
  | none => rw [hn] at h; cases h
  | some m =>
    rw [hn] at h
    have g := wd1 (by decide) h
    have hl := nmg_lt hn
    refine ⟨by omega, by omega, fun q h1 h2 => ?_⟩
    by_cases eq : q = m
    · rw [eq, g.2.2]
      decide
    · exact nm_noq (nmg_all hn q (by omega) (by omega))
def etg (T : Nat → Int) (e : Nat) (q : Int) : Nat → Nat → Option Nat
  | 0, _ => none
  | n + 1, k => if k < e then (if T k = q then some (k + 1) else if T k = 38 then (match rfp T e (some k) with
      | none => none
      | some j => etg T e q n j) else if T k = 37 then (match pcp T e k with
      | none => none
      | some j => etg T e q n j) else etg T e q n (k + 1)) else none
def etx (T : Nat → Int) (e : Nat) (o : Option Nat) : Option Nat := match o with
  | none => none
  | some i => if isQt (lk T e i) = true then etg T e (T i) (e + 1) (i + 1) else none
theorem etg_fuel {T : Nat → Int} {e : Nat} {q : Int} : ∀ (n m k : Nat), e < n + k → e < m + k → etg T e q n k = etg T e q m k := by
  intro n
  induction n with
  | zero =>
    intro m k h1 h2
    cases m with
    | zero => rfl
    | succ m =>
      show none = (if k < e then _ else none)
      rw [if_neg (by omega)]
  | succ n ih =>
    intro m k h1 h2
    cases m with
    | zero =>
      show (if k < e then _ else none) = none
      rw [if_neg (by omega)]
    | succ m =>
      show (if k < e then (if T k = q then some (k + 1) else if T k = 38 then (match rfp T e (some k) with
        | none => none
        | some j => etg T e q n j) else if T k = 37 then (match pcp T e k with
        | none => none
        | some j => etg T e q n j) else etg T e q n (k + 1)) else none) = (if k < e then (if T k = q then some (k + 1) else if T k = 38 then (match rfp T e (some k) with
        | none => none
        | some j => etg T e q m j) else if T k = 37 then (match pcp T e k with
        | none => none
        | some j => etg T e q m j) else etg T e q m (k + 1)) else none)
      have h3 : etg T e q n (k + 1) = etg T e q m (k + 1) := ih m (k + 1) (by omega) (by omega)
      rw [h3]
      cases hr : rfp T e (some k) with
      | none =>
        cases hp : pcp T e k with
        | none => rfl
        | some j2 =>
          have := pcp_lt hp
          dsimp only
          rw [ih m j2 (by omega) (by omega)]
      | some j =>
        have := rfp_lt hr
        cases hp : pcp T e k with
        | none =>
          dsimp only
          rw [ih m j (by omega) (by omega)]
        | some j2 =>
          have := pcp_lt hp
          dsimp only
          rw [ih m j (by omega) (by omega), ih m j2 (by omega) (by omega)]
/-- an entity's text ends where the literal does -/
theorem etg_ltl {T : Nat → Int} {e : Nat} {q : Int} (hq : q = 34 ∨ q = 39) : ∀ (n k j : Nat), etg T e q n k = some j → k < j ∧ j ≤ e ∧ T (j - 1) = q ∧ ∀ i, k ≤ i → i < j - 1 → T i ≠ q := by
  intro n
  induction n with
  | zero => intro k j h; cases h
  | succ n ih =>
    intro k j h
    have h' : (if k < e then (if T k = q then some (k + 1) else if T k = 38 then (match rfp T e (some k) with
        | none => none
        | some j => etg T e q n j) else if T k = 37 then (match pcp T e k with
        | none => none
        | some j => etg T e q n j) else etg T e q n (k + 1)) else none) = some j := h
    by_cases c : k < e
    · rw [if_pos c] at h'
      by_cases c1 : T k = q
      · rw [if_pos c1] at h'
        cases h'
        exact ⟨by omega, by omega, by rw [show k + 1 - 1 = k by omega]; exact c1, fun i h1 h2 => by omega⟩
      · rw [if_neg c1] at h'
        by_cases c2 : T k = 38
        · rw [if_pos c2] at h'
          cases hr : rfp T e (some k) with
          | none => rw [hr] at h'; cases h'
          | some m =>
            rw [hr] at h'
            have hlt := rfp_lt hr
            have hn := rfp_noq hr
            have hi := ih m j h'
            refine ⟨by omega, hi.2.1, hi.2.2.1, fun i h1 h2 => ?_⟩
            by_cases z : i < m
            · have := hn i h1 z
              rcases hq with y | y
              · rw [y]; exact this.1
              · rw [y]; exact this.2.1
            · exact hi.2.2.2 i (by omega) h2
        · rw [if_neg c2] at h'
          by_cases c3 : T k = 37
          · rw [if_pos c3] at h'
            cases hr : pcp T e k with
            | none => rw [hr] at h'; cases h'
            | some m =>
              rw [hr] at h'
              have hlt := pcp_lt hr
              have hi := ih m j h'
              refine ⟨by omega, hi.2.1, hi.2.2.1, fun i h1 h2 => ?_⟩
              by_cases z : i = k
              · rw [z]; exact c1
              · by_cases z2 : i < m
                · have := hlt.2.2 i (by omega) z2
                  rcases hq with y | y
                  · rw [y]; exact this.1
                  · rw [y]; exact this.2.1
                · exact hi.2.2.2 i (by omega) h2
          · rw [if_neg c3] at h'
            have hi := ih (k + 1) j h'
            refine ⟨by omega, hi.2.1, hi.2.2.1, fun i h1 h2 => ?_⟩
            by_cases z : i = k
            · rw [z]; exact c1
            · exact hi.2.2.2 i (by omega) h2
    · rw [if_neg c] at h'
      cases h'
theorem etx_le {T : Nat → Int} {e : Nat} {o : Option Nat} : ple e (etx T e o) := by
  intro j hj
  cases o with
  | none => cases hj
  | some i =>
    have h' : (if isQt (lk T e i) = true then etg T e (T i) (e + 1) (i + 1) else none) = some j := hj
    by_cases hc : isQt (lk T e i) = true
    · rw [if_pos hc] at h'
      have hlt : i < e := by
        by_cases z : i < e
        · exact z
        · unfold lk at hc
          rw [if_neg z] at hc
          exact absurd hc (by decide)
      have hl : lk T e i = T i := by unfold lk; rw [if_pos hlt]
      rw [hl] at hc
      have hq : T i = 34 ∨ T i = 39 := by simpa [isQt] using hc
      exact (etg_ltl hq _ _ _ h').2.1
    · rw [if_neg hc] at h'
      cases h'
