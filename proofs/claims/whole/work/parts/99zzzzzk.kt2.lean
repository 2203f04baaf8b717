/-! ===== the reference: a tag, the second time through ===== -/
/-- the names of attributes with what is kept of them -/
noncomputable def gnl (l : List Str) : List Str := l.flatMap (fun s => s :: plk s)
section Kt2
variable {L : Nat → Nat} {rm nd o : Nat} {σ ρ τ : IS} {g g' : KG} {a A : AS} {bs : List Nat} {Q : IS → Prop} {R : Int → IS → Prop} {T : Nat → Int} {p e : Nat} {el : Str} {FIN : IS → Prop}
theorem vlg_nq {q : Int} (hq : q = 34 ∨ q = 39) : ∀ (n k j : Nat), vlg T e q n k = some j → ∀ i, k ≤ i → i < j - 1 → T i ≠ q := by
  intro n
  induction n with
  | zero => intro k j h; cases h
  | succ n ih =>
    intro k j h i h1 h2
    have h' : (if k < e then (if T k = q then some (k + 1) else if T k = 60 then none else if T k = 38 then (match rfp T e (some k) with
        | none => none
        | some j => vlg T e q n j) else vlg T e q n (k + 1)) else none) = some j := h
    by_cases c : k < e
    · rw [if_pos c] at h'
      by_cases c1 : T k = q
      · rw [if_pos c1] at h'
        cases h'
        omega
      · rw [if_neg c1] at h'
        by_cases c2 : T k = 60
        · rw [if_pos c2] at h'; cases h'
        · rw [if_neg c2] at h'
          by_cases c3 : T k = 38
          · rw [if_pos c3] at h'
            cases hr : rfp T e (some k) with
            | none => rw [hr] at h'; cases h'
            | some m =>
              rw [hr] at h'
              by_cases ci : i < m
              · have := rfp_noq hr i h1 ci
                rcases hq with y | y <;> rw [y]
                · exact this.1
                · exact this.2.1
              · exact ih m j h' i (by omega) h2
          · rw [if_neg c3] at h'
            by_cases ci : i = k
            · rw [ci]; exact c1
            · exact ih (k + 1) j h' i (by omega) h2
    · rw [if_neg c] at h'; cases h'
theorem sk_eq {P : Int → Bool} : ∀ (m i j : Nat), j - i = m → i ≤ j → j ≤ e → (∀ q, i ≤ q → q < j → P (T q) = true) → (j < e → P (T j) = false) → sk P T e i = j
  | 0, i, j, h, h1, h2, h3, h4 => by
    have : i = j := by omega
    subst this
    by_cases c : i < e
    · exact sk_stop (h4 c)
    · exact sk_end (by omega)
  | m + 1, i, j, h, h1, h2, h3, h4 => by
    rw [sk_go (by omega) (h3 i (Nat.le_refl _) (by omega))]
    exact sk_eq m (i + 1) j (by omega) (by omega) h2 (fun q a b => h3 q (by omega) b) h4
/-- a value ends where its literal ends -/
theorem vlp_ltl {v j : Nat} (h : vlp T e (some v) = some j) : ltl T e (some v) = some j := by
  have hg := vlp_gt h
  have h' : (if isQt (lk T e v) = true then vlg T e (T v) (e + 1) (v + 1) else none) = some j := h
  by_cases cq : isQt (lk T e v) = true
  · rw [if_pos cq] at h'
    have cq' : T v = 34 ∨ T v = 39 := by
      unfold isQt at cq
      rw [Bool.or_eq_true, beq_iff_eq, beq_iff_eq] at cq
      rcases cq with y | y
      · exact Or.inl (lk_lt (by decide) y).2
      · exact Or.inr (lk_lt (by decide) y).2
    have hl := vlg_le _ _ _ h'
    have hn := vlg_nq cq' _ _ _ h'
    have hs : sk (fun c => !(c == T v)) T e (v + 1) = j - 1 := sk_eq (j - 1 - (v + 1)) (v + 1) (j - 1) rfl (by omega) (by omega) (fun q a b => by
      have := hn q a b
      simpa using this) (fun _ => by rw [hl.2.2]; simp)
    show (if isQt (lk T e v) = true then (if sk (fun c => !(c == T v)) T e (v + 1) < e then some (sk (fun c => !(c == T v)) T e (v + 1) + 1) else none) else none) = some j
    rw [if_pos cq, hs, if_pos (by omega), show j - 1 + 1 = j by omega]
  · rw [if_neg cq] at h'; cases h'
/-- the names of what stands there -/
def atN (T : Nat → Int) (l : List (Nat × Nat × Nat × Nat)) : List Str := l.map (fun z => sl T z.1 (z.2.1 - z.1))
theorem gvs_cons {x b v j c m : Nat} {l : List (Nat × Nat × Nat × Nat)} {acc : List Att} : gvs rm a T el ((x, b, v, j) :: l) c m acc = if (sl T x (b - x)) ∈ acc.map (fun z => z.1) then .inl 8 else match val rm a (sl T (v + 1) (j - 1 - (v + 1))) c m with
    | .inl f => .inl f
    | .inr (c', m', o) => gvs rm a T el l c' m' (acc ++ [(sl T x (b - x), nrt (dty (aA a) (adf (aA a) el (sl T x (b - x)))) o, adf (aA a) el (sl T x (b - x)))]) := by
  show (if _ then _ else _) = _
  rfl
end Kt2
