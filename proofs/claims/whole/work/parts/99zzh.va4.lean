/-! ===== counts of declared attributes, as pure sums ===== -/
/-- a sum over those of the first n that are marked -/
def sm (P : Nat → Bool) (f : Nat → Nat) : Nat → Nat
  | 0 => 0
  | n + 1 => sm P f n + (if P n = true then f n else 0)
section Sm
variable {P P' : Nat → Bool} {f : Nat → Nat}
theorem sm_s {n : Nat} : sm P f (n + 1) = sm P f n + (if P n = true then f n else 0) := rfl
theorem sm_ext : ∀ {n : Nat}, (∀ d, d < n → P' d = P d) → sm P' f n = sm P f n := by
  intro n
  induction n with
  | zero => intro _; rfl
  | succ n ih => intro h; rw [sm_s, sm_s, ih (fun d hd => h d (by omega)), h n (by omega)]
theorem sm_none : ∀ {n : Nat}, (∀ d, d < n → P d = false) → sm P f n = 0 := by
  intro n
  induction n with
  | zero => intro _; rfl
  | succ n ih => intro h; rw [sm_s, ih (fun d hd => h d (by omega)), h n (by omega)]; rfl
theorem sm_add : ∀ {n c : Nat}, c < n → P c = false → P' c = true → (∀ d, d < n → d ≠ c → P' d = P d) → sm P' f n = sm P f n + f c := by
  intro n
  induction n with
  | zero => intro c h; omega
  | succ n ih =>
    intro c h h0 h1 h2
    rw [sm_s, sm_s]
    by_cases z : c = n
    · rw [sm_ext (fun d hd => h2 d (by omega) (by omega)), ← z, h0, h1, if_pos rfl, if_neg (by decide)]
      rfl
    · rw [ih (by omega) h0 h1 (fun d hd y => h2 d (by omega) y), h2 n (by omega) (fun y => z y.symm)]
      omega
theorem sm_le {m : Nat} (hf : ∀ d, f d ≤ m) : ∀ n, sm P f n ≤ m * n := by
  intro n
  induction n with
  | zero => exact Nat.le_refl _
  | succ n ih =>
    have := hf n
    rw [sm_s, Nat.mul_succ]
    split <;> omega
end Sm
/-- one before, of the same element and of a type -/
def bef (ad : List ADc) (d t : Nat) : Bool := (List.range d).any (fun j => (ad.getD j adD).1 == (ad.getD d adD).1 && (ad.getD j adD).2.2.1 == t)
/-- an element that is declared EMPTY -/
def emp (ed : List EDc) (s : Str) : Bool := match edf ed s with
  | none => false
  | some i => (ed.getD i ([], 0, [])).2.1 == 0
/-- what the declaration d adds to the count k (13 to 19) -/
def ctA (ed : List EDc) (ad : List ADc) (nt : List Str) (k d : Nat) : Nat :=
  if k = 13 then (if (ad.getD d adD).2.2.1 = 1 ∧ bef ad d 1 = true then 1 else 0)
  else if k = 14 then (if (ad.getD d adD).2.2.1 = 1 ∧ 3 ≤ (ad.getD d adD).2.2.2.1 then 1 else 0)
  else if k = 15 then (if 3 ≤ (ad.getD d adD).2.2.2.1 ∧ asW (ad.getD d adD).2.2.1 (ad.getD d adD).2.2.2.2.2 (ad.getD d adD).2.2.2.2.1 = false then 1 else 0)
  else if k = 16 then (if (ad.getD d adD).2.2.1 = 8 then nok nt (ad.getD d adD).2.2.2.2.2 (ad.getD d adD).2.2.2.2.2.length else 0)
  else if k = 17 then (if (ad.getD d adD).2.2.1 = 8 ∧ bef ad d 8 = true then 1 else 0)
  else if k = 18 then (if (ad.getD d adD).2.2.1 = 8 ∧ emp ed (ad.getD d adD).1 = true then 1 else 0)
  else if k = 19 then rpk (ad.getD d adD).2.2.2.2.2 (ad.getD d adD).2.2.2.2.2.length
  else 0
/-- the count k (13 to 19) -/
def cnA (ed : List EDc) (ad : List ADc) (nt : List Str) (k : Nat) : Nat := sm (fun _ => true) (ctA ed ad nt k) ad.length
/-- in the chain of an element, those before c, and those of other elements that are done -/
def chP (ad : List ADc) (D : Str → Bool) (s : Str) (c d : Nat) : Bool := D (ad.getD d adD).1 || (decide (d < c) && (ad.getD d adD).1 == s)
section Ch
variable {ad : List ADc} {D : Str → Bool} {s : Str} {f : Nat → Nat}
theorem ch_first {c : Nat} (h : ∀ k, k < c → k < ad.length → (ad.getD k adD).1 ≠ s) : sm (chP ad D s c) f ad.length = sm (fun d => D (ad.getD d adD).1) f ad.length := by
  refine sm_ext (fun d hd => ?_)
  unfold chP
  by_cases z : d < c
  · have : ((ad.getD d adD).1 == s) = false := by simpa using h d z hd
    rw [this, Bool.and_false, Bool.or_false]
  · rw [decide_eq_false z, Bool.false_and, Bool.or_false]
theorem ch_step {c c' : Nat} (hc : c < ad.length) (hs : (ad.getD c adD).1 = s) (hD : D s = false) (hcc : c < c') (hn : ∀ k, c < k → k < c' → k < ad.length → (ad.getD k adD).1 ≠ s) : sm (chP ad D s c') f ad.length = sm (chP ad D s c) f ad.length + f c := by
  refine sm_add hc ?_ ?_ (fun d hd hdc => ?_)
  · unfold chP
    rw [hs, hD, decide_eq_false (Nat.lt_irrefl c)]
    rfl
  · unfold chP
    rw [hs, hD, decide_eq_true hcc]
    simp
  · unfold chP
    by_cases z : d < c
    · rw [decide_eq_true z, decide_eq_true (show d < c' by omega)]
    · rw [decide_eq_false z]
      by_cases y : d < c'
      · have : ((ad.getD d adD).1 == s) = false := by simpa using hn d (by omega) y hd
        rw [this, Bool.and_false, Bool.and_false]
      · rw [decide_eq_false y]
theorem ch_last {D' : Str → Bool} {c : Nat} (hn : ∀ k, c ≤ k → k < ad.length → (ad.getD k adD).1 ≠ s) (hD' : ∀ t, D' t = (D t || t == s)) : sm (fun d => D' (ad.getD d adD).1) f ad.length = sm (chP ad D s c) f ad.length := by
  refine sm_ext (fun d hd => ?_)
  unfold chP
  rw [hD']
  by_cases z : d < c
  · rw [decide_eq_true z, Bool.true_and]
  · have : ((ad.getD d adD).1 == s) = false := by simpa using hn d (by omega) hd
    rw [this, Bool.and_false]
end Ch
