/-! ===== the validator: lists of names ===== -/
/-- how many of the first k stood there before -/
def rpk (l : List Str) : Nat → Nat
  | 0 => 0
  | k + 1 => rpk l k + (if l.getD k [] ∈ l.take k then 1 else 0)
/-- how many of the first k are not among others -/
def nok (nt l : List Str) : Nat → Nat
  | 0 => 0
  | k + 1 => nok nt l k + (if l.getD k [] ∈ nt then 0 else 1)
theorem rpk_le {l : List Str} : ∀ k, rpk l k ≤ k := by
  intro k
  induction k with
  | zero => exact Nat.le_refl _
  | succ k ih =>
    have : rpk l (k + 1) = rpk l k + (if l.getD k [] ∈ l.take k then 1 else 0) := rfl
    rw [this]
    split <;> omega
theorem nok_le {nt l : List Str} : ∀ k, nok nt l k ≤ k := by
  intro k
  induction k with
  | zero => exact Nat.le_refl _
  | succ k ih =>
    have : nok nt l (k + 1) = nok nt l k + (if l.getD k [] ∈ nt then 0 else 1) := rfl
    rw [this]
    split <;> omega
theorem mem_take_s {l : List Str} {k : Nat} {s : Str} (h : k < l.length) : s ∈ l.take (k + 1) ↔ s ∈ l.take k ∨ s = l.getD k [] := by
  rw [List.take_succ, List.mem_append, List.getElem?_eq_getElem h, List.getD_eq_getElem?_getD, List.getElem?_eq_getElem h]
  simp
/-- only counts, marks and the stamp have changed -/
def VC (σ σ' : IS) : Prop := (∀ o k, ¬ (o = 1 ∧ k = 16) → σ'.1 o k = σ.1 o k) ∧ (∀ r, r ≠ 149 → r ≠ 155 → σ'.2 r = σ.2 r) ∧ σ.1 1 16 ≤ σ'.1 1 16 ∧ ∀ w, σ'.2 155 w ≤ σ'.1 1 16
section Vn
variable {L : Nat → Nat} {σ : IS} {Q : IS → Prop}
set_option maxHeartbeats 1000000 in
theorem sp_Validator_countListed {d b : Nat} {nt lst : List Str} {on : Bool} (hS : SI L σ) (hl : SL L) (hd : d < L 121 ∧ d < L 122) (h121 : σ.2 121 d = (b : Int)) (h122 : σ.2 122 d = (lst.length : Int)) (hb : b + lst.length ≤ L 124) (h9 : L 124 < 1000000) (hj : ∀ k, k < lst.length → Jn σ (σ.2 124 (b + k)) (lst.getD k [])) (h149 : L 149 = 23) (hL7 : L 127 = L 102) (hN : ∀ w, w < jw σ → (σ.2 127 w = 0 ↔ ¬ wst σ w ∈ nt)) (hc : ∀ k, 13 ≤ k → k ≤ 19 → 0 ≤ σ.2 149 k ∧ σ.2 149 k ≤ 1000000000) (hs : 0 ≤ σ.1 1 16 ∧ σ.1 1 16 ≤ 2000000000) (hm : ∀ w, σ.2 155 w ≤ σ.1 1 16)
    (hq : ∀ σ', VC σ σ' → σ'.1 1 16 = σ.1 1 16 + 1 → (∀ k, σ'.2 149 k = σ.2 149 k + (if k = 16 then (if on = true then (nok nt lst lst.length : Int) else 0) else if k = 19 then (rpk lst lst.length : Int) else 0)) → Q σ') : w_Validator_countListed L (d : Int) (b1 on) Q σ := by
  unfold w_Validator_countListed w_Store_newMark
  refine ⟨⟨by omega, by omega⟩, ?_⟩
  generalize hv : σ.1 1 16 + 1 = v
  have ed : Int.toNat (d : Int) = d := rfl
  rw [ed, pf_2, h121]
  refine ⟨⟨by omega, by omega⟩, ?_⟩
  have hj2 := hS.jw_le
  have e155 : L 102 = L 155 := hl.2.2.2.1
  refine WL_ind (fun s τ => ∃ k : Nat, s = ((b + k : Nat) : Int) ∧ k ≤ lst.length ∧ (∀ o j, ¬ (o = 1 ∧ j = 16) → τ.1 o j = σ.1 o j) ∧ τ.1 1 16 = v ∧ (∀ r, r ≠ 149 → r ≠ 155 → τ.2 r = σ.2 r) ∧ (∀ j, τ.2 149 j = σ.2 149 j + (if j = 16 then (if on = true then (nok nt lst k : Int) else 0) else if j = 19 then (rpk lst k : Int) else 0)) ∧ (∀ w, τ.2 155 w ≤ v) ∧ ∀ w, w < jw σ → (τ.2 155 w = v ↔ wst σ w ∈ lst.take k)) (fun s _ => ((b + lst.length : Nat) - s).toNat) ?_ _ _ ⟨0, rfl, Nat.zero_le _, fun o j y => by rw [pf_1, if_neg y], pf_eq, fun _ _ _ => rfl, fun j => ?_, fun w => ?_, fun w hw => ?_⟩
  · rintro _ τ ⟨k, rfl, hk, t1, t2, t3, t4, t5, t6⟩ K hK
    rw [t3 122 (by decide) (by decide), h122]
    refine ⟨⟨by omega, by omega⟩, ⟨by omega, by omega⟩, ?_⟩
    by_cases c : k < lst.length
    · rw [if_pos (by omega), show Int.toNat ((b + k : Nat) : Int) = b + k by omega, t3 124 (by decide) (by decide), t3 127 (by decide) (by decide)]
      obtain ⟨w, hw, hwj, hws⟩ := hj k c
      rw [hw, show Int.toNat (w : Int) = w from rfl, show Int.toNat 16 = 16 from rfl, show Int.toNat 19 = 19 from rfl]
      have hn16 := nok_le (nt := nt) (l := lst) k
      have hn19 := rpk_le (l := lst) k
      have e16 : τ.2 149 16 = σ.2 149 16 + (if on = true then (nok nt lst k : Int) else 0) := t4 16
      have e19 : τ.2 149 19 = σ.2 149 19 + (rpk lst k : Int) := t4 19
      have hc16 := hc 16 (by omega) (by omega)
      have hc19 := hc 19 (by omega) (by omega)
      have hx16 : (if b1 on = 0 then (0 : Int) else (if σ.2 127 w = 0 then (1 : Int) else (0 : Int))) = if on = true then (if lst.getD k [] ∈ nt then (0 : Int) else 1) else 0 := by
        cases on with
        | false => rfl
        | true =>
          show (if σ.2 127 w = 0 then (1 : Int) else 0) = if lst.getD k [] ∈ nt then (0 : Int) else 1
          rw [← hws]
          by_cases y : wst σ w ∈ nt
          · rw [if_pos y, if_neg (fun z => (hN w hwj).mp z y)]
          · rw [if_neg y, if_pos ((hN w hwj).mpr y)]
      have hx19 : (if τ.2 155 w = v then (1 : Int) else 0) = if lst.getD k [] ∈ lst.take k then (1 : Int) else 0 := by
        by_cases y : lst.getD k [] ∈ lst.take k
        · rw [if_pos y, if_pos ((t6 w hwj).mpr (by rw [hws]; exact y))]
        · rw [if_neg y, if_neg (fun z => y (by rw [← hws]; exact (t6 w hwj).mp z))]
      rw [hx16, hx19, e16]
      generalize hy16 : (if on = true then (if lst.getD k [] ∈ nt then (0 : Int) else 1) else 0) = y16
      generalize hy19 : (if lst.getD k [] ∈ lst.take k then (1 : Int) else 0) = y19
      have r16 : 0 ≤ y16 ∧ y16 ≤ 1 := by rw [← hy16]; split <;> (try split) <;> omega
      have r19 : 0 ≤ y19 ∧ y19 ≤ 1 := by rw [← hy19]; split <;> omega
      have ro : 0 ≤ (if on = true then (nok nt lst k : Int) else 0) ∧ (if on = true then (nok nt lst k : Int) else 0) ≤ k := by split <;> omega
      generalize hz16 : (if on = true then (nok nt lst k : Int) else 0) = z16 at *
      have e19' : (pr τ 149 16 (σ.2 149 16 + z16 + y16)).2 149 19 = σ.2 149 19 + (rpk lst k : Int) := by rw [pr_2, if_neg (by omega)]; exact e19
      rw [e19']
      refine ⟨⟨by omega, by omega⟩, ⟨by omega, by omega⟩, fun _ => ⟨by omega, by omega⟩, ⟨by omega, by omega⟩, ⟨by omega, by omega⟩, ⟨by omega, by omega⟩, ⟨by omega, by omega⟩, ⟨by omega, by omega⟩, ⟨by omega, by omega⟩, ⟨by omega, by omega⟩, ⟨by omega, by omega⟩, hK _ _ ⟨k + 1, by omega, by omega, t1, t2, fun r y1 y2 => ?_, fun j => ?_, fun w' => ?_, fun w' hw' => ?_⟩ (by omega)⟩
      · rw [← t3 r y1 y2]
        funext j
        rw [pr_2, if_neg (fun z => y2 z.1), pr_2, if_neg (fun z => y1 z.1), pr_2, if_neg (fun z => y1 z.1)]
      · rw [pr_2, if_neg (by omega), pr_2]
        have n1 : nok nt lst (k + 1) = nok nt lst k + (if lst.getD k [] ∈ nt then 0 else 1) := rfl
        have n2 : rpk lst (k + 1) = rpk lst k + (if lst.getD k [] ∈ lst.take k then 1 else 0) := rfl
        by_cases j19 : j = 19
        · rw [if_pos ⟨rfl, j19⟩, if_neg (by omega), if_pos j19, n2, j19, ← hy19]
          split <;> omega
        · rw [if_neg (fun z => j19 z.2), pr_2]
          by_cases j16 : j = 16
          · rw [if_pos ⟨rfl, j16⟩, if_pos j16, n1, j16, ← hz16, ← hy16]
            cases on with
            | false => simp
            | true =>
              rw [if_pos rfl, if_pos rfl, if_pos rfl]
              split <;> omega
          · rw [if_neg (fun z => j16 z.2), if_neg j16, if_neg j19, t4 j, if_neg j16, if_neg j19]
      · rw [pr_2]
        by_cases y : w' = w
        · rw [if_pos ⟨rfl, y⟩]; exact Int.le_refl _
        · rw [if_neg (fun z => y z.2), pr_2, if_neg (by omega), pr_2, if_neg (by omega)]; exact t5 w'
      · rw [pr_2, mem_take_s c]
        by_cases y : w' = w
        · rw [if_pos ⟨rfl, y⟩]
          exact ⟨fun _ => Or.inr (by rw [y]; exact hws), fun _ => rfl⟩
        · rw [if_neg (fun z => y z.2), pr_2, if_neg (by omega), pr_2, if_neg (by omega), t6 w' hw']
          refine ⟨Or.inl, fun z => z.elim id (fun z => absurd ?_ y)⟩
          have hj14 := hS.1.1
          exact hS.2.2.2 w' w (by unfold jw at hw'; omega) (by unfold jw at hwj; omega) (z.trans hws.symm)
    · rw [if_neg (by omega)]
      have ek : k = lst.length := by omega
      refine hq τ ⟨t1, t3, by rw [t2]; omega, fun w => by rw [t2]; exact t5 w⟩ (by rw [t2, hv]) (fun j => ?_)
      rw [t4 j, ek]
  · show σ.2 149 j = _
    split
    · split <;> simp [nok]
    · split <;> simp [rpk]
  · have := hm w
    show σ.2 155 w ≤ v
    omega
  · have := hm w
    show σ.2 155 w = v ↔ _
    rw [List.take_zero]
    exact ⟨fun z => by omega, fun z => by cases z⟩
end Vn
