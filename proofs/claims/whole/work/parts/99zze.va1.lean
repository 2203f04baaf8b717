/-! ===== the validator: what values are made of ===== -/
/-- a name or token, or several with one 32 between; b: one begins here -/
def mdo (nm sv : Bool) : Bool → List Int → Bool
  | b, [] => !b
  | b, c :: r => if c = 32 ∧ sv = true ∧ b = false then mdo nm sv true r else if isNm c = true ∧ ¬ (b = true ∧ nm = true ∧ noSt c = true) then mdo nm sv false r else false
/-- whether a value is as its declaration wants it -/
def asW (t : Nat) (lst : List Str) (s : Str) : Bool := if t = 0 then true else if t = 1 ∨ t = 2 ∨ t = 4 then mdo true false true s else if t = 3 ∨ t = 5 then mdo true true true s else if t = 6 then mdo false false true s else if t = 7 then mdo false true true s else decide (s ∈ lst)
theorem mdo_c {nm sv b : Bool} {c : Int} {r : List Int} : mdo nm sv b (c :: r) = if c = 32 ∧ sv = true ∧ b = false then mdo nm sv true r else if isNm c = true ∧ ¬ (b = true ∧ nm = true ∧ noSt c = true) then mdo nm sv false r else false := rfl
theorem b1_0 {b : Bool} : b1 b = 0 ↔ b = false := by cases b <;> decide
section Vl
variable {L : Nat → Nat} {σ : IS} {Q : Int → IS → Prop}
theorem SI.word {w : Nat} (h : SI L σ) (hl : SL L) (hw : w < jw σ) : w < L 102 ∧ w < L 103 ∧ σ.2 102 w = (wfr σ w : Int) ∧ σ.2 103 w = (wsz σ w : Int) ∧ wfr σ w + wsz σ w ≤ L 101 := by
  have hj := h.jw_le
  have h1 := h.1
  have hw' : (w : Int) < σ.1 1 14 := by unfold jw at hw; omega
  have h2 := h.2.1 w hw'
  have e1 : L 102 = L 103 := hl.1
  have hjw : (jw σ : Int) = σ.1 1 14 := by unfold jw; omega
  unfold wfr wsz
  refine ⟨by omega, by omega, by omega, by omega, by omega⟩
theorem sp_Validator_isMadeOf {w : Nat} {a2 a3 : Int} {nm sv : Bool} (hS : SI L σ) (hl : SL L) (hw : w < jw σ) (ha2 : a2 = b1 nm) (ha3 : a3 = b1 sv) (hq : Q (b1 (mdo nm sv true (wst σ w))) σ) : w_Validator_isMadeOf L (w : Int) a2 a3 Q σ := by
  obtain ⟨l1, l2, e1, e2, l3⟩ := hS.word hl hw
  have l9 : L 101 < 1000000 := hl.2.2.2.2.2.2.2
  unfold w_Validator_isMadeOf
  refine ⟨⟨by omega, by omega⟩, ?_⟩
  have ew : Int.toNat (w : Int) = w := rfl
  rw [ew, e2]
  have hst : ∀ i, i < wsz σ w → (wst σ w).drop i = σ.2 101 (wfr σ w + i) :: (wst σ w).drop (i + 1) := fun i hi => by
    unfold wst
    rw [sl_drop2, sl_drop2, show wsz σ w - i = (wsz σ w - (i + 1)) + 1 by omega, sl_cons2]
    rfl
  refine WL_ind (fun s τ => σ = τ ∧ ∃ (i : Nat) (b : Bool), s = (b1 b, (i : Int)) ∧ i ≤ wsz σ w ∧ mdo nm sv b ((wst σ w).drop i) = mdo nm sv true (wst σ w)) (fun s _ => (wsz σ w - s.2).toNat) ?_ (1, 0) σ ⟨rfl, 0, true, rfl, Nat.zero_le _, rfl⟩
  rintro _ _ ⟨rfl, i, b, rfl, hi, hm⟩ K hK
  dsimp only at hK ⊢
  by_cases c : i < wsz σ w
  · rw [if_pos (by omega)]
    unfold w_Store_letter
    rw [ew, e1, e2]
    refine ⟨fun _ => ⟨⟨by omega, by omega⟩, fun _ => ⟨⟨by omega, by omega⟩, ⟨by omega, by omega⟩, by omega, by omega⟩⟩, ?_⟩
    rw [if_neg (by omega), if_pos (by omega), show Int.toNat ((wfr σ w : Int) + (i : Int)) = wfr σ w + i by omega]
    rw [hst i c] at hm
    generalize σ.2 101 (wfr σ w + i) = x at hm ⊢
    refine WJ_dir ?_
    have hgo : ∀ b' : Bool, mdo nm sv b' ((wst σ w).drop (i + 1)) = mdo nm sv true (wst σ w) → inR ((i : Int) + 1) ∧ K (b1 b', (i : Int) + 1) σ := fun b' hb => ⟨⟨by omega, by omega⟩, hK _ _ ⟨rfl, i + 1, b', rfl, by omega, hb⟩ (by dsimp only; omega)⟩
    by_cases c1 : x = 32 ∧ sv = true ∧ b = false
    · rw [if_pos ⟨c1.1, fun z => by rw [ha3, b1_0] at z; rw [z] at c1; exact absurd c1.2.1 (by decide), b1_0.mpr c1.2.2⟩]
      exact hgo true (by rw [← hm, mdo_c, if_pos c1])
    · rw [if_neg (fun z => c1 ⟨z.1, by cases sv with
        | true => rfl
        | false => exact absurd (ha3.trans rfl) z.2.1, b1_0.mp z.2.2⟩)]
      have hm2 : (if isNm x = true ∧ ¬ (b = true ∧ nm = true ∧ noSt x = true) then mdo nm sv false ((wst σ w).drop (i + 1)) else false) = mdo nm sv true (wst σ w) := by
        rw [← hm, mdo_c, if_neg c1]
      refine sp_Reader_isNameCharacter ?_
      refine WJ_dir ?_
      have hno : ¬ (isNm x = true ∧ ¬ (b = true ∧ nm = true ∧ noSt x = true)) → Q 0 σ := fun z => by
        rw [if_neg z] at hm2
        rw [← hm2] at hq
        exact hq
      rw [if_b1]
      by_cases c2 : isNm x = true
      · rw [if_pos c2]
        refine WJ_dir ?_
        by_cases c3 : b = true ∧ nm = true
        · rw [if_pos ⟨fun z => (by rw [b1_0, c3.1] at z; cases z), fun z => (by rw [ha2, b1_0, c3.2] at z; cases z)⟩]
          refine sp_Reader_isNoStart ?_
          rw [if_b1]
          by_cases c4 : noSt x = true
          · rw [if_pos c4]
            exact hno (fun z => z.2 ⟨c3.1, c3.2, c4⟩)
          · rw [if_neg c4]
            rw [if_pos ⟨c2, fun z => c4 z.2.2⟩] at hm2
            exact hgo false hm2
        · rw [if_neg (fun z => c3 ⟨by cases b with
            | true => rfl
            | false => exact absurd rfl z.1, by cases nm with
            | true => rfl
            | false => exact absurd (ha2.trans rfl) z.2⟩)]
          rw [if_pos ⟨c2, fun z => c3 ⟨z.1, z.2.1⟩⟩] at hm2
          exact hgo false hm2
      · rw [if_neg c2]
        exact hno (fun z => c2 z.1)
  · rw [if_neg (by omega)]
    have hd : (wst σ w).drop i = [] := List.drop_eq_nil_of_le (by unfold wst; rw [sl_ln]; omega)
    rw [hd] at hm
    have : (if b1 b = 0 then (1 : Int) else 0) = b1 (mdo nm sv true (wst σ w)) := by
      rw [← hm]
      cases b <;> rfl
    rw [this]
    exact hq
theorem sp_Validator_isListed {w d b : Nat} {lst : List Str} (hS : SI L σ) (hw : w < jw σ) (hd : d < L 121 ∧ d < L 122) (h121 : σ.2 121 d = (b : Int)) (h122 : σ.2 122 d = (lst.length : Int)) (hb : b + lst.length ≤ L 124) (h9 : L 124 < 1000000) (hj : ∀ k, k < lst.length → Jn σ (σ.2 124 (b + k)) (lst.getD k [])) (hq : Q (b1 (decide (wst σ w ∈ lst))) σ) : w_Validator_isListed L (w : Int) (d : Int) Q σ := by
  unfold w_Validator_isListed
  have ed : Int.toNat (d : Int) = d := rfl
  rw [ed, h121]
  refine ⟨⟨by omega, by omega⟩, ?_⟩
  refine WL_ind (fun s τ => σ = τ ∧ ∃ k : Nat, s = ((b + k : Nat) : Int) ∧ k ≤ lst.length ∧ ∀ j, j < k → lst.getD j [] ≠ wst σ w) (fun s _ => ((b + lst.length : Nat) - s).toNat) ?_ _ σ ⟨rfl, 0, rfl, Nat.zero_le _, fun j h => absurd h (Nat.not_lt_zero j)⟩
  rintro _ _ ⟨rfl, k, rfl, hk, hn⟩ K hK
  rw [h122]
  refine ⟨⟨by omega, by omega⟩, ⟨by omega, by omega⟩, ?_⟩
  by_cases c : k < lst.length
  · rw [if_pos (by omega), show Int.toNat ((b + k : Nat) : Int) = b + k by omega]
    refine ⟨⟨by omega, by omega⟩, ?_⟩
    obtain ⟨v, hv, hvj, hvs⟩ := hj k c
    by_cases c1 : σ.2 124 (b + k) = (w : Int)
    · rw [if_pos c1]
      have evw : v = w := by omega
      have : wst σ w ∈ lst := by
        rw [← evw, hvs, List.getD_eq_getElem?_getD, List.getElem?_eq_getElem c]
        exact List.getElem_mem c
      rw [decide_eq_true this] at hq
      exact hq
    · rw [if_neg c1]
      refine ⟨⟨by omega, by omega⟩, hK _ _ ⟨rfl, k + 1, by omega, by omega, fun j hj' => ?_⟩ (by omega)⟩
      by_cases cj : j = k
      · rw [cj, ← hvs]
        intro z
        have hj14 := hS.1.1
        exact c1 (by rw [hv, hS.2.2.2 v w (by unfold jw at hvj; omega) (by unfold jw at hw; omega) z])
      · exact hn j (by omega)
  · rw [if_neg (by omega)]
    have : ¬ wst σ w ∈ lst := fun z => by
      obtain ⟨j, hj1, hj2⟩ := List.getElem_of_mem z
      refine hn j (by omega) ?_
      rw [List.getD_eq_getElem?_getD, List.getElem?_eq_getElem hj1]
      exact hj2
    rw [decide_eq_false this] at hq
    exact hq
end Vl
