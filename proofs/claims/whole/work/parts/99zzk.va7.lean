/-! ===== the validator: all declared attributes ===== -/
/-- words that are done -/
def dnw (σ : IS) (w : Nat) (t : Str) : Bool := (List.range w).any (fun v => wst σ v == t)
theorem dnw_s {σ : IS} {w : Nat} {t : Str} : dnw σ (w + 1) t = (dnw σ w t || t == wst σ w) := by
  unfold dnw
  rw [List.range_succ, List.any_append, List.any_cons, List.any_nil, Bool.or_false]
  congr 1
  rw [Bool.eq_iff_iff, beq_iff_eq, beq_iff_eq]
  exact ⟨Eq.symm, Eq.symm⟩
theorem jhw_2 {h : Nat} : jhw h < 2 ↔ ¬ 3 ≤ h := by
  unfold jhw
  repeat' split
  all_goals omega
section VAt
variable {L : Nat → Nat} {σ : IS} {ed : List EDc} {ad : List ADc} {nt : List Str} {Q : IS → Prop}
theorem sp_Declared_isEmpty {Q : Int → IS → Prop} {w : Nat} {τ : IS} (h : VD L σ ed ad nt) (hv : VC σ τ) (hw : w < jw σ) (hq : Q (b1 (emp ed (wst σ w))) τ) : w_Declared_isEmpty L (w : Int) Q τ := by
  obtain ⟨hS, hl, ⟨d1, d2, d3⟩, hA, hN, ⟨l1, l2, l3, l4, l5, l6⟩, -, -, -, -, l10, -⟩ := h
  have hj := hS.jw_le
  have e125 : σ.2 125 w = en1 (edf ed (wst σ w)) := d3.1 w hw
  unfold w_Declared_isEmpty
  rw [show Int.toNat (w : Int) = w from rfl, hv.2.1 125 (by decide) (by decide), hv.2.1 116 (by decide) (by decide), e125]
  unfold emp at hq
  cases he : edf ed (wst σ w) with
  | none =>
    rw [he] at hq
    exact ⟨⟨by omega, by omega⟩, ⟨by decide, by decide⟩, fun y => absurd rfl y, hq⟩
  | some i =>
    rw [he] at hq
    have hi : i < ed.length := by
      unfold edf at he
      rw [List.findIdx?_eq_some_iff_getElem] at he
      exact he.1
    have e1 : en1 (some i) - 1 = (i : Int) := by show (i : Int) + 1 - 1 = i; omega
    rw [e1, show Int.toNat (i : Int) = i from rfl, (d2 i hi).2.1, if_neg (by omega)]
    refine ⟨⟨by omega, by omega⟩, ⟨by omega, by omega⟩, fun _ => ⟨by omega, by omega⟩, ?_⟩
    dsimp only at hq
    have : (if (((ed.getD i ([], 0, [])).2.1 : Nat) : Int) = 0 then (1 : Int) else 0) = b1 ((ed.getD i ([], 0, [])).2.1 == 0) := by
      by_cases z : (ed.getD i ([], 0, [])).2.1 = 0
      · rw [z]; rfl
      · rw [if_neg (by omega), show ((ed.getD i ([], 0, [])).2.1 == 0) = false by simpa using z]; rfl
    rw [this]
    exact hq
end VAt
