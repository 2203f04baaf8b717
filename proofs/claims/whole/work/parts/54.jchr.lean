/-! ===== the class's characters ===== -/
def noSt (c : Int) : Bool := (c == 45 || c == 46) || (inI c 48 57 || (c == 183 || (inI c 768 879 || (c == 8255 || c == 8256))))
theorem isNm_eq (c : Int) : isNm c = (isSt c || noSt c) := rfl
theorem inI_iff {c a b : Int} : inI c a b = true ↔ a ≤ c ∧ c ≤ b := by simp [inI]
theorem st_no {c : Int} (h : isSt c = true) : noSt c = false := by
  rw [Bool.eq_false_iff]
  intro h2
  by_cases hc : c < 128
  · simp [isSt, hc, inI] at h
    simp [noSt, inI] at h2
    omega
  · simp [isSt, hc, inI] at h
    simp [noSt, inI] at h2
    omega
theorem nm_st (c : Int) : (isNm c && !noSt c) = isSt c := by
  rw [isNm_eq]
  cases h : isSt c with
  | true => rw [st_no h]; rfl
  | false => cases noSt c <;> rfl
section JLex
variable {L : Nat → Nat} {Q : Int → IS → Prop} {σ : IS} {c : Int}
theorem sp_Reader_isSpace (h : Q (b1 (isSp c)) σ) : w_Reader_isSpace L c Q σ := by
  unfold w_Reader_isSpace
  have e : (if c = 32 then (1 : Int) else (if c = 10 then (1 : Int) else (if c = 9 then (1 : Int) else (if c = 13 then (1 : Int) else (0 : Int))))) = b1 (isSp c) := by
    simp only [b1, isSp]
    grind
  rw [e]
  exact h
theorem sp_Reader_isDigit (h : Q (b1 (isDg c)) σ) : w_Reader_isDigit L c Q σ := by
  unfold w_Reader_isDigit
  have e : (if c < 48 then (0 : Int) else (if 57 < c then (0 : Int) else (1 : Int))) = b1 (isDg c) := by
    simp only [b1, isDg, inI]
    grind
  rw [e]
  exact h
theorem sp_Reader_isLetter (h : Q (b1 (isLt c)) σ) : w_Reader_isLetter L c Q σ := by
  unfold w_Reader_isLetter
  have e : (if c < 97 then (if c < 65 then (0 : Int) else (if 90 < c then (0 : Int) else (1 : Int))) else (if 122 < c then (if c < 65 then (0 : Int) else (if 90 < c then (0 : Int) else (1 : Int))) else (1 : Int))) = b1 (isLt c) := by
    simp only [b1, isLt, inI]
    grind
  rw [e]
  exact h
theorem sp_Reader_isCharacter (h : Q (b1 (isCh c)) σ) : w_Reader_isCharacter L c Q σ := by
  unfold w_Reader_isCharacter
  refine (congrArg (fun z => Q z σ) ?_).mp h
  simp only [b1, isCh, inI]
  grind
theorem sp_Reader_isNoStart (h : Q (b1 (noSt c)) σ) : w_Reader_isNoStart L c Q σ := by
  unfold w_Reader_isNoStart
  refine (congrArg (fun z => Q z σ) ?_).mp h
  simp only [b1, noSt, inI]
  grind (splits := 40)
def nsT_ : List (Int × Int) := [(192, 214), (216, 246), (248, 767), (880, 893), (895, 8191), (8204, 8205), (8304, 8591), (11264, 12271), (12289, 55295), (63744, 64975), (65008, 65533), (65536, 983039)]
theorem nsT_at : ∀ m, m < 12 → srI 2001 ((2 * m : Nat) : Int) = (nsT_.getD m (0, 0)).1 ∧ srI 2001 ((2 * m + 1 : Nat) : Int) = (nsT_.getD m (0, 0)).2 := by decide +kernel
theorem srN_ns : srN 2001 = 24 := by decide +kernel
def inT (m : Nat) (c : Int) : Bool := (nsT_.drop m).any (fun q => inI c q.1 q.2)
theorem inT_step {m : Nat} (h : m < 12) : inT m c = (inI c (nsT_.getD m (0, 0)).1 (nsT_.getD m (0, 0)).2 || inT (m + 1) c) := by
  have h' : m < nsT_.length := h
  unfold inT
  rw [List.drop_eq_getElem_cons h', List.any_cons, List.getD_eq_getElem?_getD, List.getElem?_eq_getElem h']
  rfl
theorem nm_hi (hc : ¬ c < 128) : isNm c = (noSt c || inT 0 c) := by
  rw [isNm_eq]
  have e : isSt c = inT 0 c := by
    unfold isSt
    rw [if_neg hc]
    simp only [inT, nsT_, List.drop_zero, List.any_cons, List.any_nil]
    have e2 : (c == 8204 || c == 8205) = inI c 8204 8205 := by
      simp only [inI]
      grind
    rw [e2]
    simp [Bool.or_assoc]
  rw [e, Bool.or_comm]
theorem sp_Reader_isNameCharacter (h : Q (b1 (isNm c)) σ) : w_Reader_isNameCharacter L c Q σ := by
  unfold w_Reader_isNameCharacter
  by_cases hc : c < 128
  · rw [if_pos hc]
    refine (congrArg (fun z => Q z σ) ?_).mp h
    simp only [b1, isNm, isSt, inI, if_pos hc]
    grind
  · rw [if_neg hc]
    unfold WJ
    try dsimp only
    rw [nm_hi hc] at h
    by_cases h1 : c = 183
    · rw [if_pos h1]
      have e : noSt c = true := by simp [noSt, h1]
      rw [e] at h
      exact h
    · rw [if_neg h1]
      by_cases h2 : (c < 768 ∧ (¬ c = 8255 ∧ (¬ c = 8256))) ∨ (¬ c < 768 ∧ (879 < c ∧ (¬ c = 8255 ∧ (¬ c = 8256))))
      · rw [if_pos h2]
        have e : noSt c = false := by
          rw [Bool.eq_false_iff]
          intro h3
          simp [noSt, inI] at h3
          omega
        rw [e, Bool.false_or] at h
        refine WL_ind (fun s τ => τ = σ ∧ ∃ m : Nat, s = ((2 * m : Nat) : Int) ∧ m ≤ 12 ∧ inT 0 c = inT m c) (fun s _ => (24 - s).toNat) ?_ 0 σ ⟨rfl, 0, rfl, by omega, rfl⟩
        rintro s τ ⟨rfl, m, rfl, hm, hs⟩ K hI
        try dsimp only
        rw [srN_ns]
        refine ⟨⟨by omega, by omega⟩, ?_⟩
        by_cases c1 : ((2 * m : Nat) : Int) + 1 < 24
        · have hm2 : m < 12 := by omega
          have ht := nsT_at m hm2
          rw [if_pos c1, show ((2 * m : Nat) : Int) + 1 = ((2 * m + 1 : Nat) : Int) by omega, ht.1, ht.2]
          refine ⟨⟨by omega, by omega⟩, fun _ => ⟨⟨by omega, by omega⟩, by omega, by omega⟩, ?_⟩
          rw [hs, inT_step hm2] at h
          by_cases c2 : ¬ c < (nsT_.getD m (0, 0)).1 ∧ ¬ (nsT_.getD m (0, 0)).2 < c
          · rw [if_pos c2]
            rw [inI_iff.mpr ⟨by omega, by omega⟩] at h
            exact h
          · rw [if_neg c2]
            have e3 : inI c (nsT_.getD m (0, 0)).1 (nsT_.getD m (0, 0)).2 = false := by
              rw [Bool.eq_false_iff]
              intro h3
              have := inI_iff.mp h3
              omega
            refine ⟨⟨by omega, by omega⟩, hI _ _ ⟨rfl, m + 1, by omega, by omega, ?_⟩ (by omega)⟩
            rw [hs, inT_step hm2, e3, Bool.false_or]
        · rw [if_neg c1]
          have e4 : m = 12 := by omega
          subst e4
          rw [hs] at h
          exact h
      · rw [if_neg h2]
        have e : noSt c = true := by
          have h3 : inI c 768 879 = true ∨ c = 8255 ∨ c = 8256 := by
            by_cases z : c = 8255
            · exact Or.inr (Or.inl z)
            · by_cases z2 : c = 8256
              · exact Or.inr (Or.inr z2)
              · exact Or.inl (inI_iff.mpr ⟨by omega, by omega⟩)
          rcases h3 with h3 | h3 | h3 <;> simp [noSt, h3]
        rw [e] at h
        exact h
end JLex
