/-! ===== the class's reader: literals, references ===== -/
section JRd3
variable {L : Nat → Nat} {σ τ : IS} {e p k : Nat} {o : Option Nat}
theorem sp_Reader_readToken {Q : Int → IS → Prop} (hj : JT L σ e p) (h1 : ∀ j, nmg (σ.2 101) e false (some p) = some j → Q (p : Int) (pf σ 2 2 (j : Int))) (h0 : nmg (σ.2 101) e false (some p) = none → Q (p : Int) (flt σ 5)) : w_Reader_readToken L Q σ := by
  unfold w_Reader_readToken
  obtain ⟨g1, g2, g3, g4, g5⟩ := hj
  have hd : nmg (σ.2 101) e false (some p) = if isNm (lk (σ.2 101) e p) = true then some (sk isNm (σ.2 101) e (p + 1)) else none := by
    show (if (if (false : Bool) = true then isSt (lk (σ.2 101) e p) else isNm (lk (σ.2 101) e p)) = true then some (sk isNm (σ.2 101) e (p + 1)) else none) = _
    rw [if_neg (show ¬ (false : Bool) = true by decide)]
  rw [hd] at h1 h0
  refine WL_ind (fun s ρ => ∃ j : Nat, s = (j : Int) ∧ ρ = pf σ 2 2 (j : Int) ∧ p ≤ j ∧ (j = p ∨ j ≤ e) ∧ sk isNm (σ.2 101) e p = sk isNm (σ.2 101) e j) (fun s _ => ((e : Int) + 60 - s).toNat) ?_ _ σ ⟨p, g1, (pf_self g1).symm, by omega, Or.inl rfl, rfl⟩
  rintro s ρ ⟨j, rfl, rfl, hj1, hj2, hs⟩ K hI
  try dsimp only
  unfold WJ
  try dsimp only
  rw [(pf_nk (by decide) : (pf σ 2 2 (j : Int)).1 2 3 = σ.1 2 3), g2, pf_eq, g1]
  have hfin : sk isNm (σ.2 101) e j = j → (if (j : Int) = (p : Int) then w_Reader_fail L 5 (fun σ14 => Q (p : Int) σ14) (pf σ 2 2 (j : Int)) else Q (p : Int) (pf σ 2 2 (j : Int))) := by
    intro hj3
    rw [hj3] at hs
    by_cases c2 : j = p
    · subst c2
      rw [if_pos rfl, pf_self g1]
      have hst : isNm (lk (σ.2 101) e j) = false := by
        rw [Bool.eq_false_iff]
        intro hst
        by_cases z : j < e
        · have hl : lk (σ.2 101) e j = σ.2 101 j := by unfold lk; rw [if_pos z]
          rw [hl] at hst
          rw [sk_go z hst] at hs
          have := sk_le (p := isNm) (T := σ.2 101) (show j + 1 ≤ e by omega)
          omega
        · unfold lk at hst
          rw [if_neg z] at hst
          exact absurd hst (by decide)
      exact sp_Reader_fail (h0 (by rw [hst]; rfl))
    · rw [if_neg (by omega)]
      have z : p < e := by omega
      have hl : lk (σ.2 101) e p = σ.2 101 p := by unfold lk; rw [if_pos z]
      have hst : isNm (σ.2 101 p) = true := by
        cases hz : isNm (σ.2 101 p) with
        | true => rfl
        | false =>
          rw [sk_stop hz] at hs
          omega
      refine h1 j ?_
      rw [hl, if_pos hst, ← sk_go z hst, hs]
  by_cases c2 : (j : Int) < (e : Int)
  · rw [if_pos c2]
    refine ⟨⟨by omega, by omega⟩, sp_Reader_isNameCharacter ?_⟩
    rw [if_b1, pf_2, show Int.toNat (j : Int) = j by omega]
    by_cases c3 : isNm (σ.2 101 j) = true
    · rw [if_pos c3, pf_eq]
      refine ⟨⟨by omega, by omega⟩, ⟨by omega, by omega⟩, hI _ _ ⟨j + 1, by omega, ?_, by omega, Or.inr (by omega), by rw [hs, sk_go (by omega) c3]⟩ (by omega)⟩
      rw [pf_pf]
      congr 1
    · rw [if_neg c3]
      have := hfin (sk_stop (by simpa using c3))
      rwa [pf_eq]
  · rw [if_neg c2]
    exact hfin (sk_end (by omega))
theorem j_readToken {Q : Int → IS → Prop} (hS : JS L σ e) (hk : k ≤ 50) (h : jst e k σ o τ) (hq : ∀ v τ', jst e k σ (nmg (σ.2 101) e false o) τ' → (∀ p, o = some p → v = (p : Int)) → (∃ q : Nat, v = (q : Int) ∧ q ≤ e + k ∧ ∀ r : Nat, τ'.1 2 2 = (r : Int) → q ≤ r) → Q v τ') : w_Reader_readToken L Q τ := by
  cases o with
  | some p =>
    obtain ⟨hp, rfl⟩ := h
    refine sp_Reader_readToken (hS.jt hp rfl) (fun j c => ?_) (fun c => ?_)
    · rw [pf_2] at c
      rw [c] at hq
      have hn := nmg_lt c
      refine hq _ _ ⟨hn.2.2, pf_pf⟩ (fun q hq => by cases hq; rfl) ⟨p, rfl, by omega, fun r hr => ?_⟩
      rw [pf_eq] at hr
      omega
    · rw [pf_2] at c
      rw [c] at hq
      refine hq _ _ (flt_none hS hp rfl) (fun q hq => by cases hq; rfl) ⟨p, rfl, by omega, fun r hr => ?_⟩
      have h4 : (pf σ 2 2 (p : Int)).1 2 4 = 0 := by rw [pf_nk (by decide)]; exact hS.2.2.2.1
      unfold flt at hr
      rw [if_pos h4, pf_nk (by decide), pf_eq] at hr
      omega
  | none =>
    obtain ⟨hb, h5⟩ := h
    obtain ⟨p, hj, hpk⟩ := hb.jt hS hk
    refine sp_Reader_readToken hj (fun j c => ?_) (fun c => ?_)
    · have hn := nmg_lt c
      refine hq _ _ ⟨hb.pos (by omega), by rw [pf_nk (by decide)]; exact h5⟩ (fun q hq => by cases hq) ⟨p, rfl, by omega, fun r hr => ?_⟩
      rw [pf_eq] at hr
      omega
    · rw [flt_bad h5]
      refine hq _ _ ⟨hb, h5⟩ (fun q hq => by cases hq) ⟨p, rfl, by omega, fun r hr => ?_⟩
      rw [hj.1] at hr
      omega
theorem sp_Reader_readLiteral {Q : IS → Prop} (hj : JT L σ e p) (h1 : ∀ j, ltl (σ.2 101) e (some p) = some j → Q (pf (pf (pf σ 2 10 ((p : Int) + 1)) 2 11 ((j : Int) - 1 - ((p : Int) + 1))) 2 2 (j : Int))) (h0 : ltl (σ.2 101) e (some p) = none → Q (flt σ 5) ∧ Q (flt (pf σ 2 10 ((p : Int) + 1)) 5)) : w_Reader_readLiteral L Q σ := by
  have hj' := hj
  obtain ⟨g1, g2, g3, g4, g5⟩ := hj'
  have hd : ltl (σ.2 101) e (some p) = if isQt (lk (σ.2 101) e p) = true then (if sk (fun c => !(c == σ.2 101 p)) (σ.2 101) e (p + 1) < e then some (sk (fun c => !(c == σ.2 101 p)) (σ.2 101) e (p + 1) + 1) else none) else none := rfl
  rw [hd] at h1 h0
  unfold w_Reader_readLiteral
  refine sp_Reader_peek hj ?_
  by_cases c : ¬ lk (σ.2 101) e p = 34 ∧ ¬ lk (σ.2 101) e p = 39
  · rw [if_pos c]
    have hq : isQt (lk (σ.2 101) e p) = false := by simp [isQt, c]
    exact sp_Reader_fail (h0 (by rw [hq]; rfl)).1
  · rw [if_neg c]
    have hq : isQt (lk (σ.2 101) e p) = true := by
      have : lk (σ.2 101) e p = 34 ∨ lk (σ.2 101) e p = 39 := by omega
      rcases this with z | z <;> simp [isQt, z]
    have hlt : p < e := by
      by_cases z : p < e
      · exact z
      · unfold lk at hq
        rw [if_neg z] at hq
        exact absurd hq (by decide)
    have hl : lk (σ.2 101) e p = σ.2 101 p := by unfold lk; rw [if_pos hlt]
    rw [hq, if_pos rfl] at h1 h0
    rw [g1, hl]
    refine ⟨⟨by omega, by omega⟩, ?_⟩
    refine WL_ind (fun s ρ => ρ = pf σ 2 10 ((p : Int) + 1) ∧ ∃ j : Nat, s = (j : Int) ∧ p + 1 ≤ j ∧ j ≤ e ∧ sk (fun c => !(c == σ.2 101 p)) (σ.2 101) e (p + 1) = sk (fun c => !(c == σ.2 101 p)) (σ.2 101) e j) (fun s _ => (e - s).toNat) ?_ _ _ ⟨rfl, p + 1, by omega, by omega, by omega, rfl⟩
    rintro s ρ ⟨rfl, j, rfl, hj1, hj2, hs⟩ K hI
    try dsimp only
    rw [(pf_nk (by decide) : (pf σ 2 10 ((p : Int) + 1)).1 2 3 = σ.1 2 3), g2, pf_2, pf_eq, show Int.toNat (j : Int) = j by omega]
    by_cases c2 : (j : Int) < (e : Int)
    · rw [if_pos c2]
      refine ⟨⟨by omega, by omega⟩, ?_⟩
      by_cases c3 : σ.2 101 j = σ.2 101 p
      · rw [if_pos c3]
        have hsj : sk (fun c => !(c == σ.2 101 p)) (σ.2 101) e (p + 1) = j := by
          rw [hs]
          exact sk_stop (by simp [c3])
        rw [hsj, if_pos (by omega)] at h1
        have h2 := h1 (j + 1) rfl
        rw [show (((j + 1 : Nat) : Int) - 1 - ((p : Int) + 1)) = ((j : Int) - ((p : Int) + 1)) by omega, show ((j + 1 : Nat) : Int) = (j : Int) + 1 by omega] at h2
        exact ⟨⟨by omega, by omega⟩, ⟨by omega, by omega⟩, h2⟩
      · rw [if_neg c3]
        exact ⟨⟨by omega, by omega⟩, hI _ _ ⟨rfl, j + 1, by omega, by omega, by omega, by rw [hs, sk_go (by omega) (by simpa using c3)]⟩ (by omega)⟩
    · rw [if_neg c2]
      rw [hs, sk_end (by omega), if_neg (by omega)] at h0
      exact sp_Reader_fail (h0 rfl).2
/-- a literal: where it is, in inner and innerSize -/
theorem j_readLiteral {Q : IS → Prop} (hS : JS L σ e) (hk : k ≤ 50) (h : jst e k σ o τ)
    (h1 : ∀ p j, o = some p → ltl (σ.2 101) e (some p) = some j → ∀ τ', jst e k (pf (pf σ 2 10 ((p : Int) + 1)) 2 11 ((j : Int) - 1 - ((p : Int) + 1))) (some j) τ' → Q τ') (h0 : ltl (σ.2 101) e o = none → ∀ τ', jst e k σ none τ' → Q τ') : w_Reader_readLiteral L Q τ := by
  have he : e < 1000000 := by have := hS.2.1; have := hS.2.2.1; omega
  cases o with
  | some p =>
    obtain ⟨hp, rfl⟩ := h
    refine sp_Reader_readLiteral (hS.jt hp rfl) (fun j c => ?_) (fun c => ⟨?_, ?_⟩)
    · rw [pf_2] at c
      refine h1 p j rfl c _ ⟨(ltl_lt c).2.2, ?_⟩
      rw [pf_comm (o := 2) (k := 2) (p := 2) (j := 10) (by omega), pf_comm (o := 2) (k := 2) (p := 2) (j := 11) (by omega), pf_pf]
    · rw [pf_2] at c
      exact h0 c _ (flt_none hS hp rfl)
    · rw [pf_2] at c
      rw [pf_comm (o := 2) (k := 2) (p := 2) (j := 10) (by omega)]
      exact h0 c _ ((jst.base (by omega)).mp (flt_none (hS.fld (by omega) (by omega)) hp rfl))
  | none =>
    obtain ⟨hb, h5⟩ := h
    obtain ⟨p, hj, hpk⟩ := hb.jt hS hk
    refine sp_Reader_readLiteral hj (fun j c => ?_) (fun c => ⟨?_, ?_⟩)
    · have hl := ltl_lt c
      refine h0 rfl _ ⟨?_, ?_⟩
      · exact ((hb.fld (by omega) (by omega)).fld (by omega) (by omega)).pos (by omega)
      · rw [pf_nk (by decide), pf_nk (by decide), pf_nk (by decide)]
        exact h5
    · rw [flt_bad h5]
      exact h0 rfl _ ⟨hb, h5⟩
    · rw [flt_bad (by rw [pf_nk (by decide)]; exact h5)]
      exact h0 rfl _ ⟨hb.fld (by omega) (by omega), by rw [pf_nk (by decide)]; exact h5⟩
end JRd3
