/-! ===== the class's reader ===== -/
theorem pf_self {σ : IS} {o k : Nat} {x : Int} (h : σ.1 o k = x) : pf σ o k x = σ := by
  obtain ⟨f, g⟩ := σ
  unfold pf
  congr 1
  funext p j
  rw [uf_at]
  split
  · rename_i e
    rw [e.1, e.2]
    exact h.symm
  · rfl
theorem pf_pf {σ : IS} {o k : Nat} {x y : Int} : pf (pf σ o k x) o k y = pf σ o k y := by
  unfold pf
  congr 1
  funext p j
  rw [uf_at, uf_at]
  split
  · rfl
  · dsimp only
    rw [uf_n (by assumption)]
theorem pf_comm {σ : IS} {o k p j : Nat} {x y : Int} (h : ¬ (o = p ∧ k = j)) : pf (pf σ o k x) p j y = pf (pf σ p j y) o k x := by
  unfold pf
  congr 1
  funext q i
  simp only [uf_at]
  by_cases e1 : q = p ∧ i = j
  · by_cases e2 : q = o ∧ i = k
    · exact absurd ⟨e2.1.symm.trans e1.1, e2.2.symm.trans e1.2⟩ h
    · rw [if_pos e1, if_neg e2, if_pos e1]
  · by_cases e2 : q = o ∧ i = k
    · rw [if_neg e1, if_pos e2, if_pos e2]
    · rw [if_neg e1, if_neg e2, if_neg e2, if_neg e1]
/-- the reader at p, in a text that ends at e -/
def JT (L : Nat → Nat) (σ : IS) (e p : Nat) : Prop := σ.1 2 2 = (p : Int) ∧ σ.1 2 3 = (e : Int) ∧ e ≤ L 101 ∧ L 101 < 1000000 ∧ p ≤ e + 50
theorem JT_pos {L : Nat → Nat} {σ : IS} {e p q : Nat} (h : JT L σ e p) (hq : q ≤ e + 50) : JT L (pf σ 2 2 (q : Int)) e q := ⟨pf_eq, (pf_nk (by decide)).trans h.2.1, h.2.2.1, h.2.2.2.1, hq⟩
def flt (σ : IS) (n : Int) : IS := if σ.1 2 4 = 0 then pf σ 2 4 n else σ
section JRd
variable {L : Nat → Nat} {σ : IS} {e p : Nat}
theorem sp_Reader_fail {n : Int} {Q : IS → Prop} (h : Q (flt σ n)) : w_Reader_fail L n Q σ := by
  unfold w_Reader_fail WJ
  try dsimp only
  unfold flt at h
  split
  · rename_i c
    rw [if_pos c] at h
    exact h
  · rename_i c
    rw [if_neg c] at h
    exact h
theorem sp_Reader_peek {Q : Int → IS → Prop} (hj : JT L σ e p) (h : Q (lk (σ.2 101) e p) σ) : w_Reader_peek L Q σ := by
  obtain ⟨h1, h2, h3, h4, h5⟩ := hj
  unfold w_Reader_peek
  rw [h1, h2]
  refine ⟨fun c => ⟨by omega, by omega⟩, ?_⟩
  have e2 : (if (p : Int) < (e : Int) then σ.2 101 (Int.toNat (p : Int)) else (-1 : Int)) = lk (σ.2 101) e p := by
    unfold lk
    by_cases c : p < e
    · rw [if_pos c, if_pos (by omega), show Int.toNat (p : Int) = p by omega]
    · rw [if_neg c, if_neg (by omega)]
  rw [e2]
  exact h
theorem sp_Reader_atQuote {Q : Int → IS → Prop} (hj : JT L σ e p) (h : Q (b1 (isQt (lk (σ.2 101) e p))) σ) : w_Reader_atQuote L Q σ := by
  unfold w_Reader_atQuote
  refine sp_Reader_peek hj ?_
  refine (congrArg (fun z => Q z σ) ?_).mp h
  simp only [b1, isQt]
  grind
theorem sp_Reader_at {Q : Int → IS → Prop} (hj : JT L σ e p) {s : Nat} {l : List Int} (hs : ti s = l) (hl : 0 < l.length) (h : Q (b1 (mt (σ.2 101) e p l)) σ) : w_Reader_at L s Q σ := by
  subst hs
  obtain ⟨h1, h2, h3, h4, h5⟩ := hj
  have hln := ti_len s
  unfold w_Reader_at
  rw [h1, h2, tN_i]
  refine ⟨⟨by omega, by omega⟩, ?_⟩
  by_cases c : (e : Int) - (p : Int) < ((ti s).length : Int)
  · rw [if_pos c]
    have hm : mt (σ.2 101) e p (ti s) = false := by
      rw [Bool.eq_false_iff]
      intro hm
      by_cases hp : p ≤ e
      · have := mt_le (ti s) p (fun c hc => by have := ti_pos s c hc; omega) hp hm
        omega
      · cases ht : ti s with
        | nil => rw [ht] at hl; exact absurd hl (by decide)
        | cons a r =>
          rw [ht] at hm
          have hm' : ((lk (σ.2 101) e p == a) && mt (σ.2 101) e (p + 1) r) = true := hm
          rw [Bool.and_eq_true] at hm'
          have h6 : lk (σ.2 101) e p = a := by simpa using hm'.1
          unfold lk at h6
          rw [if_neg (by omega)] at h6
          have := ti_pos s a (by rw [ht]; exact List.mem_cons_self)
          omega
    rw [hm] at h
    exact h
  · rw [if_neg c]
    refine WL_ind (fun k τ => τ = σ ∧ ∃ j : Nat, k = (j : Int) ∧ j ≤ (ti s).length ∧ mt (σ.2 101) e p (ti s) = mt (σ.2 101) e (p + j) ((ti s).drop j)) (fun k _ => ((ti s).length - k).toNat) ?_ 0 σ ⟨rfl, 0, rfl, by omega, by simp⟩
    rintro k τ ⟨rfl, j, rfl, hj2, hm⟩ K hI
    try dsimp only
    by_cases c1 : (j : Int) < ((ti s).length : Int)
    · have c' : j < (ti s).length := by omega
      rw [if_pos c1, h1, tC_i rfl c', show Int.toNat ((p : Int) + (j : Int)) = p + j by omega]
      rw [mt_drop c'] at hm
      have hlk : lk (τ.2 101) e (p + j) = τ.2 101 (p + j) := by unfold lk; rw [if_pos (by omega)]
      rw [hlk] at hm
      refine ⟨⟨by omega, by omega⟩, ⟨by omega, by omega⟩, ⟨by omega, by omega⟩, ?_⟩
      by_cases c2 : τ.2 101 (p + j) = (ti s)[j]
      · rw [if_pos c2]
        refine ⟨⟨by omega, by omega⟩, hI _ _ ⟨rfl, j + 1, by omega, by omega, ?_⟩ (by omega)⟩
        rw [hm]
        simp [c2]
      · rw [if_neg c2]
        have e3 : mt (τ.2 101) e p (ti s) = false := by
          rw [hm]
          simp [c2]
        rw [e3] at h
        exact h
    · rw [if_neg c1]
      have e2 : j = (ti s).length := by omega
      subst e2
      rw [List.drop_length] at hm
      rw [hm] at h
      exact h
theorem sp_Reader_skip {Q : Int → IS → Prop} (hj : JT L σ e p) {s : Nat} {l : List Int} (hs : ti s = l) (hl : 0 < l.length) (h1 : mt (σ.2 101) e p l = true → Q 1 (pf σ 2 2 ((p + l.length : Nat) : Int))) (h0 : mt (σ.2 101) e p l = false → Q 0 σ) : w_Reader_skip L s Q σ := by
  unfold w_Reader_skip
  refine sp_Reader_at hj hs hl ?_
  unfold WJ
  try dsimp only
  rw [if_b1]
  have hln := ti_len s
  obtain ⟨g1, g2, g3, g4, g5⟩ := hj
  by_cases c : mt (σ.2 101) e p l = true
  · rw [if_pos c, c, g1, tN_i, hs, show (p : Int) + (l.length : Int) = ((p + l.length : Nat) : Int) by omega]
    rw [hs] at hln
    exact ⟨⟨by omega, by omega⟩, Or.inr rfl, h1 c⟩
  · rw [if_neg c]
    have c' : mt (σ.2 101) e p l = false := by simpa using c
    rw [c']
    exact ⟨Or.inl rfl, h0 c'⟩
theorem sp_Reader_need {Q : IS → Prop} (hj : JT L σ e p) {s : Nat} {l : List Int} (hs : ti s = l) (hl : 0 < l.length) (h1 : mt (σ.2 101) e p l = true → Q (pf σ 2 2 ((p + l.length : Nat) : Int))) (h0 : mt (σ.2 101) e p l = false → Q (flt σ 5)) : w_Reader_need L s Q σ := by
  unfold w_Reader_need
  refine sp_Reader_at hj hs hl ?_
  unfold WJ
  try dsimp only
  rw [if_b1]
  have hln := ti_len s
  obtain ⟨g1, g2, g3, g4, g5⟩ := hj
  by_cases c : mt (σ.2 101) e p l = true
  · rw [if_pos c, g1, tN_i, hs, show (p : Int) + (l.length : Int) = ((p + l.length : Nat) : Int) by omega]
    rw [hs] at hln
    exact ⟨⟨by omega, by omega⟩, h1 c⟩
  · rw [if_neg c]
    exact sp_Reader_fail (h0 (by simpa using c))
theorem sp_Reader_skipSpace {Q : Int → IS → Prop} (hj : JT L σ e p) (h : Q (if sk isSp (σ.2 101) e p = p then 0 else 1) (pf σ 2 2 ((sk isSp (σ.2 101) e p : Nat) : Int))) : w_Reader_skipSpace L Q σ := by
  unfold w_Reader_skipSpace
  obtain ⟨g1, g2, g3, g4, g5⟩ := hj
  refine WL_ind (fun k τ => ∃ j : Nat, k = (j : Int) ∧ τ = pf σ 2 2 (j : Int) ∧ p ≤ j ∧ j ≤ e + 50 ∧ sk isSp (σ.2 101) e p = sk isSp (σ.2 101) e j) (fun k _ => (e - k).toNat) ?_ _ σ ⟨p, g1, (pf_self g1).symm, by omega, g5, rfl⟩
  rintro k τ ⟨j, rfl, rfl, hj1, hj2, hs⟩ K hI
  try dsimp only
  unfold WJ
  try dsimp only
  rw [(pf_nk (by decide) : (pf σ 2 2 (j : Int)).1 2 3 = σ.1 2 3), g2]
  have hfin : sk isSp (σ.2 101) e j = j → Q (if σ.1 2 2 < (pf σ 2 2 (j : Int)).1 2 2 then (1 : Int) else (0 : Int)) (pf σ 2 2 (j : Int)) := by
    intro hj3
    rw [hs, hj3] at h
    rw [pf_eq, g1]
    by_cases c : j = p
    · rw [if_pos c] at h
      rw [if_neg (by omega)]
      exact h
    · rw [if_neg c] at h
      rw [if_pos (by omega)]
      exact h
  by_cases c : (j : Int) < (e : Int)
  · rw [if_pos c]
    refine ⟨⟨by omega, by omega⟩, sp_Reader_isSpace ?_⟩
    rw [if_b1, pf_2, show Int.toNat (j : Int) = j by omega]
    by_cases c2 : isSp (σ.2 101 j) = true
    · rw [if_pos c2, pf_eq]
      refine ⟨⟨by omega, by omega⟩, ⟨by omega, by omega⟩, hI _ _ ⟨j + 1, by omega, ?_, by omega, by omega, by rw [hs, sk_go (by omega) c2]⟩ (by omega)⟩
      rw [pf_pf]
      congr 1
    · rw [if_neg c2]
      exact hfin (sk_stop (by simpa using c2))
  · rw [if_neg c]
    exact hfin (sk_end (by omega))
theorem sp_Reader_needSpace {Q : IS → Prop} (hj : JT L σ e p) (h1 : sk isSp (σ.2 101) e p ≠ p → Q (pf σ 2 2 ((sk isSp (σ.2 101) e p : Nat) : Int))) (h0 : sk isSp (σ.2 101) e p = p → Q (flt σ 5)) : w_Reader_needSpace L Q σ := by
  unfold w_Reader_needSpace
  refine sp_Reader_skipSpace hj ?_
  unfold WJ
  try dsimp only
  by_cases c : sk isSp (σ.2 101) e p = p
  · rw [if_pos c, if_pos rfl, c, pf_self hj.1]
    exact sp_Reader_fail (h0 c)
  · rw [if_neg c, if_neg (by decide)]
    exact h1 c
/-- a name or not: pos behind it, or a fault -/
theorem sp_Reader_readName {Q : Int → IS → Prop} (hj : JT L σ e p) (h1 : ∀ j, nmg (σ.2 101) e true (some p) = some j → Q (p : Int) (pf σ 2 2 (j : Int))) (h0 : nmg (σ.2 101) e true (some p) = none → Q (p : Int) (flt σ 5)) : w_Reader_readName L Q σ := by
  unfold w_Reader_readName
  have hj' := hj
  obtain ⟨g1, g2, g3, g4, g5⟩ := hj'
  have hd : nmg (σ.2 101) e true (some p) = if isSt (lk (σ.2 101) e p) = true then some (sk isNm (σ.2 101) e (p + 1)) else none := by
    show (if (if (true : Bool) = true then isSt (lk (σ.2 101) e p) else isNm (lk (σ.2 101) e p)) = true then some (sk isNm (σ.2 101) e (p + 1)) else none) = _
    rw [if_pos rfl]
  rw [hd] at h1 h0
  unfold WJ
  try dsimp only
  rw [g1, g2]
  have hbad : isSt (lk (σ.2 101) e p) = false → (if σ.1 2 2 = (p : Int) then w_Reader_fail L 5 (fun σ10 => Q (p : Int) σ10) σ else Q (p : Int) σ) := by
    intro hn
    rw [if_pos g1]
    exact sp_Reader_fail (h0 (by rw [hn]; rfl))
  by_cases c : (p : Int) < (e : Int)
  · have c' : p < e := by omega
    have hlk : lk (σ.2 101) e p = σ.2 101 p := by unfold lk; rw [if_pos c']
    rw [hlk] at hbad h1 h0
    rw [if_pos c, show Int.toNat (p : Int) = p by omega]
    refine ⟨⟨by omega, by omega⟩, sp_Reader_isNoStart ?_⟩
    rw [if_b1]
    have hns := nm_st (σ.2 101 p)
    by_cases c1 : noSt (σ.2 101 p) = true
    · rw [if_pos c1]
      rw [c1] at hns
      exact hbad (by rw [← hns]; simp)
    · rw [if_neg c1, g1]
      have c1' : noSt (σ.2 101 p) = false := by simpa using c1
      rw [c1'] at hns
      have hns' : isNm (σ.2 101 p) = isSt (σ.2 101 p) := by rw [← hns]; simp
      refine WL_ind (fun k τ => ∃ j : Nat, k = (j : Int) ∧ τ = pf σ 2 2 (j : Int) ∧ p ≤ j ∧ j ≤ e ∧ sk isNm (σ.2 101) e p = sk isNm (σ.2 101) e j) (fun k _ => (e - k).toNat) ?_ _ σ ⟨p, rfl, (pf_self g1).symm, by omega, by omega, rfl⟩
      rintro k τ ⟨j, rfl, rfl, hj1, hj2, hs⟩ K hI
      try dsimp only
      rw [(pf_nk (by decide) : (pf σ 2 2 (j : Int)).1 2 3 = σ.1 2 3), g2, pf_eq]
      have hfin : sk isNm (σ.2 101) e j = j → (if (j : Int) = (p : Int) then w_Reader_fail L 5 (fun σ10 => Q (p : Int) σ10) (pf σ 2 2 (j : Int)) else Q (p : Int) (pf σ 2 2 (j : Int))) := by
        intro hj3
        rw [hj3] at hs
        by_cases c2 : j = p
        · subst c2
          rw [if_pos rfl, pf_self g1]
          have hst : isSt (σ.2 101 j) = false := by
            rw [Bool.eq_false_iff]
            intro hst
            rw [sk_go c' (by rw [hns']; exact hst)] at hs
            have := sk_le (p := isNm) (T := σ.2 101) (show j + 1 ≤ e by omega)
            omega
          exact sp_Reader_fail (h0 (by rw [hst]; rfl))
        · rw [if_neg (by omega)]
          have hst : isNm (σ.2 101 p) = true := by
            cases hz : isNm (σ.2 101 p) with
            | true => rfl
            | false =>
              rw [sk_stop hz] at hs
              omega
          refine h1 j ?_
          rw [← hns', if_pos hst, ← sk_go c' hst, hs]
      by_cases c2 : (j : Int) < (e : Int)
      · rw [if_pos c2]
        refine ⟨⟨by omega, by omega⟩, sp_Reader_isNameCharacter ?_⟩
        rw [if_b1, pf_2, show Int.toNat (j : Int) = j by omega]
        by_cases c3 : isNm (σ.2 101 j) = true
        · rw [if_pos c3, pf_eq]
          refine ⟨⟨by omega, by omega⟩, ⟨by omega, by omega⟩, hI _ _ ⟨j + 1, by omega, ?_, by omega, by omega, by rw [hs, sk_go (by omega) c3]⟩ (by omega)⟩
          rw [pf_pf]
          congr 1
        · rw [if_neg c3]
          have := hfin (sk_stop (by simpa using c3))
          rwa [pf_eq]
      · rw [if_neg c2]
        exact hfin (sk_end (by omega))
  · rw [if_neg c]
    have h9 := hbad (by unfold lk; rw [if_neg (by omega)]; decide)
    rw [g1] at h9
    exact h9
end JRd
