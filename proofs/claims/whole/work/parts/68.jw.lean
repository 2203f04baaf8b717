/-! ===== the class's reader: states that keep the word read last ===== -/
def jsw (e k : Nat) (σ : IS) (o : Option Nat) (τ : IS) : Prop := jst e k σ o τ ∧ ∀ j : Nat, 6 ≤ j → j ≤ 11 → τ.1 2 j = σ.1 2 j
section JW
variable {L : Nat → Nat} {σ τ : IS} {e k : Nat} {o : Option Nat}
theorem jsw.some {p : Nat} (hp : p ≤ e) (h : τ = pf σ 2 2 (p : Int)) : jsw e k σ (some p) τ := ⟨⟨hp, h⟩, fun j h1 h2 => by rw [h, pf_1, if_neg (by omega)]⟩
theorem jsw.pos {q : Nat} (h : jsw e k σ none τ) (hq : q ≤ e + k) : jsw e k σ none (pf τ 2 2 (q : Int)) := ⟨⟨h.1.1.pos hq, by rw [pf_nk (by decide)]; exact h.1.2⟩, fun j h1 h2 => by rw [pf_1, if_neg (by omega)]; exact h.2 j h1 h2⟩
theorem jsw.bad {p : Nat} (hS : JS L σ e) (hp : p ≤ e) (h : τ = pf σ 2 2 (p : Int)) : jsw e k σ none (flt τ 5) := by
  have h4 : τ.1 2 4 = 0 := by rw [h, pf_nk (by decide)]; exact hS.2.2.2.1
  refine ⟨flt_none hS hp h, fun j h1 h2 => ?_⟩
  unfold flt
  rw [if_pos h4, pf_1, if_neg (by omega), h, pf_1, if_neg (by omega)]
theorem wd_bad {p s : Nat} {l : List Int} (hs : ti s = l) (hl : 0 < l.length) {T : Nat → Int} (c : mt T e p l = true) : p + l.length ≤ e := by
  have hpe : p ≤ e := by
    by_cases z : p ≤ e
    · exact z
    · exfalso
      cases hl2 : l with
      | nil => rw [hl2] at hl; exact absurd hl (by decide)
      | cons a r =>
        rw [hl2] at c
        have c' : ((lk T e p == a) && mt T e (p + 1) r) = true := c
        rw [Bool.and_eq_true] at c'
        have h6 : lk T e p = a := by simpa using c'.1
        unfold lk at h6
        rw [if_neg (by omega)] at h6
        have := ti_pos s a (by rw [hs, hl2]; exact List.mem_cons_self)
        omega
  exact mt_le l p (fun c hc => by have := ti_pos s c (by rw [hs]; exact hc); omega) hpe c
theorem w_need {Q : IS → Prop} (hS : JS L σ e) (hk : k ≤ 50) {s : Nat} {l : List Int} (hs : ti s = l) (hl : 0 < l.length) (h : jsw e k σ o τ) (hq : ∀ τ', jsw e k σ (wd (σ.2 101) e l o) τ' → Q τ') : w_Reader_need L s Q τ := by
  cases o with
  | some p =>
    obtain ⟨⟨hp, rfl⟩, -⟩ := h
    have hw : wd (σ.2 101) e l (some p) = if mt (σ.2 101) e p l = true then some (p + l.length) else none := rfl
    refine sp_Reader_need (hS.jt hp rfl) hs hl (fun c => ?_) (fun c => ?_)
    · rw [pf_2] at c
      rw [hw, if_pos c] at hq
      exact hq _ (jsw.some (wd_bad hs hl c) pf_pf)
    · rw [pf_2] at c
      rw [hw, if_neg (by rw [c]; decide)] at hq
      exact hq _ (jsw.bad hS hp rfl)
  | none =>
    obtain ⟨p, hj, hpk⟩ := h.1.1.jt hS hk
    refine sp_Reader_need hj hs hl (fun c => ?_) (fun c => ?_)
    · have := wd_bad hs hl c
      exact hq _ (h.pos (by omega))
    · rw [flt_bad h.1.2]
      exact hq _ h
theorem w_skipSpace {Q : Int → IS → Prop} (hS : JS L σ e) (hk : k ≤ 50) (h : jsw e k σ o τ) (hq : ∀ v τ', jsw e k σ (asp (σ.2 101) e o) τ' → (∀ p, o = some p → v = if sk isSp (σ.2 101) e p = p then 0 else 1) → Q v τ') : w_Reader_skipSpace L Q τ := by
  cases o with
  | some p =>
    obtain ⟨⟨hp, rfl⟩, -⟩ := h
    have hsl := sk_le (p := isSp) (T := σ.2 101) hp
    refine sp_Reader_skipSpace (hS.jt hp rfl) ?_
    rw [pf_2]
    exact hq _ _ (jsw.some hsl.2 pf_pf) (fun q hq => by cases hq; rfl)
  | none =>
    obtain ⟨p, hj, hpk⟩ := h.1.1.jt hS hk
    refine sp_Reader_skipSpace hj ?_
    have hle : sk isSp (τ.2 101) e p ≤ e + k := by
      by_cases z : p ≤ e
      · have := sk_le (p := isSp) (T := τ.2 101) z
        omega
      · rw [sk_end (by omega)]
        exact hpk
    exact hq _ _ (h.pos hle) (fun q hq => by cases hq)
theorem w_seek {Q : IS → Prop} (hS : JS L σ e) (hk : k ≤ 50) {s : Nat} {l : List Int} (hs : ti s = l) (hl : 0 < l.length) (h : jsw e k σ o τ) (hq : ∀ τ', jsw e k σ (o.bind (sek (σ.2 101) e l)) τ' → Q τ') : w_Reader_seek L s Q τ := by
  cases o with
  | some p =>
    obtain ⟨⟨hp, rfl⟩, -⟩ := h
    refine sp_Reader_seek (hS.jt hp rfl) hs hl (fun j c => ?_) (fun c => ?_)
    · rw [pf_2] at c
      refine hq _ ?_
      rw [Option.bind_some, c]
      exact jsw.some (by have := sek_lt c; omega) pf_pf
    · rw [pf_2] at c
      rw [pf_pf]
      refine hq _ ?_
      rw [Option.bind_some, c]
      exact jsw.bad hS (by split <;> omega) rfl
  | none =>
    obtain ⟨p, hj, hpk⟩ := h.1.1.jt hS hk
    refine sp_Reader_seek hj hs hl (fun j c => ?_) (fun c => ?_)
    · have := sek_lt c
      exact hq _ (h.pos (by omega))
    · rw [flt_bad (by rw [pf_nk (by decide)]; exact h.1.2)]
      exact hq _ (h.pos (by split <;> omega))
theorem w_fail {Q : IS → Prop} (hS : JS L σ e) (h : jsw e k σ o τ) (hq : ∀ τ', jsw e k σ none τ' → Q τ') : w_Reader_fail L 5 Q τ := by
  refine sp_Reader_fail ?_
  cases o with
  | some p => exact hq _ (jsw.bad hS h.1.1 h.1.2)
  | none =>
    rw [flt_bad h.1.2]
    exact hq _ h
/-- with a field set, the base has it -/
theorem jsw.fld {j : Nat} {x : Int} (h : jsw e k σ o τ) (hj : 10 ≤ j ∧ j ≤ 11) (hx : -2000000 ≤ x ∧ x ≤ 2000000) : jsw e k (pf σ 2 j x) o (pf τ 2 j x) := by
  refine ⟨?_, fun i h1 h2 => ?_⟩
  · cases o with
    | some p =>
      refine ⟨h.1.1, ?_⟩
      rw [h.1.2, pf_comm (o := 2) (k := 2) (p := 2) (j := j) (by omega)]
    | none => exact ⟨(JB.base (by omega)).mpr (h.1.1.fld (by omega) hx), by rw [pf_1, if_neg (by omega)]; exact h.1.2⟩
  · rw [pf_1, pf_1]
    split
    · rfl
    · exact h.2 i h1 h2
/-- a colon among these -/
def hasc (l : List Int) : Int := if (58 : Int) ∈ l then 1 else 0
theorem sp_Reader_lookForColon {Q : IS → Prop} {a n : Int} (i m : Nat) (hi : a = (i : Int)) (hm : n = (m : Int)) (him : i + m ≤ L 101) (hL : L 101 < 1000000) (hr : -1000000 ≤ σ.1 2 6 ∧ σ.1 2 6 ≤ 1900000) (h : Q (pf σ 2 6 (σ.1 2 6 + hasc (sl (σ.2 101) i m)))) : w_Reader_lookForColon L a n Q σ := by
  unfold w_Reader_lookForColon
  refine WL_ind (fun s τ => τ = σ ∧ ∃ q : Nat, s = ((i + q : Nat) : Int) ∧ q ≤ m ∧ ∀ r, r < q → σ.2 101 (i + r) ≠ 58) (fun s _ => ((i : Int) + m - s).toNat) ?_ a σ ⟨rfl, 0, by omega, by omega, fun r hr => by omega⟩
  rintro s τ ⟨rfl, q, rfl, hq, hno⟩ K hI
  try dsimp only
  refine ⟨⟨by omega, by omega⟩, ?_⟩
  by_cases c : ((i + q : Nat) : Int) < a + n
  · rw [if_pos c, show Int.toNat ((i + q : Nat) : Int) = i + q by omega]
    refine ⟨⟨by omega, by omega⟩, ?_⟩
    by_cases c2 : τ.2 101 (i + q) = 58
    · rw [if_pos c2]
      refine ⟨⟨by omega, by omega⟩, ?_⟩
      have hm1 : hasc (sl (τ.2 101) i m) = 1 := by
        unfold hasc
        rw [if_pos]
        unfold sl
        exact List.mem_map.mpr ⟨q, List.mem_range.mpr (by omega), c2⟩
      rw [hm1] at h
      exact h
    · rw [if_neg c2]
      refine ⟨⟨by omega, by omega⟩, hI _ _ ⟨rfl, q + 1, by omega, by omega, fun r hr2 => ?_⟩ (by omega)⟩
      by_cases er : r < q
      · exact hno r er
      · rw [show r = q by omega]
        exact c2
  · rw [if_neg c]
    have hm0 : hasc (sl (τ.2 101) i m) = 0 := by
      unfold hasc
      rw [if_neg]
      intro hmem
      unfold sl at hmem
      obtain ⟨r, hr2, e2⟩ := List.mem_map.mp hmem
      have := List.mem_range.mp hr2
      exact hno r (by omega) e2
    rw [hm0, Int.add_zero, pf_self rfl] at h
    exact h
end JW
