/-! ===== the class's reader, further ===== -/
def sekw (T : Nat → Int) (e : Nat) (l : List Int) : Nat → Nat → Option Nat
  | 0, _ => none
  | n + 1, i => if mt T e i l = true then some i else sekw T e l n (i + 1)
/-- the first place from i on, below e, where the word stands -/
def sek (T : Nat → Int) (e : Nat) (l : List Int) (i : Nat) : Option Nat := sekw T e l (e - i) i
theorem sek_hit {T : Nat → Int} {e i : Nat} {l : List Int} (h : i < e) (hm : mt T e i l = true) : sek T e l i = some i := by
  unfold sek
  rw [show e - i = (e - (i + 1)) + 1 by omega]
  show (if mt T e i l = true then some i else _) = _
  rw [if_pos hm]
theorem sek_go {T : Nat → Int} {e i : Nat} {l : List Int} (h : i < e) (hm : mt T e i l = false) : sek T e l i = sek T e l (i + 1) := by
  unfold sek
  rw [show e - i = (e - (i + 1)) + 1 by omega]
  show (if mt T e i l = true then some i else sekw T e l (e - (i + 1)) (i + 1)) = _
  rw [if_neg (by rw [hm]; decide)]
theorem sek_end {T : Nat → Int} {e i : Nat} {l : List Int} (h : e ≤ i) : sek T e l i = none := by
  unfold sek
  rw [show e - i = 0 by omega]
  rfl
theorem sekw_lt {T : Nat → Int} {e : Nat} {l : List Int} : ∀ (n i j : Nat), sekw T e l n i = some j → i ≤ j ∧ j < i + n ∧ mt T e j l = true := by
  intro n
  induction n with
  | zero => intro i j h; cases h
  | succ n ih =>
    intro i j h
    have h' : (if mt T e i l = true then some i else sekw T e l n (i + 1)) = some j := h
    split at h'
    · rename_i hm
      cases h'
      exact ⟨Nat.le_refl _, by omega, hm⟩
    · have := ih (i + 1) j h'
      exact ⟨by omega, by omega, this.2.2⟩
theorem sek_lt {T : Nat → Int} {e i j : Nat} {l : List Int} (h : sek T e l i = some j) : i ≤ j ∧ j < e ∧ mt T e j l = true := by
  have := sekw_lt _ _ _ h
  exact ⟨this.1, by omega, this.2.2⟩
section JRd2
variable {L : Nat → Nat} {σ τ : IS} {e p k : Nat} {o : Option Nat}
theorem sp_Reader_seek {Q : IS → Prop} (hj : JT L σ e p) {s : Nat} {l : List Int} (hs : ti s = l) (hl : 0 < l.length) (h1 : ∀ j, sek (σ.2 101) e l p = some j → Q (pf σ 2 2 (j : Int))) (h0 : sek (σ.2 101) e l p = none → Q (flt (pf σ 2 2 ((if p < e then e - 1 else p : Nat) : Int)) 5)) : w_Reader_seek L s Q σ := by
  have hj' := hj
  obtain ⟨g1, g2, g3, g4, g5⟩ := hj'
  unfold w_Reader_seek
  refine WL_ind (fun i ρ => ∃ j q : Nat, i = (j : Int) ∧ ρ = pf σ 2 2 (q : Int) ∧ p ≤ j ∧ sek (σ.2 101) e l p = sek (σ.2 101) e l j ∧ (j = p ∧ q = p ∨ p < j ∧ j ≤ e ∧ q = j - 1)) (fun i _ => (e - i).toNat) ?_ _ σ ⟨p, p, g1, (pf_self g1).symm, by omega, rfl, Or.inl ⟨rfl, rfl⟩⟩
  rintro i ρ ⟨j, q, rfl, rfl, hj1, hse, hq⟩ K hI
  try dsimp only
  rw [(pf_nk (by decide) : (pf σ 2 2 (q : Int)).1 2 3 = σ.1 2 3), g2]
  by_cases c : (j : Int) < (e : Int)
  · rw [if_pos c, pf_pf]
    refine sp_Reader_at (JT_pos hj (by omega)) hs hl ?_
    rw [if_b1, pf_2]
    by_cases c1 : mt (σ.2 101) e j l = true
    · rw [if_pos c1]
      exact h1 j (by rw [hse, sek_hit (by omega) c1])
    · rw [if_neg c1]
      exact ⟨⟨by omega, by omega⟩, hI _ _ ⟨j + 1, j, by omega, rfl, by omega, by rw [hse, sek_go (by omega) (by simpa using c1)], Or.inr ⟨by omega, by omega, by omega⟩⟩ (by omega)⟩
  · rw [if_neg c]
    refine sp_Reader_fail ?_
    have h2 := h0 (by rw [hse, sek_end (by omega)])
    have eq : (if p < e then e - 1 else p : Nat) = q := by
      by_cases z : p < e
      · rw [if_pos z]; omega
      · rw [if_neg z]; omega
    rw [eq] at h2
    exact h2
theorem j_seek {Q : IS → Prop} (hS : JS L σ e) (hk : k ≤ 50) {s : Nat} {l : List Int} (hs : ti s = l) (hl : 0 < l.length) (h : jst e k σ o τ) (hq : ∀ τ', jst e k σ (o.bind (sek (σ.2 101) e l)) τ' → Q τ') : w_Reader_seek L s Q τ := by
  cases o with
  | some p =>
    obtain ⟨hp, rfl⟩ := h
    refine sp_Reader_seek (hS.jt hp rfl) hs hl (fun j c => ?_) (fun c => ?_)
    · rw [pf_2] at c
      have hq' : ∀ τ', jst e k σ (some j) τ' → Q τ' := by
        intro τ' h'
        exact hq τ' (by rw [Option.bind_some, c]; exact h')
      exact hq' _ ⟨by have := sek_lt c; omega, pf_pf⟩
    · rw [pf_2] at c
      rw [pf_pf]
      refine hq _ ?_
      rw [Option.bind_some, c]
      exact flt_none hS (by split <;> omega) rfl
  | none =>
    obtain ⟨hb, h5⟩ := h
    obtain ⟨p, hj, hpk⟩ := hb.jt hS hk
    refine sp_Reader_seek hj hs hl (fun j c => ?_) (fun c => ?_)
    · have := sek_lt c
      exact hq _ ⟨hb.pos (by omega), by rw [pf_nk (by decide)]; exact h5⟩
    · rw [flt_bad (by rw [pf_nk (by decide)]; exact h5)]
      exact hq _ ⟨hb.pos (by split <;> omega), by rw [pf_nk (by decide)]; exact h5⟩
theorem j_readComment {Q : IS → Prop} (hS : JS L σ e) (hk : k ≤ 50) (h : jst e k σ o τ) (hq : ∀ τ', jst e k σ (wd (σ.2 101) e [45, 45, 62] ((wd (σ.2 101) e [60, 33, 45, 45] o).bind (sek (σ.2 101) e [45, 45]))) τ' → Q τ') : w_Reader_readComment L Q τ := by
  unfold w_Reader_readComment
  exact j_need hS hk ti_1050 (by decide) h (fun _ h1 => j_seek hS hk ti_1051 (by decide) h1 (fun _ h2 => j_need hS hk ti_1052 (by decide) h2 hq))
/-- a word of the text against small letters -/
theorem sp_Reader_isWrittenAs {Q : Int → IS → Prop} (hL : L 101 < 1000000) (hch : ∀ i, i < L 101 → -1 ≤ σ.2 101 i ∧ σ.2 101 i ≤ 2000000) {a n : Int} (i m : Nat) (hi : a = (i : Int)) (hm : n = (m : Int)) (him : i + m ≤ L 101) {s : Nat} {l : List Int} (hs : ti s = l) (h1 : (sl (σ.2 101) i m).map lowr = l → Q 1 σ) (h0 : (sl (σ.2 101) i m).map lowr ≠ l → Q 0 σ) : w_Reader_isWrittenAs L a n s Q σ := by
  subst hs
  have hl := ti_len s
  unfold w_Reader_isWrittenAs
  rw [tN_i]
  by_cases c : n = ((ti s).length : Int)
  · rw [if_pos c]
    refine WL_ind (fun k τ => τ = σ ∧ ∃ j : Nat, k = (j : Int) ∧ j ≤ m ∧ ∀ q, q < j → (ti s)[q]? = some (lowr (σ.2 101 (i + q)))) (fun k _ => (m - k).toNat) ?_ 0 σ ⟨rfl, 0, rfl, by omega, fun q hq => by omega⟩
    rintro k τ ⟨rfl, j, rfl, hj, hq⟩ K hI
    try dsimp only
    by_cases c1 : (j : Int) < n
    · have c' : j < (ti s).length := by omega
      have hc := hch (i + j) (by omega)
      rw [if_pos c1, tC_i rfl c', show Int.toNat (a + (j : Int)) = i + j by omega]
      have elow : (if τ.2 101 (i + j) < 65 then τ.2 101 (i + j) else (if 90 < τ.2 101 (i + j) then τ.2 101 (i + j) else (τ.2 101 (i + j) + 32))) = lowr (τ.2 101 (i + j)) := by
        simp only [lowr, inI]
        grind
      rw [elow]
      refine ⟨⟨by omega, by omega⟩, ⟨by omega, by omega⟩, fun _ _ => ⟨by omega, by omega⟩, ⟨by omega, by omega⟩, ?_⟩
      by_cases c2 : lowr (τ.2 101 (i + j)) = (ti s)[j]
      · rw [if_pos c2]
        refine ⟨⟨by omega, by omega⟩, hI _ _ ⟨rfl, j + 1, by omega, by omega, fun q hq2 => ?_⟩ (by omega)⟩
        by_cases ej : q < j
        · exact hq q ej
        · have e1 : q = j := by omega
          subst e1
          rw [List.getElem?_eq_getElem c', c2]
      · rw [if_neg c2]
        apply h0
        intro e2
        have e3 := congrArg (fun z => z[j]?) e2
        simp only [List.getElem?_map, sl_get (show j < m by omega), List.getElem?_eq_getElem c', Option.map_some] at e3
        exact c2 (Option.some.inj e3)
    · rw [if_neg c1]
      apply h1
      apply List.ext_getElem?
      intro q
      by_cases eq : q < m
      · rw [List.getElem?_map, sl_get eq]
        exact (hq q (by omega)).symm
      · rw [List.getElem?_eq_none_iff.mpr (by rw [List.length_map, sl_ln]; omega), List.getElem?_eq_none_iff.mpr (by omega)]
  · rw [if_neg c]
    apply h0
    intro e2
    have := congrArg List.length e2
    rw [List.length_map, sl_ln] at this
    omega
end JRd2
