/-! ===== an entity's text in both ===== -/
section KEt
variable {L : Nat → Nat} {Q : Int → IS → Prop} {σ : IS} {e : Nat}
theorem sp_KReader_entityText (hk : KT L σ e) (hc : chs σ e) {x : Int} (o : Option Nat) (hx : x = enc o) (ho : ple e o) (h : Q (enc (etx (σ.2 176) e o)) σ) : w_KReader_entityText L x Q σ := by
  unfold w_KReader_entityText WJ
  try dsimp only
  have hk' := hk
  obtain ⟨hk1, hk2, hk3⟩ := hk'
  cases o with
  | none =>
    rw [if_pos (by rw [hx]; decide)]
    refine sp_KReader_isQuote ?_
    rw [if_pos (by decide)]
    exact h
  | some i =>
    have hi := ho i rfl
    have hx' : x = (i : Int) := hx
    have h' : Q (enc (if isQt (lk (σ.2 176) e i) = true then etg (σ.2 176) e (σ.2 176 i) (e + 1) (i + 1) else none)) σ := h
    rw [if_neg (by omega)]
    refine sp_KReader_look hk i hx' (sp_KReader_isQuote ?_)
    rw [if_b1]
    by_cases c : isQt (lk (σ.2 176) e i) = true
    · rw [if_pos c] at h'
      rw [if_pos (show (lk (σ.2 176) e i == 34 || lk (σ.2 176) e i == 39) = true from c)]
      have hlt : i < e := by
        by_cases z : i < e
        · exact z
        · unfold lk at c
          rw [if_neg z] at c
          exact absurd c (by decide)
      have hli : lk (σ.2 176) e i = σ.2 176 i := by unfold lk; rw [if_pos hlt]
      rw [hli]
      refine ⟨⟨by omega, by omega⟩, ?_⟩
      refine WL_ind (fun k τ => τ = σ ∧ ((k = -1 ∧ etg (σ.2 176) e (σ.2 176 i) (e + 1) (i + 1) = none) ∨ ∃ j : Nat, k = (j : Int) ∧ j ≤ e ∧ etg (σ.2 176) e (σ.2 176 i) (e + 1) (i + 1) = etg (σ.2 176) e (σ.2 176 i) (e + 1) j)) (fun k _ => if k < 0 then 0 else (e + 1 - k).toNat) ?_ (x + 1) σ ⟨rfl, Or.inr ⟨i + 1, by omega, by omega, rfl⟩⟩
      rintro k τ ⟨rfl, hk9⟩ K hI
      try dsimp only
      rw [hk1]
      rcases hk9 with ⟨rfl, hn⟩ | ⟨j, rfl, hj, hs⟩
      · refine ⟨fun z => absurd (by decide) z, ?_⟩
        rw [if_neg (fun z => z.1 (by decide))]
        refine ⟨fun z => absurd (by decide) z, ?_⟩
        rw [if_pos (by decide)]
        rw [hn] at h'
        exact h'
      · rw [show Int.toNat (j : Int) = j by omega]
        refine ⟨fun _ c2 => ⟨by omega, by omega⟩, ?_⟩
        have hstep : etg (τ.2 176) e (τ.2 176 i) (e + 1) j = (if j < e then (if τ.2 176 j = τ.2 176 i then some (j + 1) else if τ.2 176 j = 38 then (match rfp (τ.2 176) e (some j) with
          | none => none
          | some m => etg (τ.2 176) e (τ.2 176 i) e m) else if τ.2 176 j = 37 then (match pcp (τ.2 176) e j with
          | none => none
          | some m => etg (τ.2 176) e (τ.2 176 i) e m) else etg (τ.2 176) e (τ.2 176 i) e (j + 1)) else none) := rfl
        have hgo : ∀ o : Option Nat, (∀ m, o = some m → j < m ∧ m ≤ e) → etg (τ.2 176) e (τ.2 176 i) (e + 1) j = (match o with
          | none => none
          | some m => etg (τ.2 176) e (τ.2 176 i) e m) → (¬ (j : Int) < 0) → K (enc o) τ := by
          intro o ho2 hst hj0
          cases o with
          | none => exact hI _ _ ⟨rfl, Or.inl ⟨rfl, by rw [hs, hst]⟩⟩ (by rw [if_pos (by decide), if_neg hj0]; omega)
          | some m =>
            have hm := ho2 m rfl
            refine hI _ _ ⟨rfl, Or.inr ⟨m, rfl, hm.2, ?_⟩⟩ ?_
            · rw [hs, hst]
              exact etg_fuel _ _ _ (by omega) (by omega)
            · show (if ((m : Nat) : Int) < 0 then 0 else (((e : Int) + 1 - ((m : Nat) : Int)).toNat)) < _
              rw [if_neg (by omega), if_neg hj0]
              omega
        by_cases c2 : ¬ (j : Int) < 0 ∧ ((j : Int) < (e : Int) ∧ ¬ τ.2 176 j = τ.2 176 i)
        · rw [if_pos c2]
          have c3 : j < e := by omega
          rw [if_pos c3, if_neg c2.2.2] at hstep
          refine ⟨⟨by omega, by omega⟩, ?_⟩
          by_cases c4 : τ.2 176 j = 38
          · rw [if_pos c4] at hstep ⊢
            refine sp_KReader_reference hk hc (some j) rfl (fun k hk => by cases hk; exact hj) ?_
            exact hgo _ (fun m hm => by have := rfp_lt hm; omega) hstep c2.1
          · rw [if_neg c4] at hstep ⊢
            by_cases c5 : τ.2 176 j = 37
            · rw [if_pos c5] at hstep ⊢
              refine ⟨⟨by omega, by omega⟩, ?_⟩
              refine sp_KReader_name hk (some (j + 1)) (by show (j : Int) + 1 = ((j + 1 : Nat) : Int); omega) (fun k hk => by cases hk; omega) (sp_word hk _ rfl nmg_le ti_1100 ?_)
              exact hgo (pcp (τ.2 176) e j) (fun m hm => by have := pcp_lt hm; omega) hstep c2.1
            · rw [if_neg c5] at hstep ⊢
              refine ⟨⟨by omega, by omega⟩, ?_⟩
              exact hgo (some (j + 1)) (fun m hm => by cases hm; omega) hstep c2.1
        · rw [if_neg c2]
          refine ⟨fun _ c3 => ⟨by omega, by omega⟩, ?_⟩
          rw [if_neg (by omega)]
          by_cases c3 : j < e
          · rw [if_pos (by omega)]
            have c4 : τ.2 176 j = τ.2 176 i := Classical.byContradiction (fun z => c2 ⟨by omega, by omega, z⟩)
            rw [if_pos c3, if_pos c4] at hstep
            rw [hs, hstep] at h'
            exact h'
          · rw [if_neg (by omega)]
            rw [if_neg c3] at hstep
            rw [hs, hstep] at h'
            exact h'
    · rw [if_neg c] at h'
      rw [if_neg (show ¬ (lk (σ.2 176) e i == 34 || lk (σ.2 176) e i == 39) = true from c)]
      exact h'
end KEt
theorem sk_at {p : Int → Bool} {T : Nat → Int} : ∀ (n i : Nat), skw p T n i < i + n → p (T (skw p T n i)) = false := by
  intro n
  induction n with
  | zero => intro i h; exact absurd h (by show ¬ i < i + 0; omega)
  | succ n ih =>
    intro i h
    have h' : (if p (T i) = true then skw p T n (i + 1) else i) < i + (n + 1) := h
    show p (T (if p (T i) = true then skw p T n (i + 1) else i)) = false
    by_cases c : p (T i) = true
    · rw [if_pos c] at h' ⊢
      exact ih (i + 1) (by omega)
    · rw [if_neg c]
      simpa using c
theorem sk_not {p : Int → Bool} {T : Nat → Int} {e i : Nat} (hi : i ≤ e) (h : sk p T e i < e) : p (T (sk p T e i)) = false := sk_at _ _ (by unfold sk at h; omega)
theorem ltl_q {T : Nat → Int} {e p j : Nat} (h : ltl T e (some p) = some j) : T (j - 1) = T p := by
  have hlt := ltl_lt h
  have h' : (if isQt (lk T e p) = true then (if sk (fun c => !(c == T p)) T e (p + 1) < e then some (sk (fun c => !(c == T p)) T e (p + 1) + 1) else none) else none) = some j := h
  by_cases hc : isQt (lk T e p) = true
  · rw [if_pos hc] at h'
    split at h'
    · rename_i hs
      have ej := Option.some.inj h'
      have hn := sk_not (p := fun c => !(c == T p)) (T := T) (show p + 1 ≤ e by omega) hs
      rw [show j - 1 = sk (fun c => !(c == T p)) T e (p + 1) by omega]
      simpa using hn
    · cases h'
  · rw [if_neg hc] at h'
    cases h'
section JEt
variable {L : Nat → Nat} {σ τ : IS} {e k : Nat} {o : Option Nat}
theorem etx_none {T : Nat → Int} {p : Nat} (h : ltl T e (some p) = none) : etx T e (some p) = none := by
  cases hz : etx T e (some p) with
  | none => rfl
  | some j =>
    exfalso
    have h' : (if isQt (lk T e p) = true then etg T e (T p) (e + 1) (p + 1) else none) = some j := hz
    by_cases hc : isQt (lk T e p) = true
    · rw [if_pos hc] at h'
      have hlt : p < e := by
        by_cases z : p < e
        · exact z
        · unfold lk at hc
          rw [if_neg z] at hc
          exact absurd hc (by decide)
      have hl : lk T e p = T p := by unfold lk; rw [if_pos hlt]
      have hc2 := hc
      rw [hl] at hc2
      have hq : T p = 34 ∨ T p = 39 := by simpa [isQt] using hc2
      have g := etg_ltl hq _ _ _ h'
      have hl2 : (if isQt (lk T e p) = true then (if sk (fun c => !(c == T p)) T e (p + 1) < e then some (sk (fun c => !(c == T p)) T e (p + 1) + 1) else none) else none) = (none : Option Nat) := h
      rw [if_pos hc] at hl2
      have hge : ¬ sk (fun c => !(c == T p)) T e (p + 1) < e := by
        intro z
        rw [if_pos z] at hl2
        cases hl2
      have := sk_all (p := fun c => !(c == T p)) (T := T) (e := e) (i := p + 1) (j - 1) (by omega) (by omega)
      rw [g.2.2.1] at this
      simp at this
    · rw [if_neg hc] at h'
      cases h'
theorem etx_some {T : Nat → Int} {p j m : Nat} (hl : ltl T e (some p) = some j) (h : etx T e (some p) = some m) : m = j := by
  have h' : (if isQt (lk T e p) = true then etg T e (T p) (e + 1) (p + 1) else none) = some m := h
  have hl2 : (if isQt (lk T e p) = true then (if sk (fun c => !(c == T p)) T e (p + 1) < e then some (sk (fun c => !(c == T p)) T e (p + 1) + 1) else none) else none) = some j := hl
  have hlt := ltl_lt hl
  by_cases hc : isQt (lk T e p) = true
  · rw [if_pos hc] at h' hl2
    have hlp : lk T e p = T p := by unfold lk; rw [if_pos hlt.1]
    rw [hlp] at hc
    have hq : T p = 34 ∨ T p = 39 := by simpa [isQt] using hc
    have g := etg_ltl hq _ _ _ h'
    split at hl2
    · rename_i hs
      have ej := Option.some.inj hl2
      have hall := sk_all (p := fun c => !(c == T p)) (T := T) (e := e) (i := p + 1)
      have hTj : T (j - 1) = T p := ltl_q hl
      by_cases z : m < j
      · have := hall (m - 1) (by omega) (by omega)
        rw [g.2.2.1] at this
        simp at this
      · by_cases z2 : j < m
        · exact absurd hTj (g.2.2.2 (j - 1) (by omega) (by omega))
        · omega
    · cases hl2
  · rw [if_neg hc] at h'
    cases h'
end JEt
