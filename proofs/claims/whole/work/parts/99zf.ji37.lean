/-! ===== items of the class: tags (6): marks; attributes, step by step ===== -/
section JI37
variable {T : Nat → Int} {e : Nat}
theorem atL_fuel : ∀ (n m k : Nat), k ≤ e → e < n + k → e < m + k → atL T e n k = atL T e m k := by
  intro n
  induction n with
  | zero => intro m k h0 h1 h2; omega
  | succ n ih =>
    intro m k h0 h1 h2
    cases m with
    | zero => omega
    | succ m =>
      show (match spc T e (some k) with
        | none => []
        | some x => match nmg T e true (some x) with
          | none => []
          | some b => match eqs T e (some b) with
            | none => []
            | some v => match vlp T e (some v) with
              | none => []
              | some j => (x, b, v, j) :: atL T e n j) = (match spc T e (some k) with
        | none => []
        | some x => match nmg T e true (some x) with
          | none => []
          | some b => match eqs T e (some b) with
            | none => []
            | some v => match vlp T e (some v) with
              | none => []
              | some j => (x, b, v, j) :: atL T e m j)
      cases hs : spc T e (some k) with
      | none => rfl
      | some x =>
        dsimp only
        have g1 := spc_gt h0 hs
        cases hn : nmg T e true (some x) with
        | none => rfl
        | some b =>
          dsimp only
          have g2 := nmg_lt hn
          cases hq : eqs T e (some b) with
          | none => rfl
          | some v =>
            dsimp only
            have g3 := eqs_gt g2.2.2 hq
            cases hv : vlp T e (some v) with
            | none => rfl
            | some j =>
              dsimp only
              have g4 := vlp_gt hv
              rw [ih m j g4.2.1 (by omega) (by omega)]
theorem atL_step {k : Nat} (hk : k ≤ e) : atL T e (e + 1) k = match spc T e (some k) with
    | none => []
    | some x => match nmg T e true (some x) with
      | none => []
      | some b => match eqs T e (some b) with
        | none => []
        | some v => match vlp T e (some v) with
          | none => []
          | some j => (x, b, v, j) :: atL T e (e + 1) j := by
  show (match spc T e (some k) with
    | none => []
    | some x => match nmg T e true (some x) with
      | none => []
      | some b => match eqs T e (some b) with
        | none => []
        | some v => match vlp T e (some v) with
          | none => []
          | some j => (x, b, v, j) :: atL T e e j) = _
  cases hs : spc T e (some k) with
  | none => rfl
  | some x =>
    dsimp only
    have g1 := spc_gt hk hs
    cases hn : nmg T e true (some x) with
    | none => rfl
    | some b =>
      dsimp only
      have g2 := nmg_lt hn
      cases hq : eqs T e (some b) with
      | none => rfl
      | some v =>
        dsimp only
        have g3 := eqs_gt g2.2.2 hq
        cases hv : vlp T e (some v) with
        | none => rfl
        | some j =>
          dsimp only
          have g4 := vlp_gt hv
          rw [atL_fuel e (e + 1) j g4.2.1 (by omega) (by omega)]
theorem nm_last {x n : Nat} (h : nmg T e true (some x) = some n) : T (n - 1) ≠ 47 := by
  have hl := nmg_lt h
  have h' : (if (if true = true then isSt (lk T e x) else isNm (lk T e x)) = true then some (sk isNm T e (x + 1)) else none) = some n := h
  rw [if_pos rfl] at h'
  split at h'
  · rename_i c
    have hn : sk isNm T e (x + 1) = n := Option.some.inj h'
    intro hz
    by_cases c1 : n = x + 1
    · rw [c1, show x + 1 - 1 = x by omega] at hz
      unfold lk at c
      rw [if_pos hl.1, hz] at c
      exact absurd c (by decide)
    · have := sk_all (p := isNm) (T := T) (e := e) (i := x + 1) (n - 1) (by omega) (by omega)
      rw [hz] at this
      exact absurd this (by decide)
  · cases h'
theorem vl_last {v j : Nat} (h : vlp T e (some v) = some j) : T (j - 1) ≠ 47 := by
  have h' : (if isQt (lk T e v) = true then vlg T e (T v) (e + 1) (v + 1) else none) = some j := h
  have hg := vlp_gt h
  split at h'
  · rename_i c
    have h2 := vlg_le _ _ _ h'
    unfold lk at c
    rw [if_pos hg.2.2] at c
    rw [h2.2.2]
    intro hz
    rw [hz] at c
    exact absurd c (by decide)
  · cases h'
theorem sp_last {i y : Nat} (h : sk isSp T e i = y) (hi : i < y) : T (y - 1) ≠ 47 := by
  have := sk_all (p := isSp) (T := T) (e := e) (i := i) (y - 1) (by omega) (by omega)
  intro hz
  rw [hz] at this
  exact absurd this (by decide)
end JI37
/-- which words are marked -/
def MK (s11 : Int) (ns : List Str) (ρ : IS) : Prop := ρ.1 1 16 = s11 ∧ (∀ w, ρ.2 155 w = s11 → w < jw ρ ∧ wst ρ w ∈ ns) ∧ ∀ s ∈ ns, ∃ w, w < jw ρ ∧ wst ρ w = s ∧ ρ.2 155 w = s11
section JI37b
variable {L : Nat → Nat} {rm nd : Nat} {ρ ρ' σ τ : IS} {a : AS} {s11 : Int} {ns : List Str}
theorem MK.gr (h : MK s11 ns ρ) (g : sgr ρ ρ') (h16 : ρ'.1 1 16 = ρ.1 1 16) (hr : ρ'.2 155 = ρ.2 155) : MK s11 ns ρ' := by
  obtain ⟨h1, h2, h3⟩ := h
  refine ⟨by rw [h16]; exact h1, fun w hw => ?_, fun s hs => ?_⟩
  · rw [hr] at hw
    have := h2 w hw
    exact ⟨Nat.lt_of_lt_of_le this.1 g.1, by rw [g.2.2.1 w this.1]; exact this.2⟩
  · obtain ⟨w, w1, w2, w3⟩ := h3 s hs
    exact ⟨w, Nat.lt_of_lt_of_le w1 g.1, by rw [g.2.2.1 w w1]; exact w2, by rw [hr]; exact w3⟩
theorem MK.hit {x : Int} {s : Str} (h : MK s11 ns ρ) (hI : SI L ρ) (hx : Jn ρ x s) : ρ.2 155 x.toNat = s11 ↔ s ∈ ns := by
  obtain ⟨h1, h2, h3⟩ := h
  have hr := hx.rng hI
  constructor
  · intro hz
    have := (h2 _ hz).2
    rw [hr.2.2.2.2] at this
    exact this
  · intro hz
    obtain ⟨w, w1, w2, w3⟩ := h3 s hz
    have hJ : Jn ρ (w : Int) s := ⟨w, rfl, w1, w2⟩
    have := hx.inj hI hJ
    rw [this, show Int.toNat (w : Int) = w by omega]
    exact w3
theorem MK.set {x : Int} {s : Str} (h : MK s11 ns ρ) (hI : SI L ρ) (hx : Jn ρ x s) (g : sgr ρ (pr ρ 155 x.toNat s11)) : MK s11 (ns ++ [s]) (pr ρ 155 x.toNat s11) := by
  obtain ⟨h1, h2, h3⟩ := h
  have hr := hx.rng hI
  refine ⟨h1, fun w hw => ?_, fun s' hs => ?_⟩
  · rw [pr_2] at hw
    by_cases c : w = x.toNat
    · rw [c, g.2.2.1 _ hr.2.2.2.1, hr.2.2.2.2]
      exact ⟨hr.2.2.2.1, List.mem_append.mpr (Or.inr (List.mem_singleton.mpr rfl))⟩
    · rw [if_neg (fun z => c z.2)] at hw
      have := h2 w hw
      exact ⟨this.1, by rw [g.2.2.1 w this.1]; exact List.mem_append.mpr (Or.inl this.2)⟩
  · rcases List.mem_append.mp hs with hs | hs
    · obtain ⟨w, w1, w2, w3⟩ := h3 s' hs
      refine ⟨w, w1, by rw [g.2.2.1 w w1]; exact w2, ?_⟩
      rw [pr_2]
      split
      · rfl
      · exact w3
    · have : s' = s := List.mem_singleton.mp hs
      subst this
      exact ⟨x.toNat, hr.2.2.2.1, by rw [g.2.2.1 _ hr.2.2.2.1]; exact hr.2.2.2.2, by rw [pr_2, if_pos ⟨rfl, rfl⟩]⟩
theorem JZ.mark {w : Nat} {v : Int} (h : JZ L rm nd σ) (hv : v ≤ σ.1 1 16) : JZ L rm nd (pr σ 155 w v) ∧ sgr σ (pr σ 155 w v) := by
  have hs := SI_of h.1 (σ' := pr σ 155 w v) rfl (by have := h.1.1; exact ⟨Int.le_refl _, this.2.2.2⟩) (fun r _ _ => funext (fun j => by rw [pr_2, if_neg (by omega)])) (fun i _ => by rw [pr_2, if_neg (by omega)])
  obtain ⟨h1, h2, ⟨h3, h3'⟩, h4, ⟨h5, h5'⟩, h6, h7, h8, h9, h10, h11⟩ := h
  refine ⟨⟨hs.1, jch_row h2 (funext (fun j => by rw [pr_2, if_neg (by omega)])), ⟨h3, fun i hi => by rw [hs.2.2.2.1 i (by omega)]; exact h3' i hi⟩, h4, ⟨⟨h5.1, h5.2.1, h5.2.2.1, ?_⟩, fun w' => ?_⟩, h6, fun w' z1 z2 => ?_, h8, h9, h10, fun i hi => ?_⟩, hs.2⟩
  · have hb := h5.2.2.2
    unfold bsto at hb ⊢
    rw [pr_2, if_neg (by omega)]
    exact hb
  · rw [pr_2]
    split
    · exact hv
    · exact h5' w'
  · rw [pr_2, if_neg (by omega), pr_2, if_neg (by omega)]
    exact h7 w' z1 z2
  · rw [pr_2, if_neg (by omega), pr_2, if_neg (by omega)]
    exact h11 i hi
theorem RJ.mark {w : Nat} {v : Int} (hln : JLn L rm nd) (h : RJ L rm nd σ a) (hv : v ≤ σ.1 1 16) : RJ L rm nd (pr σ 155 w v) a ∧ sgr σ (pr σ 155 w v) := by
  obtain ⟨z1, z2⟩ := h.1.mark (w := w) hv
  have hA : ∀ (F : Nat → Nat → Bool) (R : Nat → Bool), R 155 = false → ag F R σ (pr σ 155 w v) := fun F R z => ag.refl.pr z
  exact ⟨h.mk' hln z1 z2 (Or.inl ⟨hA _ _ rfl, rfl, rfl⟩) (Or.inl ⟨hA _ _ rfl, rfl, rfl⟩) (Or.inl ⟨hA _ _ rfl, rfl⟩) (Or.inl ⟨hA _ _ rfl, rfl⟩) (Or.inl ⟨hA _ _ rfl, rfl⟩) (Or.inl ⟨hA _ _ rfl, rfl⟩) (Or.inl ⟨hA _ _ rfl, rfl⟩) (Or.inl ⟨hA _ _ rfl, rfl, rfl⟩) (Or.inl ⟨hA _ _ rfl, rfl⟩) (Or.inl ⟨hA _ _ rfl, rfl⟩) h.2.2.2.2.2.2.2.2.2.2.2, z2⟩
/-- a new mark -/
theorem RJ.stamp {v : Int} (hln : JLn L rm nd) (h : RJ L rm nd σ a) (hv : σ.1 1 16 ≤ v) (hv2 : v ≤ (L 999 : Int) + 1000000) : RJ L rm nd (pf σ 1 16 v) a ∧ sgr σ (pf σ 1 16 v) := by
  have hs := SI_pf (o := 1) (k := 16) (x := v) h.1.1 (by omega)
  have hZ : JZ L rm nd (pf σ 1 16 v) := by
    obtain ⟨h1, h2, ⟨h3, h3'⟩, ⟨h4, h4', h4''⟩, ⟨h5, h5'⟩, h6, h7, h8, h9, h10, h11⟩ := h.1
    refine ⟨hs.1, h2, ⟨h3, fun i hi => by rw [hs.2.2.2.1 i (by omega)]; exact h3' i hi⟩, ⟨by rw [pf_nk (by decide)]; exact h4, by rw [pf_nk (by decide)]; exact h4', by rw [pf_no (by decide)]; exact h4''⟩, ⟨⟨by rw [pf_eq]; omega, by rw [pf_eq]; exact hv2, by rw [pf_nk (by decide)]; exact h5.2.2.1, ?_⟩, fun w' => by rw [pf_eq]; have := h5' w'; show σ.2 155 w' ≤ v; omega⟩, rng_of h6 (fun j _ _ => pf_no (by decide)), fun w' z1 z2 => h7 w' ?_ z2, by rw [pf_nk (by decide)]; exact h8, by rw [pf_nk (by decide)]; exact h9, by rw [pf_nk (by decide), pf_nk (by decide)]; exact h10, fun i hi => by rw [pf_nk (by decide)]; exact h11 i hi⟩
    · have hb := h5.2.2.2
      unfold bsto at hb ⊢
      rw [pf_no (by decide), pf_no (by decide)]
      exact hb
    · unfold jw at z1 ⊢
      rw [pf_nk (by decide)] at z1
      exact z1
  have hA : ∀ (F : Nat → Nat → Bool) (R : Nat → Bool), F 1 16 = false → ag F R σ (pf σ 1 16 v) := fun F R z => ag.refl.pf z
  exact ⟨h.mk' hln hZ hs.2 (Or.inl ⟨hA _ _ rfl, rfl, rfl⟩) (Or.inl ⟨hA _ _ rfl, rfl, rfl⟩) (Or.inl ⟨hA _ _ rfl, rfl⟩) (Or.inl ⟨hA _ _ rfl, rfl⟩) (Or.inl ⟨hA _ _ rfl, rfl⟩) (Or.inl ⟨hA _ _ rfl, rfl⟩) (Or.inl ⟨hA _ _ rfl, rfl⟩) (Or.inl ⟨hA _ _ rfl, rfl, rfl⟩) (Or.inl ⟨hA _ _ rfl, rfl⟩) (Or.inl ⟨hA _ _ rfl, rfl⟩) ⟨by rw [pf_no (by decide)]; exact h.2.2.2.2.2.2.2.2.2.2.2.1, by rw [pf_no (by decide)]; exact h.2.2.2.2.2.2.2.2.2.2.2.2⟩, hs.2⟩
end JI37b
