/-! ===== the reference: pairs of bytes; line ends ===== -/
section Kun
variable {L : Nat → Nat} {σ : IS} {B : Nat → Int} {n i r : Nat} {R : Int → IS → Prop} {Q : IS → Prop} {a2 a3 a4 : Int} {be : Bool}
theorem sp_K_pair {x : Int} (hB : ∀ j, B j = ia (σ.2 r j) 255) (hi : i + 1 < n) (hn : n ≤ 65536) (hL : n ≤ L r) (hx : x = (i : Int)) (hbe : a4 = 0 ↔ be = false) (hq : R (pr16 B be i) σ) : w_KReader_pair L r x a4 R σ := by
  subst hx
  have h0 := byt_rg (σ.2 r i)
  have h1 := byt_rg (σ.2 r (i + 1))
  rw [← hB i] at h0
  rw [← hB (i + 1)] at h1
  unfold w_KReader_pair
  rw [show Int.toNat (i : Int) = i from rfl, show Int.toNat ((i : Int) + 1) = i + 1 by omega, ← hB i, ← hB (i + 1)]
  refine ⟨⟨by omega, by omega⟩, ⟨by omega, by omega⟩, ⟨by omega, by omega⟩, ⟨fun _ => ⟨⟨by omega, by omega⟩, ⟨by omega, by omega⟩⟩, fun _ => ⟨⟨by omega, by omega⟩, ⟨by omega, by omega⟩⟩⟩, ?_⟩
  have e1 : (if a4 = 0 then 256 * B (i + 1) + B i else 256 * B i + B (i + 1)) = pr16 B be i := by
    unfold pr16
    cases hb : be with
    | false => rw [if_pos (hbe.mpr hb), if_neg (by decide)]; omega
    | true => rw [if_neg (fun z => by rw [hbe.mp z] at hb; cases hb), if_pos rfl]; omega
  rw [e1]
  exact hq
theorem pr16_rg (hB : ∀ j, B j = ia (σ.2 r j) 255) : 0 ≤ pr16 B be i ∧ pr16 B be i ≤ 65535 := by
  have h0 := byt_rg (σ.2 r i)
  have h1 := byt_rg (σ.2 r (i + 1))
  rw [← hB i] at h0
  rw [← hB (i + 1)] at h1
  unfold pr16
  split <;> omega
theorem sp_K_unit (hB : ∀ j, B j = ia (σ.2 r j) 255) (hi : i < n) (hn : n ≤ 65536) (hL : n ≤ L r) (ha3 : a3 = (i : Int)) (ha2 : a2 = (n : Int)) (hbe : a4 = 0 ↔ be = false)
    (hq : ∀ len ρ, D75 σ ρ → ((u16 B be n i = none ∧ (len = 0 ∨ isCh (ρ.1 16 75) = false)) ∨ ∃ c k, u16 B be n i = some (c, k) ∧ len = ((k : Nat) : Int) ∧ ρ.1 16 75 = c) → R len ρ) : w_KReader_unit L r a2 a3 a4 R σ := by
  subst ha3 ha2
  unfold w_KReader_unit
  refine ⟨⟨by omega, by omega⟩, ?_⟩
  by_cases c1 : i + 1 < n
  · rw [if_pos (by omega)]
    refine sp_K_pair hB c1 hn hL rfl hbe (sp_K_isIn ?_)
    have hB' : ∀ j, B j = ia ((pf σ 16 75 (pr16 B be i)).2 r j) 255 := hB
    have hp := pr16_rg (be := be) (i := i) hB
    have hp2 := pr16_rg (be := be) (i := i + 2) hB
    refine ⟨fun _ => ⟨by omega, by omega⟩, ?_⟩
    -- one unit alone
    have hone : ¬ ((55296 ≤ pr16 B be i ∧ pr16 B be i ≤ 56319) ∧ i + 3 < n ∧ (56320 ≤ pr16 B be (i + 2) ∧ pr16 B be (i + 2) ≤ 57343)) → R 2 (pf σ 16 75 (pr16 B be i)) := by
      intro z
      refine hq 2 _ D75.refl.pf ?_
      rw [pf_eq]
      by_cases c : isCh (pr16 B be i) = true
      · refine Or.inr ⟨pr16 B be i, 2, ?_, rfl, rfl⟩
        unfold u16
        rw [if_pos c1, if_neg z, if_pos c]
      · refine Or.inl ⟨?_, Or.inr (by simpa using c)⟩
        unfold u16
        rw [if_pos c1, if_neg z, if_neg c]
    have hin : ∀ x lo hi : Int, inI x lo hi = decide (lo ≤ x ∧ x ≤ hi) := by
      intro x lo hi
      unfold inI
      rw [← Bool.decide_and]
    rw [hin]
    by_cases c2 : 55296 ≤ pr16 B be i ∧ pr16 B be i ≤ 56319
    · rw [decide_eq_true c2]
      by_cases c3 : i + 3 < n
      · rw [if_pos ⟨by decide, by omega⟩]
        refine ⟨⟨by omega, by omega⟩, ?_⟩
        refine sp_K_pair (i := i + 2) hB' (by omega) hn hL (by omega) hbe (sp_K_isIn ?_)
        rw [hin]
        by_cases c4 : 56320 ≤ pr16 B be (i + 2) ∧ pr16 B be (i + 2) ≤ 57343
        · rw [decide_eq_true c4, if_neg (by decide), pf_eq]
          refine ⟨⟨by omega, by omega⟩, ⟨by omega, by omega⟩, ⟨by omega, by omega⟩, ⟨by omega, by omega⟩, ⟨by omega, by omega⟩, hq 4 _ D75.refl.pf.pf ?_⟩
          rw [pf_eq]
          have hu : u16 B be n i = if isCh (65536 + 1024 * (pr16 B be i - 55296) + pr16 B be (i + 2) - 56320) = true then some (65536 + 1024 * (pr16 B be i - 55296) + pr16 B be (i + 2) - 56320, 4) else none := by
            unfold u16
            rw [if_pos c1, if_pos ⟨c2, c3, c4⟩]
          rw [hu]
          by_cases c : isCh (65536 + 1024 * (pr16 B be i - 55296) + pr16 B be (i + 2) - 56320) = true
          · exact Or.inr ⟨_, 4, by rw [if_pos c], rfl, rfl⟩
          · exact Or.inl ⟨by rw [if_neg c], Or.inr (by simpa using c)⟩
        · rw [decide_eq_false c4, if_pos (by decide)]
          exact hone (fun z => c4 z.2.2)
      · rw [if_neg (fun z => by have := z.2; omega)]
        exact hone (fun z => c3 z.2.1)
    · rw [decide_eq_false c2, if_neg (fun z => z.1 (by decide))]
      exact hone (fun z => c2 z.1)
  · rw [if_neg (by omega)]
    refine hq 0 σ D75.refl (Or.inl ⟨?_, Or.inl rfl⟩)
    unfold u16
    rw [if_neg c1]
/-- line ends -/
theorem sp_K_endLines {W : List Int} (hL : L 176 = 262144) (hW : W.length ≤ 262144) (h6 : σ.1 16 6 = (W.length : Int)) (hr : ∀ j, j < W.length → σ.2 176 j = W.getD j 0)
    (hq : ∀ ρ, (∀ o k, ¬ (o = 16 ∧ (k = 6 ∨ k = 7)) → ρ.1 o k = σ.1 o k) → (∀ q, q ≠ 176 → ρ.2 q = σ.2 q) → ρ.1 16 6 = ((nle W).length : Int) → ρ.1 16 7 = ((nle W).length : Int) → (∀ j, j < (nle W).length → ρ.2 176 j = (nle W).getD j 0) → Q ρ) : w_KReader_endLines L Q σ := by
  unfold w_KReader_endLines
  refine WL_ind (fun s ρ => ∃ k : Nat, s.2.2 = (k : Int) ∧ k ≤ W.length ∧ s.2.1 = ((((W.take k).foldl nlc ([], false)).1.length : Nat) : Int) ∧ s.1 = b1 ((W.take k).foldl nlc ([], false)).2 ∧ ρ.1 = σ.1 ∧ (∀ q, q ≠ 176 → ρ.2 q = σ.2 q) ∧ (∀ j, j < ((W.take k).foldl nlc ([], false)).1.length → ρ.2 176 j = ((W.take k).foldl nlc ([], false)).1.getD j 0) ∧ (∀ j, k ≤ j → j < W.length → ρ.2 176 j = W.getD j 0) ∧ (k = 0 → ((W.take k).foldl nlc ([], false)).2 = false)) (fun s _ => ((W.length : Int) - s.2.2).toNat) ?_ _ σ ⟨0, rfl, Nat.zero_le _, rfl, rfl, rfl, fun _ _ => rfl, fun j hj => absurd hj (Nat.not_lt_zero _), fun j _ hj => hr j hj, fun _ => rfl⟩
  rintro ⟨lr, tt, kk⟩ ρ ⟨k, hk, hkl, hto, hlr, hf, ho, hacc, hrest, hz⟩ K hI
  dsimp only at hk hto hlr ⊢
  subst hk hto hlr
  rw [hf, h6]
  by_cases c : k < W.length
  · rw [if_pos (by omega), show Int.toNat (k : Int) = k from rfl]
    have hle := nle_len (W.take k) ([], false)
    rw [List.length_nil, List.length_take, Nat.zero_add, show min k W.length = k by omega] at hle
    have hnext : (W.take (k + 1)).foldl nlc ([], false) = nlc ((W.take k).foldl nlc ([], false)) (W.getD k 0) := by
      rw [List.take_succ_eq_append_getElem c, List.foldl_append, List.getD_eq_getElem?_getD, List.getElem?_eq_getElem c]
      rfl
    have hrk := hrest k (Nat.le_refl _) c
    rw [hrk]
    generalize hS : (W.take k).foldl nlc ([], false) = S at *
    obtain ⟨acc, b⟩ := S
    generalize hx : W.getD k 0 = x at *
    dsimp only at hle hacc hz hnext hI ⊢
    have hn2 : nlc (acc, b) x = (if x = 10 ∧ b = true then acc else acc ++ [if x = 13 then 10 else x], decide (x = 13)) := rfl
    rw [hn2] at hnext
    have hb13 : (if x = 13 then (1 : Int) else (0 : Int)) = b1 (decide (x = 13)) := by
      by_cases c13 : x = 13
      · rw [if_pos c13, decide_eq_true c13]; rfl
      · rw [if_neg c13, decide_eq_false c13]; rfl
    refine ⟨fun _ => ⟨by omega, by omega⟩, ⟨by omega, by omega⟩, ?_⟩
    refine WJ_dir ?_
    try dsimp only
    have hcond : (if (0 : Int) < (k : Int) then (if x = 10 then (if b1 b = 0 then (0 : Int) else (1 : Int)) else (0 : Int)) else (0 : Int)) = 0 ↔ ¬ (x = 10 ∧ b = true) := by
      cases hb : b with
      | false =>
        have : b1 false = 0 := rfl
        rw [this, if_pos rfl]
        constructor
        · rintro - ⟨-, z⟩; cases z
        · intro _; split
          · split <;> rfl
          · rfl
      | true =>
        have hk0 : 0 < k := by
          refine Classical.byContradiction fun z => ?_
          have := hz (by omega)
          rw [hb] at this; cases this
        have : b1 true = 1 := rfl
        rw [if_pos (show (0 : Int) < (k : Int) by omega), this, if_neg (show ¬ ((1 : Int) = 0) by decide)]
        constructor
        · rintro z ⟨y, -⟩; rw [if_pos y] at z; cases z
        · intro z; rw [if_neg (fun y => z ⟨y, rfl⟩)]
    by_cases c10 : x = 10 ∧ b = true
    · rw [if_neg (fun z => hcond.mp z c10)]
      rw [if_pos c10] at hnext
      refine ⟨⟨by omega, by omega⟩, hI _ _ ⟨k + 1, by show (k : Int) + 1 = ((k + 1 : Nat) : Int); omega, by omega, ?_, ?_, hf, ho, ?_, fun j hj hj2 => hrest j (by omega) hj2, fun z => by omega⟩ ?_⟩
      · rw [hnext]
      · rw [hnext, hb13]
      · rw [hnext]; exact hacc
      · show ((W.length : Int) - ((k : Int) + 1)).toNat < ((W.length : Int) - (k : Int)).toNat
        omega
    · rw [if_pos (hcond.mpr c10)]
      rw [if_neg c10] at hnext
      have hval : (if (if x = 13 then (1 : Int) else (0 : Int)) = 0 then x else (10 : Int)) = if x = 13 then 10 else x := by
        by_cases c13 : x = 13
        · rw [if_pos c13, if_pos c13, if_neg (by decide)]
        · rw [if_neg c13, if_neg c13, if_pos rfl]
      rw [hval, show Int.toNat (acc.length : Int) = acc.length from rfl]
      refine ⟨fun _ => ⟨by omega, by omega⟩, ⟨by omega, by omega⟩, ⟨by omega, by omega⟩, ⟨by omega, by omega⟩, hI _ _ ⟨k + 1, by show (k : Int) + 1 = ((k + 1 : Nat) : Int); omega, by omega, ?_, ?_, hf, fun q hq' => ?_, fun j hj => ?_, fun j hj hj2 => ?_, fun z => by omega⟩ ?_⟩
      · rw [hnext]
        dsimp only
        rw [List.length_append, List.length_singleton]
        omega
      · rw [hnext, hb13]
      · funext i'
        rw [pr_2, if_neg (fun z => hq' z.1)]
        exact congrFun (ho q hq') i'
      · rw [hnext] at hj ⊢
        dsimp only at hj ⊢
        rw [List.length_append, List.length_singleton] at hj
        rw [pr_2]
        by_cases cj : j = acc.length
        · rw [if_pos ⟨rfl, cj⟩, cj, List.getD_eq_getElem?_getD, List.getElem?_append_right (Nat.le_refl _), Nat.sub_self]
          rfl
        · rw [if_neg (fun z => cj z.2), List.getD_eq_getElem?_getD, List.getElem?_append_left (by omega), ← List.getD_eq_getElem?_getD]
          exact hacc j (by omega)
      · rw [pr_2, if_neg (fun z => by have := z.2; omega)]
        exact hrest j (by omega) hj2
      · show ((W.length : Int) - ((k : Int) + 1)).toNat < ((W.length : Int) - (k : Int)).toNat
        omega
  · rw [if_neg (by omega)]
    have hkW : W.take k = W := by
      have : k = W.length := by omega
      rw [this, List.take_length]
    rw [hkW] at hacc ⊢
    have hnl : (W.foldl nlc ([], false)).1 = nle W := rfl
    rw [hnl] at hacc ⊢
    refine hq _ (fun o k' z => ?_) (fun q hq' => ho q hq') ?_ ?_ hacc
    · rw [pf_1, if_neg (fun y => z ⟨y.1, Or.inr y.2⟩), pf_1, if_neg (fun y => z ⟨y.1, Or.inl y.2⟩), hf]
    · rw [pf_nk (by decide), pf_eq]
    · rw [pf_eq]
end Kun
