/-! ===== room (4): one item, how long its names are (pure) ===== -/
section Kw4
variable {T : Nat → Int} {e : Nat} {a a' : AS}
theorem ltl_at {i j : Nat} (h : ltl T e (some i) = some j) : i + 1 < j ∧ j ≤ e := by
  have h' : (if isQt (lk T e i) = true then (if sk (fun c => !(c == T i)) T e (i + 1) < e then some (sk (fun c => !(c == T i)) T e (i + 1) + 1) else none) else none) = some j := h
  split at h'
  · split at h'
    · have := Option.some.inj h'
      have := sk_gt (p := fun c => !(c == T i)) (T := T) (e := e) (i := i + 1)
      omega
    · cases h'
  · cases h'
theorem plt_at {i j : Nat} (h : plt T e (some i) = some j) : i + 1 < j ∧ j ≤ e := by
  unfold plt at h
  dsimp only at h
  split at h
  · cases h
  · rename_i k hk
    split at h
    · cases h; exact ltl_at hk
    · cases h
theorem outJ_gt {b : Bool} {i j : Nat} (hi : i ≤ e) (h : outJ T e b (some i) = some j) : i < j ∧ j ≤ e := by
  unfold outJ at h
  dsimp only at h
  split at h
  · rename_i hm
    have := mt_at (by decide) hi hm
    have e6 : [83, 89, 83, 84, 69, 77].length = 6 := rfl
    cases hs : spc T e (some (i + 6)) with
    | none => rw [hs] at h; cases h
    | some s =>
      rw [hs] at h
      have h1 := spc_gt (by omega) hs
      have h2 := ltl_at h
      omega
  · split at h
    · cases h
    · rename_i q hq
      have hq' : i < q ∧ q ≤ e := by
        cases hw : wd T e [80, 85, 66, 76, 73, 67] (some i) with
        | none => rw [hw] at hq; cases hq
        | some w =>
          rw [hw] at hq
          have hw' : (if mt T e i [80, 85, 66, 76, 73, 67] = true then some (i + 6) else none) = some w := hw
          split at hw'
          · rename_i hm
            have := mt_at (by decide) hi hm
            have e6 : [80, 85, 66, 76, 73, 67].length = 6 := rfl
            have := Option.some.inj hw'
            cases hs : spc T e (some w) with
            | none => rw [hs] at hq; cases hq
            | some s =>
              rw [hs] at hq
              have h1 := spc_gt (by omega) hs
              have h2 := plt_at hq
              omega
          · cases hw'
      have h3 := skS (T := T) hq'.2
      split at h
      · have := ltl_at h
        omega
      · split at h
        · cases h; omega
        · cases h
theorem dtE_ge {n z : Nat} (hn : n ≤ e) (h : dtE T e n = some z) : n ≤ z ∧ z ≤ e := by
  have h1 := skS (T := T) hn
  unfold dtE at h
  split at h
  · cases hw : outs T e (some (sk isSp T e n)) with
    | none => rw [hw] at h; cases h
    | some w =>
      rw [hw] at h
      have h2 : outJ T e false (some (sk isSp T e n)) = some w := by rw [outJ_outs]; exact hw
      have h3 := outJ_gt h1.2 h2
      have h4 := Option.some.inj h
      have h5 := skS (T := T) h3.2
      omega
  · cases h; exact h1
theorem etx_gt {i m : Nat} (h : etx T e (some i) = some m) : i + 1 < m ∧ m ≤ e := by
  cases hl : ltl T e (some i) with
  | none => rw [etx_none hl] at h; cases h
  | some j =>
    have := etx_some hl h
    have := ltl_at hl
    omega
theorem ntk_at {k : Nat} (h10 : 10 ≤ e) (h : ntk T e 0 = some k) : ∃ s n, spc T e (some 10) = some s ∧ nmg T e true (some s) = some n ∧ 11 ≤ s ∧ s < n ∧ n < k ∧ k ≤ e := by
  unfold ntk at h
  rw [Nat.zero_add] at h
  cases hs : spc T e (some 10) with
  | none => rw [hs] at h; cases h
  | some s =>
    rw [hs] at h
    have h1 := spc_gt h10 hs
    cases hn : nmg T e true (some s) with
    | none => rw [hn] at h; cases h
    | some n =>
      rw [hn] at h
      have h2 := nmg_lt hn
      cases hx : spc T e (some n) with
      | none => rw [hx] at h; cases h
      | some x =>
        rw [hx] at h
        have h3 := spc_gt h2.2.2 hx
        cases hz : outJ T e true (some x) with
        | none => rw [hz] at h; cases h
        | some z =>
          rw [hz] at h
          have h4 := outJ_gt h3.2.1 hz
          have h5 := wd_asp (by decide) h4.2 h
          exact ⟨s, n, rfl, hn, by omega, by omega, by omega, by omega⟩
theorem iw_not (h10 : 10 ≤ (cur a).length) : iw (ntk (gd (cur a)) (cur a).length 0) (cur a).length (nmN a) [] 0 none := by
  unfold nmN
  generalize gd (cur a) = T
  generalize (cur a).length = e at h10 ⊢
  cases hk : ntk T e 0 with
  | none => exact iw_N (fun z h => (by cases h)) (fun _ => Nat.zero_le _) (fun s h => (by cases h))
  | some k =>
    obtain ⟨s, n, h1, h2, h3, h4, h5, h6⟩ := ntk_at h10 hk
    rw [h1, h2]
    refine iw_N (fun z h => ?_) (fun h => (by cases h)) (fun x hx => ?_)
    · cases h
      refine ⟨by omega, h6, ?_⟩
      rw [Wn_cons, Wn_nil, sl_ln]
      omega
    · rw [List.mem_singleton] at hx
      rw [hx]
      exact sl_ne h4
theorem dtk_at {k : Nat} (h9 : 9 ≤ e) (h : dtk T e 0 = some k) : ∃ s n, spc T e (some 9) = some s ∧ dtn T e 0 = some n ∧ 10 ≤ s ∧ s < n ∧ n < k ∧ k ≤ e := by
  unfold dtk at h
  cases hn : dtn T e 0 with
  | none => rw [hn] at h; cases h
  | some n =>
    rw [hn] at h
    unfold dtn at hn
    rw [Nat.zero_add] at hn
    cases hs : spc T e (some 9) with
    | none => rw [hs] at hn; cases hn
    | some s =>
      rw [hs] at hn
      have h1 := spc_gt h9 hs
      have h2 := nmg_lt hn
      have h' : (dtE T e n).bind (dtb T e) = some k := h
      cases hz : dtE T e n with
      | none => rw [hz] at h'; cases h'
      | some z =>
        rw [hz] at h'
        have h3 : n ≤ z ∧ z ≤ e := dtE_ge h2.2.2 hz
        have h4 : dtb T e z = some k := h'
        unfold dtb at h4
        refine ⟨s, n, rfl, rfl, by omega, by omega, ?_⟩
        split at h4
        · rename_i hm
          have := mt_one (by decide) hm
          have := Option.some.inj h4
          omega
        · have := wd_one (by decide) h4
          omega
theorem iw_dtd (h9 : 9 ≤ (cur a).length) : iw (dtk (gd (cur a)) (cur a).length 0) (cur a).length (nmD a) [] 0 none := by
  unfold nmD
  generalize gd (cur a) = T
  generalize (cur a).length = e at h9 ⊢
  cases hk : dtk T e 0 with
  | none =>
    cases dtn T e 0 <;> cases spc T e (some 9) <;> exact iw_N (fun z h => (by cases h)) (fun _ => Nat.zero_le _) (fun s h => (by cases h))
  | some k =>
    obtain ⟨s, n, h1, h2, h3, h4, h5, h6⟩ := dtk_at h9 hk
    rw [h1, h2]
    dsimp only
    split
    · exact iw_N (fun z h => (by cases h; exact ⟨by omega, h6, Nat.zero_le _⟩)) (fun h => (by cases h)) (fun s h => (by cases h))
    · refine iw_N (fun z h => ?_) (fun h => (by cases h)) (fun x hx => ?_)
      · cases h
        refine ⟨by omega, h6, ?_⟩
        rw [Wn_cons, Wn_nil, sl_ln]
        omega
      · rw [List.mem_singleton] at hx
        rw [hx]
        exact sl_ne h4
/-- how an entity is declared -/
theorem iEnt_at (h8 : 8 ≤ (cur a).length) (h : iEnt a = .inr a') : ∃ f n t m k tx, enF (gd (cur a)) (cur a).length 0 = some f ∧ nmg (gd (cur a)) (cur a).length true (some f) = some n ∧ enk (gd (cur a)) (cur a).length 0 = some k ∧ enx (cur a).length (sl (gd (cur a)) (t + 1) (m - 1 - (t + 1))) [] = .inr tx ∧ 9 ≤ f ∧ f < n ∧ n < t ∧ t + 1 < m ∧ m < k ∧ k ≤ (cur a).length ∧ a' = adv (sN (if (eno (aE a) (sl (gd (cur a)) f (n - f)) (enP (gd (cur a)) (cur a).length 0)).isSome = true then a else sE a (aE a ++ [(sl (gd (cur a)) f (n - f), enP (gd (cur a)) (cur a).length 0, tx)])) 2 (aN a 2 + (hasc (sl (gd (cur a)) f (n - f))).toNat)) k ∧ ∀ b, cur b = cur a → ∃ b', iEnt b = .inr b' ∧ b' = adv (sN (if (eno (aE b) (sl (gd (cur a)) f (n - f)) (enP (gd (cur a)) (cur a).length 0)).isSome = true then b else sE b (aE b ++ [(sl (gd (cur a)) f (n - f), enP (gd (cur a)) (cur a).length 0, tx)])) 2 (aN b 2 + (hasc (sl (gd (cur a)) f (n - f))).toNat)) k := by
  unfold iEnt at h
  split at h
  · rename_i f t k hf ht hk
    split at h
    · cases h
    · rename_i hq
      split at h
      · rename_i n m hn hm
        split at h
        · cases h
        · rename_i tx htx
          have hf' : 9 ≤ f ∧ f ≤ (cur a).length := by
            unfold enF at hf
            split at hf
            · cases hf
            · rename_i s hs
              have h1 := spc_gt (by omega) hs
              split at hf
              · rename_i hm
                have h2 := mt_one (by decide) hm
                have h3 := spc_gt (by omega) hf
                omega
              · cases hf; omega
          have hn' := nmg_lt hn
          have ht' : n < t ∧ t ≤ (cur a).length := by
            unfold enT at ht
            rw [hf, hn] at ht
            have := spc_gt hn'.2.2 ht
            omega
          have hm' : t + 1 < m ∧ m ≤ (cur a).length := etx_gt hm
          have hk' : m < k ∧ k ≤ (cur a).length := by
            unfold enk at hk
            have : enB (gd (cur a)) (cur a).length 0 = some m := by
              unfold enB
              rw [ht]
              dsimp only
              have : isQt (lk (gd (cur a)) (cur a).length t) = true := by
                cases hz : isQt (lk (gd (cur a)) (cur a).length t) with
                | true => rfl
                | false => exact absurd hz hq
              rw [if_pos this]
              exact hm
            rw [this] at hk
            exact wd_asp (by decide) hm'.2 hk
          refine ⟨f, n, t, m, k, tx, hf, hn, hk, htx, hf'.1, hn'.2.1, ht'.1, hm'.1, hk'.1, hk'.2, (Sum.inr.inj h).symm, fun b hb => ?_⟩
          refine ⟨_, ?_, rfl⟩
          unfold iEnt
          rw [hb, hf, ht, hk]
          dsimp only
          rw [if_neg hq, hn, hm]
          dsimp only
          rw [htx]
      · cases h
  · cases h
end Kw4
