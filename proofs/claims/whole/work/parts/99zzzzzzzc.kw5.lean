/-! ===== room (5): one item (pure) ===== -/
section Kw5
variable {rm nd : Nat} {a a' : AS}
theorem enS_at {t : List Int} {x : Ent} (h8 : 8 ≤ t.length) (h : enS t = some x) : ∃ k, enk (gd t) t.length 0 = some k ∧ k ≤ t.length ∧ 10 < k ∧ x.1.length + 1 + x.2.2.length ≤ k ∧ x.1 ≠ [] := by
  unfold enS at h
  split at h
  · cases h
  · rename_i b hb
    have hc : cur (a0 t) = t := rfl
    obtain ⟨f, n, q, m, k, tx, h1, h2, h3, h4, h5, h6, h7, h9, h10, h11, h12, -⟩ := iEnt_at (a := a0 t) (by rw [hc]; exact h8) hb
    rw [hc] at h1 h2 h3 h4 h11 h12
    rw [h12] at h
    have e1 : eno (aE (a0 t)) (sl (gd t) f (n - f)) (enP (gd t) t.length 0) = none := rfl
    rw [e1, if_neg (by decide)] at h
    have e2 := (adv_other (a := sN (sE (a0 t) (aE (a0 t) ++ [(sl (gd t) f (n - f), enP (gd t) t.length 0, tx)])) 2 (aN (a0 t) 2 + (hasc (sl (gd t) f (n - f))).toNat)) (k := k)).1
    rw [e2] at h
    have h' : some (sl (gd t) f (n - f), enP (gd t) t.length 0, tx) = some x := h
    have h' := (Option.some.inj h').symm
    have hl := enx_len _ _ _ h4
    rw [sl_ln, List.length_nil] at hl
    rw [h']
    refine ⟨k, h3, h11, by omega, ?_, sl_ne h6⟩
    rw [sl_ln]
    dsimp only
    omega
theorem enB_at {T : Nat → Int} {e m : Nat} (h8 : 8 ≤ e) (h : enB T e 0 = some m) : m ≤ e := by
  unfold enB at h
  split at h
  · cases h
  · rename_i t ht
    have ht' : t ≤ e := by
      unfold enT at ht
      cases hn : nmg T e true (enF T e 0) with
      | none => rw [hn] at ht; cases ht
      | some n =>
        rw [hn] at ht
        have h1 : n ≤ e := nmg_le n hn
        exact (spc_gt h1 ht).2.1
    split at h
    · exact (etx_gt h).2
    · split at h
      · cases h
      · rename_i w hw
        have h1 := outJ_gt (b := false) ht' (by rw [outJ_outs]; exact hw)
        split at h
        · exact nmg_le m h
        · cases h; exact h1.2
theorem iw_ent (h8 : 8 ≤ (cur a).length) : iw (enk (gd (cur a)) (cur a).length 0) (cur a).length (nmEs (cur a)) [] 0 (enS (cur a)) := by
  have hk0 : ∀ z, enk (gd (cur a)) (cur a).length 0 = some z → 0 < z ∧ z ≤ (cur a).length := by
    intro z hz
    unfold enk at hz
    cases hb : enB (gd (cur a)) (cur a).length 0 with
    | none => rw [hb] at hz; cases hz
    | some m =>
      rw [hb] at hz
      have hm : m ≤ (cur a).length := enB_at h8 hb
      have := wd_asp (by decide) hm hz
      omega
  unfold nmEs
  cases hx : enS (cur a) with
  | none => exact iw_0 hk0
  | some x =>
    obtain ⟨k, h1, h2, h3, h4, h5⟩ := enS_at h8 hx
    refine ⟨fun z hz => ?_, fun h => (by rw [h1] at h; cases h), fun s hs => ?_⟩
    · rw [h1] at hz
      cases hz
      refine ⟨by omega, h2, ?_, ?_⟩
      · rw [Wn_cons, Wn_nil]
        show _ + x.2.2.length ≤ k
        omega
      · show 8 * 0 + 5 * 0 + x.2.2.length ≤ k
        omega
    · rw [List.mem_singleton] at hs
      rw [hs]; exact h5
theorem iw_k {k : Option Nat} {e : Nat} {N : List Str} {P : List (Str × Str)} {G : Nat} {x : Option Ent} (h : iw k e N P G x) {z : Nat} (hz : k = some z) : 0 < z ∧ z ≤ e := ⟨(h.1 z hz).1, (h.1 z hz).2.1⟩
theorem iw_none {e : Nat} : iw none e [] [] 0 none := iw_0 (fun z h => (by cases h))
theorem cmt_iw {e : Nat} {T : Nat → Int} : iw (cmt T e 0) e [] [] 0 none := iw_0 (fun z h => by have := cmt_le h; omega)
theorem sp_iw (hc : cur a ≠ []) (h : isSp (gd (cur a) 0) = true) : iw (some (sk isSp (gd (cur a)) (cur a).length 0)) (cur a).length [] [] 0 none := by
  refine iw_0 (fun z hz => ?_)
  cases hz
  have hl : 0 < (cur a).length := List.length_pos_iff.mpr hc
  rw [sk_go hl h]
  have := skS (T := gd (cur a)) (e := (cur a).length) (k := 0 + 1) (by omega)
  omega
/-- which item, and what is seen of it -/
theorem dSub_c : (dSub a = 0 ∧ isSp (gd (cur a) 0) = true) ∨ (dSub a = 1 ∧ gd (cur a) 0 = 37) ∨ (dSub a = 2 ∧ (aF a).length = 1) ∨ dSub a = 3 ∨ (dSub a = 4 ∧ mt (gd (cur a)) (cur a).length 0 [60, 63] = true) ∨ (dSub a = 5 ∧ mt (gd (cur a)) (cur a).length 0 [60, 33, 69, 76, 69, 77, 69, 78, 84] = true) ∨ (dSub a = 6 ∧ mt (gd (cur a)) (cur a).length 0 [60, 33, 65, 84, 84, 76, 73, 83, 84] = true) ∨ (dSub a = 7 ∧ mt (gd (cur a)) (cur a).length 0 [60, 33, 69, 78, 84, 73, 84, 89] = true) ∨ (dSub a = 8 ∧ mt (gd (cur a)) (cur a).length 0 [60, 33, 78, 79, 84, 65, 84, 73, 79, 78] = true) ∨ dSub a = 9 := by
  unfold dSub
  by_cases c0 : isSp (gd (cur a) 0) = true
  · rw [if_pos c0]; exact Or.inl ⟨rfl, c0⟩
  rw [if_neg c0]
  refine Or.inr ?_
  by_cases c1 : gd (cur a) 0 = 37
  · rw [if_pos c1]; exact Or.inl ⟨rfl, c1⟩
  rw [if_neg c1]
  refine Or.inr ?_
  by_cases c2 : gd (cur a) 0 = 93 ∧ (aF a).length = 1
  · rw [if_pos c2]; exact Or.inl ⟨rfl, c2.2⟩
  rw [if_neg c2]
  refine Or.inr ?_
  by_cases c3 : mt (gd (cur a)) (cur a).length 0 [60, 33, 45, 45] = true
  · rw [if_pos c3]; exact Or.inl rfl
  rw [if_neg c3]
  refine Or.inr ?_
  by_cases c4 : mt (gd (cur a)) (cur a).length 0 [60, 63] = true
  · rw [if_pos c4]; exact Or.inl ⟨rfl, c4⟩
  rw [if_neg c4]
  refine Or.inr ?_
  by_cases c5 : mt (gd (cur a)) (cur a).length 0 [60, 33, 69, 76, 69, 77, 69, 78, 84] = true
  · rw [if_pos c5]; exact Or.inl ⟨rfl, c5⟩
  rw [if_neg c5]
  refine Or.inr ?_
  by_cases c6 : mt (gd (cur a)) (cur a).length 0 [60, 33, 65, 84, 84, 76, 73, 83, 84] = true
  · rw [if_pos c6]; exact Or.inl ⟨rfl, c6⟩
  rw [if_neg c6]
  refine Or.inr ?_
  by_cases c7 : mt (gd (cur a)) (cur a).length 0 [60, 33, 69, 78, 84, 73, 84, 89] = true
  · rw [if_pos c7]; exact Or.inl ⟨rfl, c7⟩
  rw [if_neg c7]
  refine Or.inr ?_
  by_cases c8 : mt (gd (cur a)) (cur a).length 0 [60, 33, 78, 79, 84, 65, 84, 73, 79, 78] = true
  · rw [if_pos c8]; exact Or.inl ⟨rfl, c8⟩
  rw [if_neg c8]
  exact Or.inr rfl
theorem dCon_c : (dCon a = 0 ∧ gd (cur a) 0 = 38) ∨ (dCon a = 1 ∧ gd (cur a) 0 ≠ 38 ∧ gd (cur a) 0 ≠ 60) ∨ (dCon a = 2 ∧ mt (gd (cur a)) (cur a).length 0 [60, 47] = true) ∨ dCon a = 3 ∨ (dCon a = 4 ∧ mt (gd (cur a)) (cur a).length 0 [60, 63] = true) ∨ (dCon a = 5 ∧ mt (gd (cur a)) (cur a).length 0 [60, 33, 91, 67, 68, 65, 84, 65, 91] = true) ∨ dCon a = 6 ∨ (dCon a = 7 ∧ gd (cur a) 0 = 60) := by
  unfold dCon
  by_cases c0 : gd (cur a) 0 = 38
  · rw [if_pos c0]; exact Or.inl ⟨rfl, c0⟩
  rw [if_neg c0]
  refine Or.inr ?_
  by_cases c1 : gd (cur a) 0 ≠ 60
  · rw [if_pos c1]; exact Or.inl ⟨rfl, c0, c1⟩
  rw [if_neg c1]
  refine Or.inr ?_
  by_cases c2 : mt (gd (cur a)) (cur a).length 0 [60, 47] = true
  · rw [if_pos c2]; exact Or.inl ⟨rfl, c2⟩
  rw [if_neg c2]
  refine Or.inr ?_
  by_cases c3 : mt (gd (cur a)) (cur a).length 0 [60, 33, 45, 45] = true
  · rw [if_pos c3]; exact Or.inl rfl
  rw [if_neg c3]
  refine Or.inr ?_
  by_cases c4 : mt (gd (cur a)) (cur a).length 0 [60, 63] = true
  · rw [if_pos c4]; exact Or.inl ⟨rfl, c4⟩
  rw [if_neg c4]
  refine Or.inr ?_
  by_cases c5 : mt (gd (cur a)) (cur a).length 0 [60, 33, 91, 67, 68, 65, 84, 65, 91] = true
  · rw [if_pos c5]; exact Or.inl ⟨rfl, c5⟩
  rw [if_neg c5]
  refine Or.inr ?_
  by_cases c6 : mt (gd (cur a)) (cur a).length 0 [60, 33, 68, 79, 67, 84, 89, 80, 69] = true
  · rw [if_pos c6]; exact Or.inl rfl
  rw [if_neg c6]
  exact Or.inr ⟨rfl, Classical.byContradiction c1⟩
theorem dOut_c : (dOut a = 0 ∧ isSp (gd (cur a) 0) = true) ∨ dOut a = 1 ∨ (dOut a = 2 ∧ mt (gd (cur a)) (cur a).length 0 [60, 63] = true) ∨ dOut a = 3 ∨ (dOut a = 4 ∧ gd (cur a) 0 = 60 ∧ aN a 4 ≠ 3) ∨ (dOut a = 5 ∧ mt (gd (cur a)) (cur a).length 0 [60, 33, 68, 79, 67, 84, 89, 80, 69] = true ∧ aN a 4 ≠ 3) := by
  unfold dOut
  by_cases c0 : isSp (gd (cur a) 0) = true
  · rw [if_pos c0]; exact Or.inl ⟨rfl, c0⟩
  rw [if_neg c0]
  refine Or.inr ?_
  by_cases c1 : mt (gd (cur a)) (cur a).length 0 [60, 33, 45, 45] = true
  · rw [if_pos c1]; exact Or.inl rfl
  rw [if_neg c1]
  refine Or.inr ?_
  by_cases c2 : mt (gd (cur a)) (cur a).length 0 [60, 63] = true
  · rw [if_pos c2]; exact Or.inl ⟨rfl, c2⟩
  rw [if_neg c2]
  refine Or.inr ?_
  by_cases c3 : aN a 4 = 3 ∨ gd (cur a) 0 ≠ 60 ∨ mt (gd (cur a)) (cur a).length 0 [60, 47] = true ∨ mt (gd (cur a)) (cur a).length 0 [60, 33, 91, 67, 68, 65, 84, 65, 91] = true
  · rw [if_pos c3]; exact Or.inl rfl
  rw [if_neg c3]
  by_cases c4 : mt (gd (cur a)) (cur a).length 0 [60, 33, 68, 79, 67, 84, 89, 80, 69] = false
  · rw [if_pos c4]
    exact Or.inr (Or.inl ⟨rfl, Classical.byContradiction (fun z => c3 (Or.inr (Or.inl z))), fun z => c3 (Or.inl z)⟩)
  rw [if_neg c4]
  by_cases c5 : (aR a).isSome = true
  · rw [if_pos c5]; exact Or.inl rfl
  rw [if_neg c5]
  refine Or.inr (Or.inr ⟨rfl, ?_, fun z => c3 (Or.inl z)⟩)
  cases hm : mt (gd (cur a)) (cur a).length 0 [60, 33, 68, 79, 67, 84, 89, 80, 69] with
  | true => rfl
  | false => exact absurd hm c4
/-- an item: its names are no longer than it is -/
theorem itm_W (hc : cur a ≠ []) : iw (itK a) (cur a).length (tkN a) (tkP a) (tkG a) (itE a) := by
  have hl : 0 < (cur a).length := List.length_pos_iff.mpr hc
  unfold itK tkN tkP tkG itE
  rw [if_neg hc, if_neg hc, if_neg hc, if_neg hc, if_neg hc]
  have hmt : ∀ l : List Int, (∀ c ∈ l, c ≠ -1) → mt (gd (cur a)) (cur a).length 0 l = true → l.length ≤ (cur a).length := fun l h1 h2 => by have := mt_at h1 (Nat.zero_le _) h2; omega
  by_cases p1 : aN a 4 = 1
  · rw [if_pos p1, if_pos p1, if_pos p1, if_pos p1, if_pos p1]
    rcases dSub_c (a := a) with ⟨d, h⟩ | ⟨d, h⟩ | ⟨d, h⟩ | d | ⟨d, h⟩ | ⟨d, h⟩ | ⟨d, h⟩ | ⟨d, h⟩ | ⟨d, h⟩ | d <;> rw [d]
    · exact sp_iw hc h
    · exact iw_0 (fun z h => by have := pcp_lt h; omega)
    · refine iw_0 (fun z h => ?_)
      have := wd_asp (by decide) (show 1 ≤ (cur a).length by omega) h
      omega
    · exact cmt_iw
    · exact iw_pin
    · have h9 : 9 ≤ (cur a).length := hmt _ (by decide) h
      obtain ⟨w1, w2, w3⟩ := nmEl_W h9
      exact iw_N (fun z hz => ⟨by have := w3 z hz; omega, (w3 z hz).2⟩) (fun _ => w1) w2
    · exact iw_atl (hmt _ (by decide) h)
    · exact iw_ent (hmt _ (by decide) h)
    · exact iw_not (hmt _ (by decide) h)
    · exact iw_none
  · rw [if_neg p1, if_neg p1, if_neg p1, if_neg p1, if_neg p1]
    by_cases p2 : aN a 4 = 2
    · rw [if_pos p2, if_pos p2, if_pos p2]
      rcases dCon_c (a := a) with ⟨d, h⟩ | ⟨d, n38, n60⟩ | ⟨d, h⟩ | d | ⟨d, h⟩ | ⟨d, h⟩ | d | ⟨d, h⟩ <;> rw [d]
      · exact iw_0 (fun z h => by have := rfp_lt h; omega)
      · refine iw_0 (fun z h => ?_)
        cases h
        rw [sk_go hl (by unfold isRn; simp [n38, n60])]
        have := sk_le (p := isRn) (T := gd (cur a)) (e := (cur a).length) (i := 0 + 1) (by omega)
        omega
      · refine iw_0 (fun z h => ?_)
        have h' : etk (gd (cur a)) (cur a).length 0 = some z := h
        unfold etk at h'
        cases hn : nmg (gd (cur a)) (cur a).length true (some (0 + 2)) with
        | none => rw [hn] at h'; cases h'
        | some n =>
          rw [hn] at h'
          have h1 := nmg_lt hn
          have := wd_asp (by decide) h1.2.2 h'
          omega
      · exact cmt_iw
      · exact iw_pin
      · refine iw_0 (fun z h => ?_)
        have h' : (sek (gd (cur a)) (cur a).length [93, 93, 62] 9).map (fun z => z + 3) = some z := h
        cases hs : sek (gd (cur a)) (cur a).length [93, 93, 62] 9 with
        | none => rw [hs] at h'; cases h'
        | some w =>
          rw [hs] at h'
          have h1 := sek_lt hs
          have h2 := mt_at (by decide) (by omega) h1.2.2
          have e3 : [93, 93, 62].length = 3 := rfl
          have h3 : w + 3 = z := Option.some.inj h'
          omega
      · exact iw_none
      · exact iw_tag
    · rw [if_neg p2, if_neg p2, if_neg p2]
      rcases dOut_c (a := a) with ⟨d, h⟩ | d | ⟨d, h⟩ | d | ⟨d, h⟩ | ⟨d, h, -⟩ <;> rw [d]
      · exact sp_iw hc h
      · exact cmt_iw
      · exact iw_pin
      · exact iw_none
      · exact iw_tag
      · exact iw_dtd (hmt _ (by decide) h)
end Kw5
