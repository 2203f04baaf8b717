/-! ===== room (2): the names of an item, and where it ends (pure) ===== -/
section Kw2
variable {T : Nat → Int} {e : Nat}
theorem wd_asp {i z : Nat} {c : Int} (hc : c ≠ -1) (hi : i ≤ e) (h : wd T e [c] (asp T e (some i)) = some z) : i < z ∧ z ≤ e := by
  have ea : asp T e (some i) = some (sk isSp T e i) := rfl
  rw [ea] at h
  have h1 := wd_one hc h
  have h2 := skS (T := T) hi
  omega
theorem elc_at {p c : Nat} (hp : p + 9 ≤ e) (h : elc T e p = some c) : ∃ s n, spc T e (some (p + 9)) = some s ∧ nmg T e true (some s) = some n ∧ p + 10 ≤ s ∧ s < n ∧ n < c ∧ c ≤ e := by
  unfold elc at h
  cases hs : spc T e (some (p + 9)) with
  | none => rw [hs] at h; cases h
  | some s =>
    rw [hs] at h
    have h1 := spc_gt hp hs
    cases hn : nmg T e true (some s) with
    | none => rw [hn] at h; cases h
    | some n =>
      rw [hn] at h
      have h2 := nmg_lt hn
      have h3 := spc_gt h2.2.2 h
      exact ⟨s, n, rfl, hn, by omega, by omega, by omega, by omega⟩
theorem mxQ_at {c k : Nat} (hc : c ≤ e) (h : mxQ T e (some c) = some k) : k = sk isSp T e (c + 1) + 7 ∧ c + 8 ≤ k ∧ k ≤ e := by
  unfold mxQ at h
  cases hw : wd T e [40] (some c) with
  | none => rw [hw] at h; cases h
  | some w =>
    rw [hw] at h
    have h1 := wd_one (by decide) hw
    have ea : asp T e (some w) = some (sk isSp T e w) := rfl
    rw [ea] at h
    have h2 := skS (T := T) (e := e) (k := w) (by omega)
    have h' : (if mt T e (sk isSp T e w) [35, 80, 67, 68, 65, 84, 65] = true then some (sk isSp T e w + 7) else none) = some k := h
    split at h'
    · rename_i hm
      have h3 := mt_at (by decide) h2.2 hm
      have h4 := Option.some.inj h'
      have e1 : w = c + 1 := h1.2.2
      rw [e1] at h4 h2 h3
      exact ⟨h4.symm, by omega, by have : [35, 80, 67, 68, 65, 84, 65].length = 7 := rfl; omega⟩
    · cases h'
theorem mxW_W {c : Nat} (hc : c ≤ e) : Wn (mxW T e (some c)) + c ≤ e ∧ (∀ s ∈ mxW T e (some c), s ≠ []) := by
  unfold mxW
  cases hq : mxQ T e (some c) with
  | none => exact ⟨by show 0 + c ≤ e; omega, fun s h => (by cases h)⟩
  | some k =>
    have h1 := mxQ_at hc hq
    have h2 := mxL_W (T := T) (e := e) (e + 1) k h1.2.2
    refine ⟨?_, h2.2.1⟩
    have := h2.1
    show Wn (mxM T e k) + c ≤ e
    unfold mxM
    omega
/-- a declaration of an element -/
theorem nmEl_W {a : AS} (h9 : 9 ≤ (cur a).length) : Wn (nmEl a) ≤ (cur a).length ∧ (∀ s ∈ nmEl a, s ≠ []) ∧ ∀ k, elk (gd (cur a)) (cur a).length 0 = some k → 10 ≤ k ∧ k ≤ (cur a).length ∧ Wn (nmEl a) ≤ k := by
  unfold nmEl
  generalize gd (cur a) = T
  generalize (cur a).length = e at h9 ⊢
  cases hc : elc T e 0 with
  | none =>
    have e1 : elk T e 0 = none := by unfold elk; rw [hc]; rfl
    rw [e1]
    cases spc T e (some 9) <;> exact ⟨Nat.zero_le _, fun s h => (by cases h), fun k h => (by cases h)⟩
  | some c =>
    obtain ⟨s, n, hs, hn, q1, q2, q3, q4⟩ := elc_at (by omega) hc
    rw [Nat.zero_add] at hs
    rw [hs]
    have hX : nmX T e (some c) = if cnK T e c ≤ 1 then [] else mxW T e (some c) := rfl
    have hw := mxW_W (T := T) q4
    have hXw : Wn (nmX T e (some c)) + c ≤ e ∧ ∀ s ∈ nmX T e (some c), s ≠ [] := by
      rw [hX]
      split
      · exact ⟨by show 0 + c ≤ e; omega, fun s h => (by cases h)⟩
      · exact hw
    cases hk : elk T e 0 with
    | none => 
      dsimp only
      rw [List.append_nil]
      exact ⟨by omega, hXw.2, fun k h => (by cases h)⟩
    | some kk =>
      dsimp only
      rw [hn]
      dsimp only
      have hk' : wd T e [62] (asp T e (cnt T e c)) = some kk := by
        have : elk T e 0 = wd T e [62] (asp T e ((elc T e 0).bind (cnt T e))) := rfl
        rw [hc] at this
        rw [← hk, this]; rfl
      have hnne : sl T s (n - s) ≠ [] := by
        refine List.length_pos_iff.mp ?_
        rw [sl_ln]
        omega
      cases hz : cnt T e c with
      | none => rw [hz] at hk'; cases hk'
      | some z =>
        rw [hz] at hk'
        -- behind the content
        have hzz : c < z ∧ z ≤ e ∧ Wn (nmX T e (some c)) + (if cnK T e c = 3 then Wn (bnm T ((mdl T e c).getD (0, 0, 0)).1 (((mdl T e c).getD (0, 0, 0)).1 + 1) c) else 0) + c ≤ z + 1 ∧ (cnK T e c = 3 → ∀ s ∈ bnm T ((mdl T e c).getD (0, 0, 0)).1 (((mdl T e c).getD (0, 0, 0)).1 + 1) c, s ≠ []) := by
          unfold cnt at hz
          by_cases c0 : cnK T e c = 0
          · rw [if_pos c0] at hz
            have hz := Option.some.inj hz
            have hm : mt T e c [69, 77, 80, 84, 89] = true := by
              unfold cnK at c0
              split at c0
              · assumption
              · split at c0
                · cases c0
                · split at c0 <;> cases c0
            have := mt_at (by decide) q4 hm
            rw [hX, if_pos (by omega), if_neg (by omega)]
            have e5 : [69, 77, 80, 84, 89].length = 5 := rfl
            exact ⟨by omega, by omega, by rw [Wn_nil]; omega, fun w => by omega⟩
          · rw [if_neg c0] at hz
            by_cases c1 : cnK T e c = 1
            · rw [if_pos c1] at hz
              have hz := Option.some.inj hz
              have hm : mt T e c [65, 78, 89] = true := by
                unfold cnK at c1
                split at c1
                · cases c1
                · split at c1
                  · assumption
                  · split at c1 <;> cases c1
              have := mt_at (by decide) q4 hm
              rw [hX, if_pos (by omega), if_neg (by omega)]
              have e5 : [65, 78, 89].length = 3 := rfl
              exact ⟨by omega, by omega, by rw [Wn_nil]; omega, fun w => by omega⟩
            · rw [if_neg c1] at hz
              rw [hX, if_neg (by omega)]
              by_cases c2 : cnK T e c = 2
              · rw [if_pos c2] at hz
                rw [if_neg (by omega)]
                split at hz
                · rename_i hm
                  have h1 := mt_one (by decide) hm
                  have h2 := skS (T := T) (e := e) (k := c + 1) (by omega)
                  have hm2 : mt T e (sk isSp T e (c + 1)) [35, 80, 67, 68, 65, 84, 65] = true := by
                    unfold cnK at c2
                    split at c2
                    · cases c2
                    · split at c2
                      · cases c2
                      · split at c2
                        · assumption
                        · cases c2
                  have h3 := mt_at (by decide) h2.2 hm2
                  have e7 : [35, 80, 67, 68, 65, 84, 65].length = 7 := rfl
                  have hq : mxQ T e (some c) = some (sk isSp T e (c + 1) + 7) := by
                    unfold mxQ
                    have : wd T e [40] (some c) = some (c + 1) := by unfold wd; dsimp only; rw [if_pos hm]; rfl
                    rw [this]
                    show wd T e _ (some (sk isSp T e (c + 1))) = _
                    unfold wd
                    dsimp only
                    rw [if_pos hm2]; rfl
                  have h4 := mxL_W (T := T) (e := e) (e + 1) (sk isSp T e (c + 1) + 7) (by omega)
                  have h5 := h4.2.2 false z hz
                  have h6 := mxk_le _ _ _ _ (by omega) hz
                  have hW : Wn (mxW T e (some c)) = Wn ((mxL T e (e + 1) (sk isSp T e (c + 1) + 7)).map (fun q => sl T q.1 (q.2 - q.1))) := by
                    unfold mxW
                    rw [hq]
                    rfl
                  rw [hW]
                  exact ⟨by omega, h6.2, by omega, fun w => by omega⟩
                · cases hz
              · rw [if_neg c2] at hz
                have c3 : cnK T e c = 3 := by
                  have : cnK T e c ≤ 3 := by
                    unfold cnK
                    split
                    · omega
                    · split
                      · omega
                      · split <;> omega
                  omega
                have hq : mxQ T e (some c) = none := by
                  have hm2 : mt T e (sk isSp T e (c + 1)) [35, 80, 67, 68, 65, 84, 65] = false := by
                    cases hm : mt T e (sk isSp T e (c + 1)) [35, 80, 67, 68, 65, 84, 65] with
                    | false => rfl
                    | true =>
                      exfalso
                      unfold cnK at c3
                      split at c3
                      · cases c3
                      · split at c3
                        · cases c3
                        · omega
                  cases hqq : mxQ T e (some c) with
                  | none => rfl
                  | some k =>
                    exfalso
                    unfold mxQ at hqq
                    cases hw : wd T e [40] (some c) with
                    | none => rw [hw] at hqq; cases hqq
                    | some w =>
                      have h1 := wd_one (by decide) hw
                      rw [hw, h1.2.2] at hqq
                      have h' : (if mt T e (sk isSp T e (c + 1)) [35, 80, 67, 68, 65, 84, 65] = true then some (sk isSp T e (c + 1) + 7) else none) = some k := hqq
                      rw [hm2] at h'
                      cases h'
                have hW : mxW T e (some c) = [] := by unfold mxW; rw [hq]
                rw [hW, if_pos c3]
                cases hm : mdl T e c with
                | none => rw [hm] at hz; cases hz
                | some r =>
                  rw [hm] at hz
                  have hz := Option.some.inj hz
                  have hr : c + 1 ≤ r.1 ∧ r.1 ≤ e := by
                    unfold mdl at hm
                    split at hm
                    · rename_i hm1
                      have h1 := mt_one (by decide) hm1
                      have := mdk_le _ _ _ _ _ _ _ (by omega) hm
                      omega
                    · cases hm
                  have e1 : ((some r : Option (Nat × Nat × Nat)).getD (0, 0, 0)).1 = r.1 := rfl
                  rw [e1]
                  have hb := bnm_W (T := T) (e := r.1) (r.1 + 1) c (by omega)
                  have hz' : r.1 = z := hz
                  exact ⟨by omega, by omega, by rw [Wn_nil]; omega, fun _ => hb.2⟩
        have hkk := wd_asp (by decide) hzz.2.1 hk'
        have hfin : Wn (nmX T e (some c) ++ sl T s (n - s) :: (if cnK T e c = 3 then bnm T ((mdl T e c).getD (0, 0, 0)).1 (((mdl T e c).getD (0, 0, 0)).1 + 1) c else [])) ≤ kk := by
          rw [Wn_app, Wn_cons, sl_ln]
          have := hzz.2.2.1
          by_cases c3 : cnK T e c = 3
          · rw [if_pos c3] at this ⊢
            omega
          · rw [if_neg c3] at this ⊢
            rw [Wn_nil]
            omega
        refine ⟨by omega, fun x hx => ?_, fun k hk2 => ?_⟩
        · rcases List.mem_append.mp hx with hx | hx
          · exact hXw.2 x hx
          · rcases List.mem_cons.mp hx with rfl | hx
            · exact hnne
            · split at hx
              · rename_i c3
                exact hzz.2.2.2 c3 x hx
              · cases hx
        · cases hk2
          exact ⟨by omega, hkk.2, hfin⟩
end Kw2
