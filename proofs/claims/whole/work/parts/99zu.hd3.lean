/-! ===== the head of a text (3): at a shifted place ===== -/
def encB (T : Nat → Int) (wide : Bool) (en : Option (Nat × Nat)) : Bool := match en with
  | none => true
  | some (i, n) => decide ((sl T i n).map lowr = if wide = true then [117, 116, 102, 45, 49, 54] else [117, 116, 102, 45, 56])
section ShH
variable {T T' : Nat → Int} {e d : Nat}
theorem encB_ok {w : Bool} {en : Option (Nat × Nat)} : encOk T w en ↔ encB T w en = true := by
  cases en with
  | none => exact ⟨fun _ => rfl, fun _ => trivial⟩
  | some q =>
    obtain ⟨i, n⟩ := q
    show _ ↔ decide _ = true
    rw [decide_eq_true_eq]
    rfl
theorem sh_qof (h : SHT T T' e d) {w : List Int} (o : Option Nat) : qof T' (d + e) w (mvo d o) = mvo d (qof T e w o) := by
  unfold qof
  rw [sh_wd h, sh_eqs h]
  cases eqs T e (wd T e w o) with
  | none => rfl
  | some i =>
    rw [mvo_some]
    dsimp only
    rw [sh_lk h]
    by_cases c : isQt (lk T e i) = true
    · rw [if_pos c, if_pos c, mvo_some, Nat.add_assoc]
    · rw [if_neg c, if_neg c]; rfl
theorem qof_lt {w : List Int} {o : Option Nat} {i : Nat} (h : qof T e w o = some i) : 1 ≤ i ∧ i - 1 < e ∧ i ≤ e := by
  unfold qof at h
  split at h
  · cases h
  · split at h
    · rename_i j _ c
      cases h
      have : j < e := by
        by_cases z : j < e
        · exact z
        · unfold lk at c
          rw [if_neg z] at c
          exact absurd c (by decide)
      omega
    · cases h
theorem sh_lts (h : SHT T T' e d) {al : Bool} (o : Option Nat) : lts al T' (d + e) (mvo d o) = mvo d (lts al T e o) := by
  cases o with
  | none => rfl
  | some i =>
    show (if sk (isHl al) T' (d + e) (d + i) = d + i then none else some (sk (isHl al) T' (d + e) (d + i))) = mvo d (if sk (isHl al) T e i = i then none else some (sk (isHl al) T e i))
    rw [sh_sk h]
    by_cases c : sk (isHl al) T e i = i
    · rw [if_pos c, if_pos (by omega)]; rfl
    · rw [if_neg c, if_neg (by omega)]; rfl
theorem sh_qcl (h : SHT T T' e d) {q : Int} (o : Option Nat) : qcl T' (d + e) q (mvo d o) = mvo d (qcl T e q o) := by
  cases o with
  | none => rfl
  | some i =>
    show (if lk T' (d + e) (d + i) = q then some (d + i + 1) else none) = mvo d (if lk T e i = q then some (i + 1) else none)
    rw [sh_lk h]
    by_cases c : lk T e i = q
    · rw [if_pos c, if_pos c, mvo_some, Nat.add_assoc]
    · rw [if_neg c, if_neg c]; rfl
theorem sh_hdV (h : SHT T T' e d) (p : Nat) : hdV T' (d + e) (d + p) = mvo d (hdV T e p) := by
  unfold hdV
  have e1 : spc T' (d + e) (wd T' (d + e) [60, 63, 120, 109, 108] (some (d + p))) = mvo d (spc T e (wd T e [60, 63, 120, 109, 108] (some p))) := by rw [sh_wds h, sh_spc h]
  rw [e1, sh_qof h]
  cases hq : qof T e [118, 101, 114, 115, 105, 111, 110] (spc T e (wd T e [60, 63, 120, 109, 108] (some p))) with
  | none => rfl
  | some i =>
    have hl := qof_lt hq
    rw [mvo_some]
    dsimp only
    rw [show d + i - 1 = d + (i - 1) by omega, h (i - 1) hl.2.1, sh_wds h, sh_lts h, sh_qcl h]
theorem sh_hdE (h : SHT T T' e d) (v : Nat) : hdE T' (d + e) (d + v) = (hdE T e v).map (fun z => (z.1.map (fun y => (d + y.1, y.2)), d + z.2)) := by
  unfold hdE
  rw [sh_sk h, sh_mt h]
  by_cases c : sk isSp T e v ≠ v ∧ mt T e (sk isSp T e v) [101, 110, 99, 111, 100, 105, 110, 103] = true
  · rw [if_pos c, if_pos ⟨by omega, c.2⟩]
    have e1 := sh_qof h (w := [101, 110, 99, 111, 100, 105, 110, 103]) (some (sk isSp T e v))
    rw [mvo_some] at e1
    rw [e1]
    unfold hdE1
    cases hq : qof T e [101, 110, 99, 111, 100, 105, 110, 103] (some (sk isSp T e v)) with
    | none => rfl
    | some i =>
      have hl := qof_lt hq
      rw [mvo_some]
      dsimp only
      rw [sh_lk h]
      by_cases cl : isLt (lk T e i) = true
      · rw [if_pos cl, if_pos cl, show d + i - 1 = d + (i - 1) by omega, h (i - 1) hl.2.1]
        have e2 := sh_lts h (al := true) (some i)
        rw [mvo_some] at e2
        rw [e2, sh_qcl h]
        cases qcl T e (T (i - 1)) (lts true T e (some i)) with
        | none => rfl
        | some j =>
          rw [mvo_some]
          dsimp only
          rw [sh_sk h, show d + sk (isHl true) T e i - (d + i) = sk (isHl true) T e i - i by omega]
          rfl
      · rw [if_neg cl, if_neg cl]; rfl
  · rw [if_neg c, if_neg (fun z => c ⟨by omega, z.2⟩)]
    rfl
theorem sh_hdS (h : SHT T T' e d) (j : Nat) : hdS T' (d + e) (d + j) = (hdS T e j).map (fun z => (z.1, d + z.2)) := by
  unfold hdS
  rw [sh_sk h, sh_mt h]
  by_cases c : sk isSp T e j ≠ j ∧ mt T e (sk isSp T e j) [115, 116, 97, 110, 100, 97, 108, 111, 110, 101] = true
  · rw [if_pos c, if_pos ⟨by omega, c.2⟩]
    have e1 := sh_qof h (w := [115, 116, 97, 110, 100, 97, 108, 111, 110, 101]) (some (sk isSp T e j))
    rw [mvo_some] at e1
    rw [e1]
    unfold hdS1
    cases hq : qof T e [115, 116, 97, 110, 100, 97, 108, 111, 110, 101] (some (sk isSp T e j)) with
    | none => rfl
    | some i =>
      have hl := qof_lt hq
      rw [mvo_some]
      dsimp only
      rw [sh_mt h, show d + i - 1 = d + (i - 1) by omega, h (i - 1) hl.2.1]
      by_cases cy : mt T e i [121, 101, 115] = true
      · rw [if_pos cy, if_pos cy]
        have e2 := sh_qcl h (q := T (i - 1)) (some (i + 3))
        rw [mvo_some] at e2
        rw [show d + i + 3 = d + (i + 3) by omega, e2]
        cases qcl T e (T (i - 1)) (some (i + 3)) <;> rfl
      · rw [if_neg cy, if_neg cy, sh_wds h, sh_qcl h]
        cases qcl T e (T (i - 1)) (wd T e [110, 111] (some i)) <;> rfl
  · rw [if_neg c, if_neg (fun z => c ⟨by omega, z.2⟩)]
    rfl
theorem sh_hdk (h : SHT T T' e d) (p : Nat) : hdk T' (d + e) (d + p) = (hdk T e p).map (fun z => (z.1, z.2.1.map (fun y => (d + y.1, y.2)), d + z.2.2)) := by
  unfold hdk
  rw [sh_hdV h]
  cases hdV T e p with
  | none => rfl
  | some v =>
    rw [mvo_some]
    dsimp only
    rw [sh_hdE h]
    cases hdE T e v with
    | none => rfl
    | some r =>
      obtain ⟨en, j⟩ := r
      dsimp only [Option.map]
      rw [sh_hdS h]
      cases hdS T e j with
      | none => rfl
      | some r2 =>
        obtain ⟨st, z⟩ := r2
        dsimp only [Option.map]
        rw [sh_sk h, sh_wds h]
        cases wd T e [63, 62] (some (sk isSp T e z)) with
        | none => rfl
        | some k => rfl
theorem hdk_le {p st k : Nat} {en : Option (Nat × Nat)} (h : hdk T e p = some (st, en, k)) : st ≤ 1 ∧ 0 < k ∧ k ≤ e ∧ ∀ i n, en = some (i, n) → i + n ≤ e := by
  unfold hdk at h
  split at h
  · cases h
  · rename_i v hv
    split at h
    · cases h
    · rename_i en' j he
      split at h
      · cases h
      · rename_i st' z hs
        split at h
        · cases h
        · rename_i k' hw
          cases h
          have hk := wd_gt hw
          have hkl : k ≤ e := wdl_le ti_1009 (fun i hi => by
            cases hi
            have h1 : (if mt T e (sk isSp T e z) [63, 62] = true then some (sk isSp T e z + 2) else none) = some k := hw
            split at h1
            · rename_i c
              have := wd_bad (l := [63, 62]) ti_1009 (by decide) c
              omega
            · cases h1) k hw
          have g2 : [(63 : Int), 62].length = 2 := rfl
          refine ⟨?_, by omega, hkl, ?_⟩
          · unfold hdS hdS1 at hs
            split at hs
            · split at hs
              · cases hs
              · split at hs
                · cases hq : qcl T e _ _ with
                  | none => rw [hq] at hs; cases hs
                  | some y => rw [hq] at hs; cases hs; omega
                · cases hq : qcl T e _ _ with
                  | none => rw [hq] at hs; cases hs
                  | some y => rw [hq] at hs; cases hs; omega
            · cases hs; omega
          · intro i n hin
            subst hin
            unfold hdE hdE1 at he
            split at he
            · split at he
              · cases he
              · rename_i i0 hq
                split at he
                · split at he
                  · cases he
                  · cases he
                    have hl := qof_lt hq
                    have := sk_le (p := isHl true) (T := T) hl.2.2
                    omega
                · cases he
            · cases he
end ShH
