/-! ===== types of attributes (pure), as the reference reads them ===== -/
/-- the first word that stands there, from the t-th down -/
def kty (T : Nat → Int) (e i : Nat) : Nat → Option Nat
  | 0 => none
  | t + 1 => if mt T e i (tyT.getD t []) = true then some t else kty T e i t
/-- behind a type, as the reference reads it -/
def tyK (T : Nat → Int) (e i : Nat) : Option Nat := if lk T e i = 40 then brt T e false (some i) else if mt T e i [78, 79, 84, 65, 84, 73, 79, 78] = true then brt T e true (spc T e (some (i + 8))) else match kty T e i 8 with
  | none => none
  | some t => some (i + (tyT.getD t []).length)
/-- what type it says -/
def tyC (T : Nat → Int) (e i : Nat) : Nat := if lk T e i = 40 then 9 else if mt T e i [78, 79, 84, 65, 84, 73, 79, 78] = true then 8 else (kty T e i 8).getD 0
/-- the names that it keeps -/
def tyW (T : Nat → Int) (e i : Nat) : List Str := if lk T e i = 40 then brW T e false (some i) else if mt T e i [78, 79, 84, 65, 84, 73, 79, 78] = true then brW T e true (spc T e (some (i + 8))) else []
section Kty
variable {T : Nat → Int} {e i : Nat}
theorem mt_skn : ∀ (l : List Int) (j : Nat), mt T e j l = true → (∀ c ∈ l, isNm c = true) → j + l.length ≤ sk isNm T e j
  | [], j, _, _ => sk_gt
  | c :: l, j, h, hl => by
    have h' : ((lk T e j == c) && mt T e (j + 1) l) = true := h
    rw [Bool.and_eq_true, beq_iff_eq] at h'
    have hc := hl c List.mem_cons_self
    have hne : c ≠ -1 := fun z => by rw [z] at hc; exact absurd hc (by decide)
    obtain ⟨h1, h2⟩ := lk_lt hne h'.1
    rw [sk_go h1 (by rw [h2]; exact hc), List.length_cons]
    have := mt_skn l (j + 1) h'.2 (fun d hd => hl d (List.mem_cons_of_mem _ hd))
    omega
theorem mt_sle : ∀ (l : List Int) (j : Nat), (∀ c ∈ l, c ≠ -1) → mt T e j l = true → sl T j l.length = l
  | [], _, _, _ => rfl
  | c :: l, j, hl, h => by
    have h' : ((lk T e j == c) && mt T e (j + 1) l) = true := h
    rw [Bool.and_eq_true, beq_iff_eq] at h'
    obtain ⟨h1, h2⟩ := lk_lt (hl c List.mem_cons_self) h'.1
    have ih := mt_sle l (j + 1) (fun d hd => hl d (List.mem_cons_of_mem _ hd)) h'.2
    have e1 : sl T j (l.length + 1) = T j :: sl T (j + 1) l.length := by
      unfold sl
      rw [List.range_succ_eq_map, List.map_cons, List.map_map]
      congr 1
      refine List.map_congr_left (fun q _ => ?_)
      show T (j + (q + 1)) = T (j + 1 + q)
      rw [show j + (q + 1) = j + 1 + q by omega]
    show sl T j (l.length + 1) = c :: l
    rw [e1, h2, ih]
theorem sl_mte : ∀ (l : List Int) (j : Nat), j + l.length ≤ e → sl T j l.length = l → mt T e j l = true
  | [], _, _, _ => rfl
  | c :: l, j, hj, h => by
    rw [List.length_cons] at hj
    have e1 : sl T j (l.length + 1) = T j :: sl T (j + 1) l.length := by
      unfold sl
      rw [List.range_succ_eq_map, List.map_cons, List.map_map]
      congr 1
      refine List.map_congr_left (fun q _ => ?_)
      show T (j + (q + 1)) = T (j + 1 + q)
      rw [show j + (q + 1) = j + 1 + q by omega]
    have h' : sl T j (l.length + 1) = c :: l := h
    rw [e1] at h'
    obtain ⟨h1, h2⟩ := List.cons.inj h'
    show ((lk T e j == c) && mt T e (j + 1) l) = true
    rw [sl_mte l (j + 1) (by omega) h2, lk_b (by omega), h1]
    simp
theorem tyw_ok : ∀ t, t < 9 → ∀ c ∈ tyT.getD t [], isNm c = true := by decide
theorem tyw_ne : ∀ t, t < 9 → tyT.getD t [] ≠ [] ∧ (∀ c ∈ tyT.getD t [], c ≠ -1) ∧ isSt ((tyT.getD t []).headD 0) = true := by decide
theorem tyw_self : ∀ t, t < 9 → tyn (tyT.getD t []) = some t := by decide
theorem tyw_pre : ∀ t, t < 9 → ∀ t', t' < 9 → t < t' → (tyT.getD t []).take (tyT.getD t' []).length ≠ tyT.getD t' [] := by decide
theorem tyn_smK {l : List Int} {t : Nat} (h : tyn l = some t) : t < 9 ∧ tyT.getD t [] = l := by
  unfold tyn at h
  obtain ⟨h1, h2, -⟩ := List.findIdx?_eq_some_iff_getElem.mp h
  have h1' : t < 9 := h1
  refine ⟨h1', ?_⟩
  rw [List.getD_eq_getElem?_getD, List.getElem?_eq_getElem h1]
  have : (tyT[t] == l) = true := h2
  exact beq_iff_eq.mp this
/-- where a word stands, a name does, that is no shorter -/
theorem tyw_nmg {t : Nat} (ht : t < 9) (h : mt T e i (tyT.getD t []) = true) : ∃ n, nmg T e true (some i) = some n ∧ i + (tyT.getD t []).length ≤ n := by
  obtain ⟨h1, h2, h3⟩ := tyw_ne t ht
  have hok := tyw_ok t ht
  cases hw : tyT.getD t [] with
  | nil => exact absurd hw h1
  | cons c l =>
    rw [hw] at h h2 h3 hok
    have hs : isSt c = true := h3
    have h' : ((lk T e i == c) && mt T e (i + 1) l) = true := h
    rw [Bool.and_eq_true, beq_iff_eq] at h'
    have hk := mt_skn l (i + 1) h'.2 (fun d hd => hok d (List.mem_cons_of_mem _ hd))
    refine ⟨sk isNm T e (i + 1), ?_, by rw [List.length_cons]; omega⟩
    show (if isSt (lk T e i) = true then some (sk isNm T e (i + 1)) else none) = _
    rw [h'.1, if_pos hs]
/-- and if a blank stands behind it, it is the name -/
theorem tyw_exact {t w n : Nat} (ht : t < 9) (h : mt T e i (tyT.getD t []) = true) (hn : nmg T e true (some i) = some n) (hs : spc T e (some (i + (tyT.getD t []).length)) = some w) : n = i + (tyT.getD t []).length ∧ sl T i (n - i) = tyT.getD t [] := by
  obtain ⟨n', h1, h2⟩ := tyw_nmg ht h
  rw [hn] at h1
  have hnn : n = n' := Option.some.inj h1
  have hsp : isSp (T (i + (tyT.getD t []).length)) = true := by
    refine Classical.byContradiction (fun c => ?_)
    have hz : isSp (T (i + (tyT.getD t []).length)) = false := by simpa using c
    have h3 : (if sk isSp T e (i + (tyT.getD t []).length) = i + (tyT.getD t []).length then none else some (sk isSp T e (i + (tyT.getD t []).length))) = some w := hs
    rw [sk_stop hz, if_pos rfl] at h3
    cases h3
  have hle : n ≤ i + (tyT.getD t []).length := by
    refine Classical.byContradiction (fun c => ?_)
    have := nmg_all hn (i + (tyT.getD t []).length) (by omega) (by omega)
    unfold isSp at hsp
    rw [Bool.or_eq_true, Bool.or_eq_true, Bool.or_eq_true, beq_iff_eq, beq_iff_eq, beq_iff_eq, beq_iff_eq] at hsp
    rcases hsp with z | z | z | z <;> rw [z] at this <;> exact absurd this (by decide)
  have hne : n = i + (tyT.getD t []).length := by omega
  refine ⟨hne, ?_⟩
  rw [hne, show i + (tyT.getD t []).length - i = (tyT.getD t []).length by omega]
  exact mt_sle _ _ (tyw_ne t ht).2.1 h
theorem kty_some : ∀ {m t : Nat}, kty T e i m = some t → t < m ∧ mt T e i (tyT.getD t []) = true ∧ ∀ s, t < s → s < m → ¬ mt T e i (tyT.getD s []) = true
  | 0, _, h => by cases h
  | m + 1, t, h => by
    have h' : (if mt T e i (tyT.getD m []) = true then some m else kty T e i m) = some t := h
    by_cases c : mt T e i (tyT.getD m []) = true
    · rw [if_pos c] at h'
      have : m = t := Option.some.inj h'
      subst this
      exact ⟨by omega, c, fun s h1 h2 => by omega⟩
    · rw [if_neg c] at h'
      obtain ⟨h1, h2, h3⟩ := kty_some h'
      refine ⟨by omega, h2, fun s s1 s2 => ?_⟩
      by_cases cs : s = m
      · rw [cs]; exact c
      · exact h3 s s1 (by omega)
theorem kty_none : ∀ {m : Nat}, kty T e i m = none → ∀ s, s < m → ¬ mt T e i (tyT.getD s []) = true
  | 0, _, s, hs => absurd hs (Nat.not_lt_zero s)
  | m + 1, h, s, hs => by
    have h' : (if mt T e i (tyT.getD m []) = true then some m else kty T e i m) = none := h
    by_cases c : mt T e i (tyT.getD m []) = true
    · rw [if_pos c] at h'; cases h'
    · rw [if_neg c] at h'
      by_cases cs : s = m
      · rw [cs]; exact c
      · exact kty_none h' s (by omega)
theorem sl_take {n m : Nat} (h : m ≤ n) : (sl T i n).take m = sl T i m := by
  unfold sl
  rw [← List.map_take, List.take_range, Nat.min_eq_left h]
/-- both read the same, where a blank comes behind it -/
theorem tyK_eq : spc T e (tyK T e i) = spc T e (typ T e i) ∧ ∀ w, spc T e (typ T e i) = some w → tyK T e i = typ T e i ∧ tyC T e i = atyN T e i ∧ tyW T e i = (atyL T e i).map (fun q => sl T q.1 (q.2 - q.1)) := by
  unfold tyK typ tyC atyN tyW atyL
  by_cases c40 : lk T e i = 40
  · rw [if_pos c40, if_pos c40, if_pos c40, if_pos c40, if_pos c40, if_pos c40]
    refine ⟨rfl, fun w _ => ⟨rfl, rfl, ?_⟩⟩
    unfold brW
    have : wd T e [40] (some i) = some (i + 1) := by
      rw [wd_mt, if_pos (show mt T e i [40] = true by show ((lk T e i == 40) && true) = true; rw [c40]; rfl)]
      rfl
    rw [this]
    rfl
  · rw [if_neg c40, if_neg c40, if_neg c40, if_neg c40, if_neg c40, if_neg c40]
    have hN8 : tyT.getD 8 [] = [78, 79, 84, 65, 84, 73, 79, 78] := rfl
    cases hn : nmg T e true (some i) with
    | none =>
      have hno : ∀ t, t < 9 → ¬ mt T e i (tyT.getD t []) = true := fun t ht hm => by
        obtain ⟨n, h1, -⟩ := tyw_nmg ht hm
        rw [hn] at h1; cases h1
      have h8 := hno 8 (by decide)
      rw [hN8] at h8
      rw [if_neg h8]
      cases hk : kty T e i 8 with
      | none => exact ⟨rfl, fun w hw => by cases hw⟩
      | some t => exact absurd (kty_some hk).2.1 (hno t (by have := (kty_some hk).1; omega))
    | some n =>
      have hnl := nmg_lt hn
      dsimp only
      cases ht : tyn (sl T i (n - i)) with
      | none =>
        dsimp only
        refine ⟨?_, fun w hw => by cases hw⟩
        by_cases c8 : mt T e i [78, 79, 84, 65, 84, 73, 79, 78] = true
        · rw [if_pos c8]
          cases hs : spc T e (some (i + 8)) with
          | none => rfl
          | some w =>
            have := tyw_exact (t := 8) (by decide) c8 hn hs
            rw [this.2, tyw_self 8 (by decide)] at ht
            cases ht
        · rw [if_neg c8]
          cases hk : kty T e i 8 with
          | none => rfl
          | some t =>
            obtain ⟨k1, k2, -⟩ := kty_some hk
            dsimp only
            cases hs : spc T e (some (i + (tyT.getD t []).length)) with
            | none => rfl
            | some w =>
              have := tyw_exact (t := t) (by omega) k2 hn hs
              rw [this.2, tyw_self t (by omega)] at ht
              cases ht
      | some t =>
        dsimp only
        obtain ⟨t9, hw⟩ := tyn_smK ht
        have hlen : (tyT.getD t []).length = n - i := by rw [hw, sl_ln]
        have hmt : mt T e i (tyT.getD t []) = true := sl_mte _ _ (by omega) (by rw [hlen, hw])
        have hpick : ∀ t', t' < 9 → mt T e i (tyT.getD t' []) = true → ¬ t < t' := fun t' ht' hm' hlt => by
          obtain ⟨n', q1, q2⟩ := tyw_nmg ht' hm'
          rw [hn] at q1
          have hnn : n = n' := Option.some.inj q1
          refine tyw_pre t t9 t' ht' hlt ?_
          rw [hw, sl_take (by omega)]
          exact mt_sle _ _ (tyw_ne t' ht').2.1 hm'
        by_cases c8 : t = 8
        · subst c8
          have c8' : mt T e i [78, 79, 84, 65, 84, 73, 79, 78] = true := hmt
          have hl8 : n = i + 8 := by
            have : (8 : Nat) = n - i := hlen
            omega
          rw [if_pos c8', if_pos c8', if_pos c8', if_pos rfl, hl8]
          refine ⟨rfl, fun w hw' => ⟨rfl, rfl, ?_⟩⟩
          cases hs : spc T e (some (i + 8)) with
          | none => rfl
          | some y =>
            rw [hs] at hw'
            unfold brW
            rw [if_pos rfl]
            cases hwd : wd T e [40] (some y) with
            | none =>
              unfold brt at hw'
              rw [hwd] at hw'
              cases hw'
            | some z =>
              have := wd1 (by decide) hwd
              rw [this.1]
              rfl
        · have hn8 : ¬ mt T e i [78, 79, 84, 65, 84, 73, 79, 78] = true := fun z => hpick 8 (by decide) z (by omega)
          rw [if_neg hn8, if_neg hn8, if_neg hn8, if_neg c8]
          cases hk : kty T e i 8 with
          | none => exact absurd hmt (kty_none hk t (by omega))
          | some t' =>
            obtain ⟨k1, k2, k3⟩ := kty_some hk
            have htt : t' = t := by
              have h1 := hpick t' (by omega) k2
              refine Classical.byContradiction (fun c => ?_)
              exact k3 t (by omega) (by omega) hmt
            subst htt
            have hnx : i + (tyT.getD t' []).length = n := by omega
            dsimp only
            rw [hnx]
            refine ⟨rfl, fun w _ => ⟨rfl, rfl, ?_⟩⟩
            rw [if_neg c8]
            rfl
end Kty
