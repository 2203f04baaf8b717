/-! ===== the reference's writer: words, names, values ===== -/
/-- what writing may change -/
def WKx (σ τ : IS) : Prop := (∀ p k, p ≠ 17 → ¬ (p = 16 ∧ k = 6 ∧ σ.1 17 3 = 1) → τ.1 p k = σ.1 p k) ∧ (∀ k, k ≤ 3 → τ.1 17 k = σ.1 17 k) ∧ ∀ r, ¬ (r = 244 ∧ σ.1 17 3 = 0) → ¬ (r = 176 ∧ σ.1 17 3 = 1) → ¬ (245 ≤ r ∧ r ≤ 247) → τ.2 r = σ.2 r
theorem rfo_wk : ∀ o, o = 14 ∨ o = 15 → ∀ k, k ≤ 19 → ¬ rfo o k = 244 ∧ ¬ rfo o k = 176 ∧ ¬ (245 ≤ rfo o k ∧ rfo o k ≤ 247) := by
  intro o ho
  rcases ho with rfl | rfl <;> decide
section Kwc
variable {L : Nat → Nat} {o : Nat} {σ τ υ : IS} {bk : List Str} {pl : List Int} {ad : List ADc} {el : List Elm} {at_ : List Att} {l W s : Str} {Q : IS → Prop} {c x : Int}
theorem WKx.refl : WKx σ σ := ⟨fun _ _ _ _ => rfl, fun _ _ => rfl, fun _ _ _ _ => rfl⟩
theorem WKx.m3 (h : WKx σ τ) : τ.1 17 3 = σ.1 17 3 := h.2.1 3 (by omega)
theorem WKx.trans (h1 : WKx σ τ) (h2 : WKx τ υ) : WKx σ υ := ⟨fun p k a b => (h2.1 p k a (by rw [h1.m3]; exact b)).trans (h1.1 p k a b), fun k a => (h2.2.1 k a).trans (h1.2.1 k a), fun r a b c => (h2.2.2 r (by rw [h1.m3]; exact a) (by rw [h1.m3]; exact b) c).trans (h1.2.2 r a b c)⟩
theorem WKp.wx (h : WKp σ τ) : WKx σ τ := ⟨fun p k a b => h.1 p k (fun z => a z.1) b, fun k a => h.1 17 k (by omega) (by omega), fun r a b _ => h.2 r a b⟩
theorem KLn.oo (h : KLn L o 0 0) : o = 14 ∨ o = 15 := h.2.1
theorem WKx.ro (h : WKx σ τ) (ho : o = 14 ∨ o = 15) {k : Nat} (hk : k ≤ 19) : τ.2 (rfo o k) = σ.2 (rfo o k) := by
  obtain ⟨a, b, c⟩ := rfo_wk o ho k hk
  exact h.2.2 _ (fun z => a z.1) (fun z => b z.1) c
theorem WKx.fo (h : WKx σ τ) (ho : o = 14 ∨ o = 15) {k : Nat} : τ.1 o k = σ.1 o k := h.1 o k (by omega) (by omega)
theorem WKx.bkk (h : WKx σ τ) (hb : KBk σ bk) : KBk τ bk := hb.dep ⟨h.1 13 1 (by omega) (by omega), h.1 13 6 (by omega) (by omega)⟩ (fun r h1 h2 => h.2.2 r (by omega) (by omega) (by omega))
theorem KD4.wk (h : KD4 L o σ bk pl ad el at_) (hx : WKx σ τ) : KD4 L o τ bk pl ad el at_ := by
  obtain ⟨h1, h2, h3, h4, h5, h6, h7, h8, h9, h10⟩ := h
  have ho := h1.oo
  exact ⟨h1, hx.bkk h2, h3.dep kle.refl (hx.fo ho) (fun k _ _ => hx.ro ho (by omega)), h4.dep kle.refl cle.refl (hx.fo ho) (fun k _ _ => hx.ro ho (by omega)), h5, h6, h7, h8, h9, fun i hi => by rw [hx.ro ho (by omega)]; exact h10 i hi⟩
theorem sp_K_say {t : Nat} (hL : L 244 = 262144 ∧ L 176 = 262144) (h : WKo l σ W) (hB : σ.1 17 3 = 2 → W.length + (ti t).length ≤ 1000000000) (hq : ∀ τ, WKp σ τ → WKo l τ (W ++ ti t) → Q τ) : w_KWriter_say L t Q σ := by
  have hl := ti_len t
  unfold w_KWriter_say
  refine WL_ind (fun k ρ => ∃ n : Nat, k = (n : Int) ∧ n ≤ (ti t).length ∧ WKp σ ρ ∧ WKo l ρ (W ++ (ti t).take n)) (fun k _ => (((ti t).length : Int) - k).toNat) ?_ 0 σ ⟨0, rfl, Nat.zero_le _, WKp.refl, by rw [List.take_zero, List.append_nil]; exact h⟩
  rintro k ρ ⟨n, rfl, n1, n2, n3⟩ K hK
  try dsimp only
  rw [tN_i]
  by_cases cn : n < (ti t).length
  · rw [if_pos (by omega)]
    have hm : (ti t).getD n 0 ∈ ti t := by rw [List.getD_eq_getElem?_getD, List.getElem?_eq_getElem cn]; exact List.getElem_mem cn
    have hp := ti_pos t _ hm
    refine ⟨⟨by omega, by omega⟩, ?_⟩
    rw [tC_g cn]
    refine sp_K_put hL n3 (by omega) (by omega) (fun e => ?_) (fun τ t1 t2 => ⟨⟨by omega, by omega⟩, hK _ _ ⟨n + 1, by omega, by omega, n2.trans t1, ?_⟩ (by omega)⟩)
    · rw [n2.m3] at e
      have := hB e
      rw [List.length_append, List.length_take]
      omega
    · rw [List.take_add_one, List.getElem?_eq_getElem cn]
      rw [List.getD_eq_getElem?_getD, List.getElem?_eq_getElem cn, List.append_assoc] at t2
      exact t2
  · rw [if_neg (by omega)]
    rw [List.take_of_length_le (by omega)] at n3
    exact hq ρ n2 n3
/-- a string of the book -/
theorem sp_KW_name (hL : L 244 = 262144 ∧ L 176 = 262144) (hBL : BL L) (ho : dyD (σ.1 17 1)) (hb : KBk σ bk) (hv : Kn bk x s) (hs : ∀ c ∈ s, 0 ≤ c ∧ c ≤ 1114111) (h : WKo l σ W) (hB : σ.1 17 3 = 2 → W.length + s.length ≤ 1000000000) (hq : ∀ τ, WKp σ τ → WKo l τ (W ++ s) → Q τ) : w_KWriter_name L x Q σ := by
  obtain ⟨i, b, rfl, i1, i2, i3, i4, i5, -⟩ := hb.st hv
  obtain ⟨-, l2, l3, l4, -⟩ := hBL
  unfold w_KWriter_name
  refine WL_ind (fun k ρ => ∃ n : Nat, k = (n : Int) ∧ n ≤ s.length ∧ WKp σ ρ ∧ WKo l ρ (W ++ s.take n)) (fun k _ => ((s.length : Int) - k).toNat) ?_ 0 σ ⟨0, rfl, Nat.zero_le _, WKp.refl, by rw [List.take_zero, List.append_nil]; exact h⟩
  rintro k ρ ⟨n, rfl, n1, n2, n3⟩ K hK
  try dsimp only
  have r1 : ρ.1 17 1 = σ.1 17 1 := n2.1 17 1 (by omega) (by omega)
  have rr : ∀ r, 211 ≤ r → r ≤ 215 → ρ.2 r = σ.2 r := fun r h1 h2 => n2.2 r (by omega) (by omega)
  rw [r1]
  refine ⟨ho, ?_⟩
  unfold w_KBook_length
  rw [show Int.toNat (i : Int) = i from rfl, rr 214 (by omega) (by omega), i3]
  refine ⟨⟨by omega, by omega⟩, ?_⟩
  try dsimp only
  by_cases cn : n < s.length
  · rw [if_pos (by omega), r1]
    refine ⟨ho, ?_⟩
    unfold w_KBook_at
    rw [show Int.toNat (i : Int) = i from rfl, rr 213 (by omega) (by omega), i2, rr 212 (by omega) (by omega), show (b : Int) + (n : Int) = ((b + n : Nat) : Int) by omega, show Int.toNat ((b + n : Nat) : Int) = b + n from rfl, i5 n cn]
    have hm : s.getD n 0 ∈ s := by rw [List.getD_eq_getElem?_getD, List.getElem?_eq_getElem cn]; exact List.getElem_mem cn
    have hp := hs _ hm
    refine ⟨⟨by omega, by omega⟩, ⟨by omega, by omega⟩, ⟨by omega, by omega⟩, ?_⟩
    try dsimp only
    refine sp_K_put hL n3 hp.1 hp.2 (fun e => ?_) (fun τ t1 t2 => ⟨⟨by omega, by omega⟩, hK _ _ ⟨n + 1, by omega, by omega, n2.trans t1, ?_⟩ (by omega)⟩)
    · rw [n2.m3] at e
      have := hB e
      rw [List.length_append, List.length_take]
      omega
    · rw [List.take_add_one, List.getElem?_eq_getElem cn]
      rw [List.getD_eq_getElem?_getD, List.getElem?_eq_getElem cn, List.append_assoc] at t2
      exact t2
  · rw [if_neg (by omega)]
    rw [List.take_of_length_le (by omega)] at n3
    exact hq ρ n2 n3
/-- a letter as it is written in a text or a value -/
theorem sp_K_escape {v : Bool} (hL : L 244 = 262144 ∧ L 176 = 262144) (h : WKo l σ W) (h0 : 0 ≤ c) (h1 : c ≤ 1114111) (hB : σ.1 17 3 = 2 → W.length + (escL v c).length ≤ 1000000000) (hq : ∀ τ, WKp σ τ → WKo l τ (W ++ escL v c) → Q τ) : w_KWriter_escape L c (b1 v) Q σ := by
  have say : ∀ t, ti t = escL v c → w_KWriter_say L t (fun σ6 => Q σ6) σ := fun t ht => sp_K_say hL h (by rw [ht]; exact hB) (fun τ t1 t2 => hq τ t1 (by rw [← ht]; exact t2))
  have hv0 : (b1 v = 0) ↔ v = false := by cases v <;> decide
  unfold w_KWriter_escape
  refine WJ_dir ?_
  try dsimp only
  unfold escL at say hq hB
  by_cases c1 : c = 9
  · rw [if_pos c1]
    refine say _ ?_
    subst c1
    cases v
    · rw [if_pos (by decide), ti_1164]; decide
    · rw [if_neg (by decide), ti_1163, ti_1094]; decide
  rw [if_neg c1]
  by_cases c2 : c = 10
  · rw [if_pos c2]
    refine say _ ?_
    subst c2
    cases v
    · rw [if_pos (by decide), ti_1166]; decide
    · rw [if_neg (by decide), ti_1165, ti_1095]; decide
  rw [if_neg c2]
  by_cases c3 : c = 13
  · rw [if_pos c3]
    refine say _ ?_
    subst c3
    rw [ti_1158, ti_1088]
    cases v <;> decide
  rw [if_neg c3]
  by_cases c4 : c = 34
  · rw [if_pos c4]
    refine say _ ?_
    subst c4
    cases v
    · rw [if_pos (by decide), ti_1162]; decide
    · rw [if_neg (by decide), ti_1161, ti_1093]; decide
  rw [if_neg c4]
  by_cases c5 : c = 38
  · rw [if_pos c5]
    refine say _ ?_
    subst c5
    rw [ti_1156, ti_1090]
    cases v <;> decide
  rw [if_neg c5]
  by_cases c6 : c = 60
  · rw [if_pos c6]
    refine say _ ?_
    subst c6
    rw [ti_1157, ti_1091]
    cases v <;> decide
  rw [if_neg c6]
  by_cases c7 : c = 62
  · rw [if_pos c7]
    refine say _ ?_
    subst c7
    cases v
    · rw [if_pos (by decide), ti_1160, ti_1092]; decide
    · rw [if_neg (by decide), ti_1159]; decide
  rw [if_neg c7]
  rw [if_neg c5, if_neg c6, if_neg c3, if_neg (fun z => c7 z.1), if_neg (fun z => c4 z.1), if_neg (fun z => c1 z.1), if_neg (fun z => c2 z.1)] at hq hB
  exact sp_K_put hL h h0 h1 (fun e => by have := hB e; rw [List.length_singleton] at this; omega) hq
/-- a row of letters of the pool, written one by one -/
theorem fm_take {f : Int → Str} {s : Str} {n : Nat} (h : n < s.length) : (s.take (n + 1)).flatMap f = (s.take n).flatMap f ++ f (s.getD n 0) := by
  rw [List.take_add_one, List.getElem?_eq_getElem h, List.flatMap_append, List.getD_eq_getElem?_getD, List.getElem?_eq_getElem h]
  show _ = _ ++ f s[n]
  rw [show (some s[n]).toList = [s[n]] from rfl, List.flatMap_singleton]
theorem fm_le {f : Int → Str} {s : Str} {n : Nat} (h : n < s.length) : ((s.take n).flatMap f).length + (f (s.getD n 0)).length ≤ (s.flatMap f).length := by
  have h1 := fm_take (f := f) h
  have h2 : s.flatMap f = (s.take (n + 1)).flatMap f ++ (s.drop (n + 1)).flatMap f := by rw [← List.flatMap_append, List.take_append_drop]
  rw [h2, h1, List.length_append, List.length_append]
  omega
theorem sp_K_value {i : Nat} (hL : L 244 = 262144 ∧ L 176 = 262144) (h17 : σ.1 17 1 = (o : Int)) (hD : KD4 L o σ bk pl ad el at_) (hi : i < at_.length) (hx : x = (i : Int)) (hs : ∀ c ∈ (at_.getD i atD).2.1, 0 ≤ c ∧ c ≤ 1114111) (h : WKo l σ W) (hB : σ.1 17 3 = 2 → W.length + (ti 1085 ++ ((at_.getD i atD).2.1.flatMap (escL true) ++ [34])).length ≤ 1000000000) (hq : ∀ τ, WKp σ τ → WKo l τ (W ++ (ti 1085 ++ ((at_.getD i atD).2.1.flatMap (escL true) ++ [34]))) → Q τ) : w_KWriter_value L x Q σ := by
  subst hx
  have hD' := hD
  obtain ⟨hLn, hb, hE, hA, hp, hd, hal, hel, hpl, hpool⟩ := hD'
  obtain ⟨l8, l8', l8''⟩ : (∀ k, 8 ≤ k → k ≤ 13 → L (rfo o k) = L (rfo o 8)) ∧ 16500 ≤ L (rfo o 8) ∧ L (rfo o 8) ≤ 32768 := by obtain ⟨-, -, -, -, -, -, -, -, -, -, -, -, -, -, -, -, -, x, -⟩ := hLn; exact x
  obtain ⟨lp1, lp2⟩ : 0 ≤ L (rfo o 1) ∧ L (rfo o 1) ≤ 262144 := by obtain ⟨-, -, -, -, -, -, -, -, -, -, -, -, -, -, -, -, x, -⟩ := hLn; exact x
  have ho := hLn.oo
  have hdy : dyD (o : Int) := by unfold dyD; rcases ho with y | y <;> rw [y] <;> decide
  obtain ⟨-, m2, m3, -⟩ := hA.2 i hi
  generalize hval : (at_.getD i atD).2.1 = val at *
  obtain ⟨p, p1, p2, p3⟩ := m2.at_
  have e67 : ti 1167 = ti 1085 := by rw [ti_1167, ti_1085]
  have e62 : ti 1162 = [34] := ti_1162
  unfold w_KWriter_value
  refine sp_K_say hL h (fun e => by have := hB e; rw [e67]; rw [List.length_append] at this; omega) (fun τ0 u1 u2 => ?_)
  rw [e67] at u2
  refine WL_ind (fun k ρ => ∃ n : Nat, k = (n : Int) ∧ n ≤ val.length ∧ WKp σ ρ ∧ WKo l ρ (W ++ ti 1085 ++ (val.take n).flatMap (escL true))) (fun k _ => ((val.length : Int) - k).toNat) ?_ 0 τ0 ⟨0, rfl, Nat.zero_le _, u1, by rw [List.take_zero, List.flatMap_nil, List.append_nil]; exact u2⟩
  rintro k ρ ⟨n, rfl, n1, n2, n3⟩ K hK
  try dsimp only
  have r1 : ρ.1 17 1 = (o : Int) := (n2.1 17 1 (by omega) (by omega)).trans h17
  rw [r1, show Int.toNat (o : Int) = o from rfl, show Int.toNat (i : Int) = i from rfl, n2.wx.ro ho (show 10 ≤ 19 by omega), n2.wx.ro ho (show 9 ≤ 19 by omega), n2.wx.ro ho (show 1 ≤ 19 by omega), m3, p1]
  refine ⟨hdy, ⟨by omega, by rw [l8 10 (by omega) (by omega)]; omega⟩, ?_⟩
  by_cases cn : n < val.length
  · rw [if_pos (by omega), show (p : Int) + (n : Int) = ((p + n : Nat) : Int) by omega, show Int.toNat ((p + n : Nat) : Int) = p + n from rfl, hpool (p + n) (by omega), p3 n cn]
    have hm : val.getD n 0 ∈ val := by rw [List.getD_eq_getElem?_getD, List.getElem?_eq_getElem cn]; exact List.getElem_mem cn
    have hpp := hs _ hm
    refine ⟨⟨by omega, by rw [l8 9 (by omega) (by omega)]; omega⟩, ⟨by omega, by omega⟩, ⟨by omega, by omega⟩, ?_⟩
    refine sp_K_escape (v := true) hL n3 hpp.1 hpp.2 (fun e => ?_) (fun τ t1 t2 => ⟨⟨by omega, by omega⟩, hK _ _ ⟨n + 1, by omega, by omega, n2.trans t1, ?_⟩ (by omega)⟩)
    · rw [n2.m3] at e
      have h1 := hB e
      have h2 := fm_le (f := escL true) cn
      simp only [List.length_append] at h1 ⊢
      omega
    · rw [fm_take cn, ← List.append_assoc]
      exact t2
  · rw [if_neg (by omega)]
    rw [List.take_of_length_le (by omega)] at n3
    refine sp_K_say hL n3 (fun e => ?_) (fun τ t1 t2 => hq τ (n2.trans t1) ?_)
    · rw [n2.m3] at e
      have h1 := hB e
      rw [e62]
      simp only [List.length_append] at h1 ⊢
      omega
    · rw [e62] at t2
      simp only [List.append_assoc] at t2
      exact t2
end Kwc
