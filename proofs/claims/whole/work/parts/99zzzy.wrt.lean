/-! ===== the class writes bytes ===== -/
/-- the bytes of a character -/
def u8b (c : Int) : List Int := if c < 128 then [c] else if c < 2048 then [io 192 (isr c 6), io 128 (ia c 63)] else if c < 65536 then [io 224 (isr c 12), io 128 (ia (isr c 6) 63), io 128 (ia c 63)] else [io 240 (isr c 18), io 128 (ia (isr c 12) 63), io 128 (ia (isr c 6) 63), io 128 (ia c 63)]
/-- a character as it is written in a text (v false) or a value -/
def esc (v : Bool) (c : Int) : List Int := if c = 38 then ti 1090 else if c = 60 then ti 1091 else if c = 13 then ti 1088 else if c = 62 ∧ v = false then ti 1092 else if c = 34 ∧ v = true then ti 1093 else if c = 9 ∧ v = true then ti 1094 else if c = 10 ∧ v = true then ti 1095 else u8b c
/-- what was written so far, into the row D -/
def WRo (τ : IS) (D : Nat) (out : List Int) : Prop := (D = 162 ∨ D = 163) ∧ τ.1 11 5 = (D : Int) ∧ ((τ.1 11 7 = 0 ∧ τ.1 11 6 = (out.length : Int) ∧ out.length ≤ 262144 ∧ ∀ i, i < out.length → τ.2 D i = nb (out.getD i 0)) ∨ (τ.1 11 7 = 1 ∧ τ.1 11 6 = 262144 ∧ 262144 < out.length))
/-- only what is written has changed -/
def WRx (σ τ : IS) (D : Nat) : Prop := (∀ o k, ¬ (o = 11 ∧ (k = 6 ∨ k = 7)) → τ.1 o k = σ.1 o k) ∧ ∀ r, r ≠ D → τ.2 r = σ.2 r
section Wrt
variable {L : Nat → Nat} {σ τ υ : IS} {D : Nat} {out : List Int} {Q : IS → Prop}
theorem WRx.refl : WRx σ σ D := ⟨fun _ _ _ => rfl, fun _ _ => rfl⟩
theorem WRx.trans (h1 : WRx σ τ D) (h2 : WRx τ υ D) : WRx σ υ D := ⟨fun o k a => (h2.1 o k a).trans (h1.1 o k a), fun r a => (h2.2 r a).trans (h1.2 r a)⟩
theorem WRo.more {l : List Int} (h : WRo τ D out) (hf : ¬ τ.1 11 7 = 0) : WRo τ D (out ++ l) := by
  obtain ⟨h1, h2, h3 | h3⟩ := h
  · exact absurd h3.1 hf
  · exact ⟨h1, h2, Or.inr ⟨h3.1, h3.2.1, by rw [List.length_append]; omega⟩⟩
theorem sp_Writer_put {b : Int} (hL : L 162 = 262144 ∧ L 163 = 262144) (h : WRo σ D out) (hq : ∀ τ, WRx σ τ D → WRo τ D (out ++ [b]) → Q τ) : w_Writer_put L b Q σ := by
  obtain ⟨h1, h2, h3⟩ := h
  have hDL : L D = 262144 := by rcases h1 with y | y <;> rw [y]; exact hL.1; exact hL.2
  rcases h3 with ⟨a1, a2, a3, a4⟩ | ⟨a1, a2, a3⟩
  · rcases Nat.lt_or_ge out.length 262144 with c | c
    · have hfin : Q (pf (pr σ D out.length (nb b)) 11 6 ((out.length : Int) + 1)) := by
        refine hq _ ⟨fun o k a => ?_, fun r a => ?_⟩ ⟨h1, ?_, Or.inl ⟨?_, ?_, ?_, fun i hi => ?_⟩⟩
        · rw [pf_1, if_neg (by omega)]; rfl
        · funext j
          rw [pf_2, pr_2, if_neg (fun z => a z.1)]
        · rw [pf_nk (by decide)]; exact h2
        · rw [pf_nk (by decide)]; exact a1
        · rw [pf_eq, List.length_append, List.length_singleton]; omega
        · rw [List.length_append, List.length_singleton]; omega
        · rw [List.length_append, List.length_singleton] at hi
          rw [pf_2, pr_2]
          by_cases y : i = out.length
          · rw [if_pos ⟨rfl, y⟩, y, List.getD_eq_getElem?_getD, List.getElem?_append_right (Nat.le_refl _), Nat.sub_self]
            rfl
          · rw [if_neg (fun z => y z.2), getD_app_l (by omega)]
            exact a4 i (by omega)
      have hdy : dyB (D : Int) := by rcases h1 with y | y <;> rw [y] <;> decide
      have e1 : (out.length : Int) < 262144 := by omega
      have e2 : inL L D (out.length : Int) := ⟨by omega, by omega⟩
      have e3 : inR ((out.length : Int) + 1) := ⟨by omega, by omega⟩
      unfold w_Writer_put
      refine WJ_dir ?_
      rw [h2, a2, if_pos e1, show Int.toNat (D : Int) = D from rfl, show Int.toNat ((out.length : Nat) : Int) = out.length from rfl]
      exact ⟨hdy, e2, e3, hfin⟩
    · have hfin : Q (pf σ 11 7 1) := by
        refine hq _ ⟨fun o k a => by rw [pf_1, if_neg (by omega)], fun _ _ => rfl⟩ ⟨h1, by rw [pf_nk (by decide)]; exact h2, Or.inr ⟨pf_eq, ?_, ?_⟩⟩
        · rw [pf_nk (by decide), a2]; omega
        · rw [List.length_append, List.length_singleton]; omega
      have e1 : ¬ (out.length : Int) < 262144 := by omega
      unfold w_Writer_put
      refine WJ_dir ?_
      rw [h2, a2, if_neg e1]
      exact hfin
  · have hfin : Q (pf σ 11 7 1) := hq _ ⟨fun o k a => by rw [pf_1, if_neg (by omega)], fun _ _ => rfl⟩ ⟨h1, by rw [pf_nk (by decide)]; exact h2, Or.inr ⟨pf_eq, by rw [pf_nk (by decide)]; exact a2, by rw [List.length_append]; omega⟩⟩
    unfold w_Writer_put
    refine WJ_dir ?_
    rw [h2, a2, if_neg (show ¬ (262144 : Int) < 262144 by omega)]
    exact hfin
theorem sp_Writer_putBytes {c : Int} (hL : L 162 = 262144 ∧ L 163 = 262144) (h : WRo σ D out) (hq : ∀ τ, WRx σ τ D → WRo τ D (out ++ u8b c) → Q τ) : w_Writer_putBytes L c Q σ := by
  unfold w_Writer_putBytes
  refine WJ_dir ?_
  unfold u8b at hq
  by_cases c1 : c < 128
  · rw [if_pos c1] at hq ⊢
    exact sp_Writer_put hL h hq
  · rw [if_neg c1] at hq ⊢
    by_cases c2 : c < 2048
    · rw [if_pos c2] at hq ⊢
      refine sp_Writer_put hL h (fun τ1 x1 y1 => sp_Writer_put hL y1 (fun τ2 x2 y2 => hq τ2 (x1.trans x2) ?_))
      rw [List.append_assoc] at y2
      exact y2
    · rw [if_neg c2] at hq ⊢
      by_cases c3 : c < 65536
      · rw [if_pos c3] at hq ⊢
        refine sp_Writer_put hL h (fun τ1 x1 y1 => sp_Writer_put hL y1 (fun τ2 x2 y2 => sp_Writer_put hL y2 (fun τ3 x3 y3 => hq τ3 ((x1.trans x2).trans x3) ?_)))
        rw [List.append_assoc, List.append_assoc] at y3
        exact y3
      · rw [if_neg c3] at hq ⊢
        refine sp_Writer_put hL h (fun τ1 x1 y1 => sp_Writer_put hL y1 (fun τ2 x2 y2 => sp_Writer_put hL y2 (fun τ3 x3 y3 => sp_Writer_put hL y3 (fun τ4 x4 y4 => hq τ4 (((x1.trans x2).trans x3).trans x4) ?_))))
        rw [List.append_assoc, List.append_assoc, List.append_assoc] at y4
        exact y4
theorem WRx.jwE (h : WRx σ τ D) : jw τ = jw σ := by unfold jw; rw [h.1 1 14 (by omega)]
theorem WRx.wstE (h : WRx σ τ D) (hD : D = 162 ∨ D = 163) (w : Nat) : wst τ w = wst σ w := by unfold wst wfr wsz; rw [h.2 101 (by omega), h.2 102 (by omega), h.2 103 (by omega)]
theorem WRx.si (h : WRx σ τ D) (hD : D = 162 ∨ D = 163) (hS : SI L σ) : SI L τ := (SI_of hS (σ' := τ) (h.1 1 14 (by omega)) (by rw [h.1 1 3 (by omega)]; have := hS.1; omega) (fun r y1 y2 => h.2 r (by omega)) (fun i _ => by rw [h.2 101 (by omega)])).1
theorem sp_Writer_putText {s : Nat} (hL : L 162 = 262144 ∧ L 163 = 262144) (h : WRo σ D out) (hq : ∀ τ, WRx σ τ D → WRo τ D (out ++ ti s) → Q τ) : w_Writer_putText L s Q σ := by
  have hl := ti_len s
  unfold w_Writer_putText
  refine WL_ind (fun z τ => ∃ k : Nat, z = (k : Int) ∧ k ≤ (ti s).length ∧ WRx σ τ D ∧ WRo τ D (out ++ (ti s).take k)) (fun z _ => ((ti s).length - z).toNat) ?_ 0 σ ⟨0, rfl, Nat.zero_le _, WRx.refl, by rw [List.take_zero, List.append_nil]; exact h⟩
  rintro _ τ ⟨k, rfl, hk, h1, h2⟩ K hK
  rw [tN_i]
  by_cases c : k < (ti s).length
  · rw [if_pos (by omega), tC_i rfl c]
    refine ⟨⟨by omega, by omega⟩, sp_Writer_put hL h2 (fun τ' x1 x2 => ⟨⟨by omega, by omega⟩, hK _ _ ⟨k + 1, rfl, by omega, h1.trans x1, ?_⟩ (by omega)⟩)⟩
    rw [List.append_assoc] at x2
    rw [List.take_succ, List.getElem?_eq_getElem c]
    exact x2
  · rw [if_neg (by omega)]
    rw [List.take_of_length_le (by omega)] at h2
    exact hq τ h1 h2
theorem sp_Writer_putCharacter {c : Int} {v : Bool} (hL : L 162 = 262144 ∧ L 163 = 262144) (h : WRo σ D out) (hq : ∀ τ, WRx σ τ D → WRo τ D (out ++ esc v c) → Q τ) : w_Writer_putCharacter L c (b1 v) Q σ := by
  have hb0 : b1 v = 0 ↔ v = false := by cases v <;> decide
  have hb1 : ¬ b1 v = 0 ↔ v = true := by cases v <;> decide
  unfold w_Writer_putCharacter
  refine WJ_dir ?_
  unfold esc at hq
  by_cases c1 : c = 38
  · rw [if_pos c1] at hq ⊢; exact sp_Writer_putText hL h hq
  · rw [if_neg c1] at hq ⊢
    by_cases c2 : c = 60
    · rw [if_pos c2] at hq ⊢; exact sp_Writer_putText hL h hq
    · rw [if_neg c2] at hq ⊢
      by_cases c3 : c = 13
      · rw [if_pos c3] at hq ⊢; exact sp_Writer_putText hL h hq
      · rw [if_neg c3] at hq ⊢
        by_cases c4 : c = 62 ∧ v = false
        · rw [if_pos c4] at hq; rw [if_pos ⟨c4.1, hb0.mpr c4.2⟩]; exact sp_Writer_putText hL h hq
        · rw [if_neg c4] at hq; rw [if_neg (fun z => c4 ⟨z.1, hb0.mp z.2⟩)]
          by_cases c5 : c = 34 ∧ v = true
          · rw [if_pos c5] at hq; rw [if_pos ⟨c5.1, hb1.mpr c5.2⟩]; exact sp_Writer_putText hL h hq
          · rw [if_neg c5] at hq; rw [if_neg (fun z => c5 ⟨z.1, hb1.mp z.2⟩)]
            by_cases c6 : c = 9 ∧ v = true
            · rw [if_pos c6] at hq; rw [if_pos ⟨c6.1, hb1.mpr c6.2⟩]; exact sp_Writer_putText hL h hq
            · rw [if_neg c6] at hq; rw [if_neg (fun z => c6 ⟨z.1, hb1.mp z.2⟩)]
              by_cases c7 : c = 10 ∧ v = true
              · rw [if_pos c7] at hq; rw [if_pos ⟨c7.1, hb1.mpr c7.2⟩]; exact sp_Writer_putText hL h hq
              · rw [if_neg c7] at hq; rw [if_neg (fun z => c7 ⟨z.1, hb1.mp z.2⟩)]
                exact sp_Writer_putBytes hL h hq
theorem flat_take {f : Int → List Int} {s : Str} {i : Nat} (h : i < s.length) : (s.take (i + 1)).flatMap f = (s.take i).flatMap f ++ f (s.getD i 0) := by
  rw [List.take_succ, List.getElem?_eq_getElem h, List.flatMap_append, List.getD_eq_getElem?_getD, List.getElem?_eq_getElem h]
  simp
theorem flat_rest {f : Int → List Int} {s : Str} {i : Nat} : s.flatMap f = (s.take i).flatMap f ++ (s.drop i).flatMap f := by
  rw [← List.flatMap_append, List.take_append_drop]
theorem sp_Writer_putWord {w : Nat} (hL : L 162 = 262144 ∧ L 163 = 262144) (hS : SI L σ) (hl : SL L) (hw : w < jw σ) (h : WRo σ D out) (hq : ∀ τ, WRx σ τ D → WRo τ D (out ++ (wst σ w).flatMap u8b) → Q τ) : w_Writer_putWord L (w : Int) Q σ := by
  have hD := h.1
  have hln : (wst σ w).length = wsz σ w := by unfold wst; rw [sl_ln]
  have l9 : L 101 < 1000000 := hl.2.2.2.2.2.2.2
  unfold w_Writer_putWord
  refine WL_ind (fun z τ => ∃ k : Nat, z = (k : Int) ∧ k ≤ wsz σ w ∧ WRx σ τ D ∧ WRo τ D (out ++ ((wst σ w).take k).flatMap u8b)) (fun z _ => (wsz σ w - z).toNat) ?_ 0 σ ⟨0, rfl, Nat.zero_le _, WRx.refl, by rw [List.take_zero, List.flatMap_nil, List.append_nil]; exact h⟩
  rintro _ τ ⟨k, rfl, hk, h1, h2⟩ K hK
  have hSt := h1.si hD hS
  have hwt : w < jw τ := by rw [h1.jwE]; exact hw
  obtain ⟨l1, l2, e1, e2, l3⟩ := hSt.word hl hwt
  have hz : wsz τ w = wsz σ w := by unfold wsz; rw [h1.2 103 (by omega)]
  rw [show Int.toNat (w : Int) = w from rfl, e2, hz]
  refine ⟨⟨by omega, by omega⟩, ?_⟩
  by_cases c : k < wsz σ w ∧ τ.1 11 7 = 0
  · rw [if_pos ⟨by omega, c.2⟩]
    refine sp_letter hSt hl hwt (by rw [hz]; exact c.1) (sp_Writer_putBytes hL h2 (fun τ' x1 x2 => ⟨⟨by omega, by omega⟩, hK _ _ ⟨k + 1, rfl, by omega, h1.trans x1, ?_⟩ (by omega)⟩))
    rw [h1.wstE hD, List.append_assoc] at x2
    rw [flat_take (by omega)]
    exact x2
  · rw [if_neg (fun z => c ⟨by omega, z.2⟩)]
    refine hq τ h1 ?_
    rw [flat_rest (i := k), ← List.append_assoc]
    by_cases y : k < wsz σ w
    · exact h2.more (fun z => c ⟨y, z⟩)
    · rw [List.drop_eq_nil_of_le (by omega), List.flatMap_nil, List.append_nil]
      exact h2
theorem sp_Writer_putValue {w : Nat} (hL : L 162 = 262144 ∧ L 163 = 262144) (hS : SI L σ) (hl : SL L) (hw : w < jw σ) (h : WRo σ D out) (hq : ∀ τ, WRx σ τ D → WRo τ D (out ++ (wst σ w).flatMap (esc true)) → Q τ) : w_Writer_putValue L (w : Int) Q σ := by
  have hD := h.1
  have hln : (wst σ w).length = wsz σ w := by unfold wst; rw [sl_ln]
  have l9 : L 101 < 1000000 := hl.2.2.2.2.2.2.2
  unfold w_Writer_putValue
  refine WL_ind (fun z τ => ∃ k : Nat, z = (k : Int) ∧ k ≤ wsz σ w ∧ WRx σ τ D ∧ WRo τ D (out ++ ((wst σ w).take k).flatMap (esc true))) (fun z _ => (wsz σ w - z).toNat) ?_ 0 σ ⟨0, rfl, Nat.zero_le _, WRx.refl, by rw [List.take_zero, List.flatMap_nil, List.append_nil]; exact h⟩
  rintro _ τ ⟨k, rfl, hk, h1, h2⟩ K hK
  have hSt := h1.si hD hS
  have hwt : w < jw τ := by rw [h1.jwE]; exact hw
  obtain ⟨l1, l2, e1, e2, l3⟩ := hSt.word hl hwt
  have hz : wsz τ w = wsz σ w := by unfold wsz; rw [h1.2 103 (by omega)]
  rw [show Int.toNat (w : Int) = w from rfl, e2, hz]
  refine ⟨⟨by omega, by omega⟩, ?_⟩
  by_cases c : k < wsz σ w ∧ τ.1 11 7 = 0
  · rw [if_pos ⟨by omega, c.2⟩]
    refine sp_letter hSt hl hwt (by rw [hz]; exact c.1) (sp_Writer_putCharacter (v := true) hL h2 (fun τ' x1 x2 => ⟨⟨by omega, by omega⟩, hK _ _ ⟨k + 1, rfl, by omega, h1.trans x1, ?_⟩ (by omega)⟩))
    rw [h1.wstE hD, List.append_assoc] at x2
    rw [flat_take (by omega)]
    exact x2
  · rw [if_neg (fun z => c ⟨by omega, z.2⟩)]
    refine hq τ h1 ?_
    rw [flat_rest (i := k), ← List.append_assoc]
    by_cases y : k < wsz σ w
    · exact h2.more (fun z => c ⟨y, z⟩)
    · rw [List.drop_eq_nil_of_le (by omega), List.flatMap_nil, List.append_nil]
      exact h2
end Wrt
