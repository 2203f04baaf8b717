/-! ===== the reference decodes a row of bytes ===== -/
section Kdc
variable {L : Nat → Nat} {σ : IS} {B : Nat → Int} {n r : Nat} {R : Int → IS → Prop} {a2 : Int}
/-- what decoding may change -/
def DCx (σ ρ : IS) : Prop := (∀ o k, ¬ (o = 16 ∧ (k = 6 ∨ k = 7 ∨ k = 8 ∨ k = 75)) → ρ.1 o k = σ.1 o k) ∧ ∀ q, q ≠ 176 → ρ.2 q = σ.2 q
theorem sp_K_decode (hB : ∀ j, B j = ia (σ.2 r j) 255) (hr : r ≠ 176) (hn : n ≤ 65536) (hLr : n ≤ L r) (hL : L 176 = 262144) (ha2 : a2 = (n : Int)) (h6 : σ.1 16 6 = 0)
    (hbad : ∀ (p : Nat) ρ, ldT B n = .inl p → DCx σ ρ → R 0 (pf (pf ρ 16 3 1) 16 4 (p : Int)))
    (hgood : ∀ w ρ, ldT B n = .inr w → DCx σ ρ → (ρ.1 16 8 = 0 ↔ (bom B n).1 = false) → ρ.1 16 6 = ((nle w).length : Int) → ρ.1 16 7 = ((nle w).length : Int) → (∀ j, j < (nle w).length → ρ.2 176 j = (nle w).getD j 0) → R 1 ρ) : w_KReader_decode L r a2 R σ := by
  subst ha2
  unfold w_KReader_decode
  rw [show Int.toNat 0 = 0 from rfl, show Int.toNat 1 = 1 from rfl, show Int.toNat 2 = 2 from rfl, ← hB 0, ← hB 1, ← hB 2]
  refine ⟨fun _ => ⟨by omega, by omega⟩, fun _ => ⟨by omega, by omega⟩, fun _ => ⟨by omega, by omega⟩, ?_⟩
  have key : ∀ t4 t6 t8 : Int, t4 = b1 (bom B n).2 → (if t4 = 0 then (if t6 = 0 then (0 : Int) else (1 : Int)) else (1 : Int)) = b1 (bom B n).1 → t8 = (if (bom B n).1 = true then 2 else if 2 < n ∧ B 0 = 239 ∧ B 1 = 187 ∧ B 2 = 191 then 3 else 0) → WL (fun (K10 : Int → IS → Prop) (s12 : Int) (σ13 : IS) => if s12 < (n : Int) then WJ (fun (s19 : Int) (σ20 : IS) => WJ (fun (s23 : Unit) (σ24 : IS) => R 0 (pf (pf σ24 16 3 1) 16 4 s12)) (fun J21 => if s19 = 0 then J21 () σ20 else w_K_isCharacter L (σ20.1 16 75) (fun v27 σ26 => if v27 = 0 then J21 () σ26 else inL L 176 (σ26.1 16 6) ∧ inR ((σ26.1 16 6) + 1) ∧ inR (s12 + s19) ∧ K10 (s12 + s19) (pf (pr σ26 176 (Int.toNat (σ26.1 16 6)) (σ26.1 16 75)) 16 6 ((σ26.1 16 6) + 1))) σ20)) (fun J17 => if (σ13.1 16 8) = 0 then w_KReader_eight L r (n : Int) s12 (fun v34 σ33 => J17 v34 σ33) σ13 else w_KReader_unit L r (n : Int) s12 t4 (fun v36 σ35 => J17 v36 σ35) σ13) else w_KReader_endLines L  (fun σ15 => R 1 σ15) σ13) t8 (pf σ 16 8 (if t4 = 0 then (if t6 = 0 then (0 : Int) else (1 : Int)) else (1 : Int))) := by
    intro t4 t6 t8 h4 hw8 h8
    rw [hw8]
    have hu : ∃ u : Nat → Option (Int × Nat), (∀ i c k, u i = some (c, k) → 1 ≤ k ∧ i + k ≤ n) ∧ ∃ i0, t8 = ((i0 : Nat) : Int) ∧ i0 ≤ n ∧ ldT B n = dcd u n (n + 1) i0 ∧ u = if (bom B n).1 = true then u16 B (bom B n).2 n else u8 B n := by
      unfold ldT
      by_cases c : (bom B n).1 = true
      · rw [if_pos c] at h8 ⊢
        rw [if_pos c]
        refine ⟨_, u16_st, 2, h8, ?_, rfl, rfl⟩
        unfold bom at c
        have := of_decide_eq_true c
        omega
      · rw [if_neg c] at h8 ⊢
        rw [if_neg c]
        by_cases c2 : 2 < n ∧ B 0 = 239 ∧ B 1 = 187 ∧ B 2 = 191
        · rw [if_pos c2] at h8 ⊢
          exact ⟨_, u8_st, 3, h8, by omega, rfl, rfl⟩
        · rw [if_neg c2] at h8 ⊢
          exact ⟨_, u8_st, 0, h8, Nat.zero_le _, rfl, rfl⟩
    obtain ⟨u, hust, i0, rfl, hi0, hld, hue⟩ := hu
    generalize hwd : (bom B n).1 = wide at *
    generalize hbe : (bom B n).2 = be at *
    have hb1 : ∀ b : Bool, b1 b = 0 ↔ b = false := by intro b; cases b <;> decide
    refine WL_ind (fun s ρ => ∃ (i m : Nat) (W : List Int), s = (i : Int) ∧ i ≤ n ∧ n < m + i ∧ DCx σ ρ ∧ ρ.1 16 8 = b1 wide ∧ ρ.1 16 6 = (W.length : Int) ∧ W.length ≤ i ∧ (∀ j, j < W.length → ρ.2 176 j = W.getD j 0) ∧ ldT B n = match dcd u n m i with
      | .inl p => .inl p
      | .inr w => .inr (W ++ w)) (fun s _ => ((n : Int) - s).toNat) ?_ _ _ ⟨i0, n + 1, [], rfl, hi0, by omega, ⟨fun o k z => by rw [pf_1, if_neg (fun y => z ⟨y.1, Or.inr (Or.inr (Or.inl y.2))⟩)], fun _ _ => rfl⟩, pf_eq, by rw [pf_nk (by decide)]; exact h6, Nat.zero_le _, fun j hj => absurd hj (Nat.not_lt_zero _), by rw [hld]; cases dcd u n (n + 1) i0 <;> rfl⟩
    rintro s ρ ⟨i, m, W, rfl, hi, hm, hD, h88, h66, hWi, hrow, hl⟩ K hI
    try dsimp only
    obtain ⟨m, rfl⟩ : ∃ m', m = m' + 1 := ⟨m - 1, by omega⟩
    have hstep : dcd u n (m + 1) i = if n ≤ i then .inr [] else match u i with
      | none => .inl i
      | some (c, k) => match dcd u n m (i + k) with
        | .inl p => .inl p
        | .inr w => .inr (c :: w) := rfl
    rw [hstep] at hl
    by_cases c : i < n
    · rw [if_pos (by omega)]
      rw [if_neg (by omega)] at hl
      have hBr : ∀ j, B j = ia (ρ.2 r j) 255 := fun j => by rw [hD.2 r hr]; exact hB j
      refine WJ_of (fun len τ => D75 ρ τ ∧ ((u i = none ∧ (len = 0 ∨ isCh (τ.1 16 75) = false)) ∨ ∃ cc k, u i = some (cc, k) ∧ len = ((k : Nat) : Int) ∧ τ.1 16 75 = cc)) (fun J17 hJ => ?_) ?_
      · cases hwide : wide with
        | false =>
          rw [hwide] at h88 hue
          rw [if_neg (by decide)] at hue
          rw [if_pos (h88.trans (by decide))]
          refine sp_K_eight hBr c hn hLr rfl rfl (fun len τ y1 y2 => hJ len τ ⟨y1, ?_⟩)
          rw [hue]; exact y2
        | true =>
          rw [hwide] at h88 hue
          rw [if_pos rfl] at hue
          rw [if_neg (by rw [h88]; decide)]
          refine sp_K_unit (be := be) hBr c hn hLr rfl rfl (by rw [h4]; exact hb1 be) (fun len τ y1 y2 => hJ len τ ⟨y1, ?_⟩)
          rw [hue]; exact y2
      · rintro len τ ⟨⟨d1, d2⟩, hcs⟩
        have hDτ : DCx σ τ := ⟨fun o k z => by rw [d1 o k (fun y => z ⟨y.1, Or.inr (Or.inr (Or.inr y.2))⟩)]; exact hD.1 o k z, fun q hq => by rw [d2]; exact hD.2 q hq⟩
        refine WJ_dir ?_
        try dsimp only
        rcases hcs with ⟨hn0, hbad0⟩ | ⟨cc, k, hs0, rfl, h75⟩
        · rw [hn0] at hl
          have hfin : R 0 (pf (pf τ 16 3 1) 16 4 (i : Int)) := hbad i τ hl hDτ
          by_cases cl : len = 0
          · rw [if_pos cl]; exact hfin
          · rw [if_neg cl]
            refine sp_K_isCharacter ?_
            rw [hbad0.resolve_left cl, if_pos (by decide)]
            exact hfin
        · have hk := hust i cc k hs0
          rw [if_neg (by omega)]
          rw [hs0] at hl
          dsimp only at hl
          have h66τ : τ.1 16 6 = (W.length : Int) := by rw [d1 16 6 (by omega)]; exact h66
          have hch : isCh cc = true := by
            have := hue
            by_cases cw : wide = true
            · rw [if_pos cw] at hue
              rw [hue] at hs0
              unfold u16 at hs0
              split at hs0
              · split at hs0
                · split at hs0
                  · cases hs0; assumption
                  · cases hs0
                · split at hs0
                  · cases hs0; assumption
                  · cases hs0
              · cases hs0
            · rw [if_neg cw] at hue
              rw [hue] at hs0
              unfold u8 at hs0
              split at hs0
              · rename_i hh
                cases hs0
                exact hh.2.2.2.2
              · cases hs0
          refine sp_K_isCharacter ?_
          rw [h75, hch, if_neg (by decide), h66τ, show Int.toNat (W.length : Int) = W.length from rfl]
          refine ⟨⟨by omega, by omega⟩, ⟨by omega, by omega⟩, ⟨by omega, by omega⟩, hI _ _ ⟨i + k, m, W ++ [cc], by omega, hk.2, by omega, ⟨fun o k' z => ?_, fun q hq => ?_⟩, ?_, ?_, ?_, fun j hj => ?_, ?_⟩ (by omega)⟩
          · rw [pf_1, if_neg (fun y => z ⟨y.1, Or.inl y.2⟩), pr_1]
            exact hDτ.1 o k' z
          · funext x
            rw [pf_2, pr_2, if_neg (fun y => hq y.1)]
            exact congrFun (hDτ.2 q hq) x
          · rw [pf_nk (by decide), pr_1, d1 16 8 (by omega)]
            exact h88
          · rw [pf_eq, List.length_append, List.length_singleton]
            omega
          · rw [List.length_append, List.length_singleton]
            omega
          · rw [List.length_append, List.length_singleton] at hj
            rw [pf_2, pr_2]
            by_cases cj : j = W.length
            · rw [if_pos ⟨rfl, cj⟩, cj, List.getD_eq_getElem?_getD, List.getElem?_append_right (Nat.le_refl _), Nat.sub_self]
              rfl
            · rw [if_neg (fun z => cj z.2), List.getD_eq_getElem?_getD, List.getElem?_append_left (by omega), ← List.getD_eq_getElem?_getD, d2]
              exact hrow j (by omega)
          · rw [hl]
            cases dcd u n m (i + k) with
            | inl p => rfl
            | inr w =>
              show (Sum.inr (W ++ (cc :: w)) : Nat ⊕ List Int) = Sum.inr ((W ++ [cc]) ++ w)
              rw [List.append_assoc]; rfl
    · rw [if_neg (by omega)]
      rw [if_pos (by omega)] at hl
      have hl' : ldT B n = .inr W := by rw [hl]; show (Sum.inr (W ++ []) : Nat ⊕ List Int) = _; rw [List.append_nil]
      refine sp_K_endLines hL (by omega) h66 hrow (fun τ y1 y2 y3 y4 y5 => hgood W τ hl' ⟨fun o k z => ?_, fun q hq => ?_⟩ ?_ y3 y4 y5)
      · rw [y1 o k (fun y => z ⟨y.1, by rcases y.2 with y | y; exact Or.inl y; exact Or.inr (Or.inl y)⟩)]
        exact hD.1 o k z
      · rw [y2 q hq]; exact hD.2 q hq
      · rw [y1 16 8 (by omega), h88]
        exact hb1 wide
  have h4 : (if (1 : Int) < (n : Int) then (if (if (0 : Int) < (n : Int) then B 0 else (0 : Int)) = 254 then (if (if (1 : Int) < (n : Int) then B 1 else (0 : Int)) = 255 then (1 : Int) else (0 : Int)) else (0 : Int)) else (0 : Int)) = b1 (bom B n).2 := by
    show _ = b1 (decide (1 < n ∧ B 0 = 254 ∧ B 1 = 255))
    by_cases c1 : 1 < n
    · have e1 : (1 : Int) < (n : Int) := by omega
      have e0 : (0 : Int) < (n : Int) := by omega
      simp only [if_pos e1, if_pos e0]
      by_cases c2 : B 0 = 254
      · rw [if_pos c2]
        by_cases c3 : B 1 = 255
        · rw [if_pos c3, decide_eq_true ⟨c1, c2, c3⟩]; rfl
        · rw [if_neg c3, decide_eq_false (fun z => c3 z.2.2)]; rfl
      · rw [if_neg c2, decide_eq_false (fun z => c2 z.2.1)]; rfl
    · rw [if_neg (by omega), decide_eq_false (fun z => c1 z.1)]; rfl
  have hw : (if (if (1 : Int) < (n : Int) then (if (if (0 : Int) < (n : Int) then B 0 else (0 : Int)) = 254 then (if (if (1 : Int) < (n : Int) then B 1 else (0 : Int)) = 255 then (1 : Int) else (0 : Int)) else (0 : Int)) else (0 : Int)) = 0 then (if (if (1 : Int) < (n : Int) then (if (if (0 : Int) < (n : Int) then B 0 else (0 : Int)) = 255 then (if (if (1 : Int) < (n : Int) then B 1 else (0 : Int)) = 254 then (1 : Int) else (0 : Int)) else (0 : Int)) else (0 : Int)) = 0 then (0 : Int) else (1 : Int)) else (1 : Int)) = b1 (bom B n).1 := by
    show _ = b1 (decide (1 < n ∧ ((B 0 = 254 ∧ B 1 = 255) ∨ (B 0 = 255 ∧ B 1 = 254))))
    by_cases c1 : 1 < n
    · have e1 : (1 : Int) < (n : Int) := by omega
      have e0 : (0 : Int) < (n : Int) := by omega
      simp only [if_pos e1, if_pos e0]
      by_cases c2 : B 0 = 254
      · by_cases c3 : B 1 = 255
        · rw [decide_eq_true ⟨c1, Or.inl ⟨c2, c3⟩⟩, if_pos c2, if_pos c3, if_neg (by decide)]; rfl
        · rw [decide_eq_false (fun z => by rcases z.2 with y | y; exact c3 y.2; omega), if_pos c2, if_neg c3, if_pos rfl, if_neg (show ¬ (B 0 = 255) by omega), if_pos rfl]; rfl
      · rw [if_neg c2, if_pos rfl]
        by_cases c4 : B 0 = 255
        · rw [if_pos c4]
          by_cases c5 : B 1 = 254
          · rw [decide_eq_true ⟨c1, Or.inr ⟨c4, c5⟩⟩, if_pos c5, if_neg (by decide)]; rfl
          · rw [decide_eq_false (fun z => by rcases z.2 with y | y; exact c2 y.1; exact c5 y.2), if_neg c5, if_pos rfl]; rfl
        · rw [decide_eq_false (fun z => by rcases z.2 with y | y; exact c2 y.1; exact c4 y.1), if_neg c4, if_pos rfl]; rfl
    · have e1 : ¬ (1 : Int) < (n : Int) := by omega
      simp only [if_neg e1]
      rw [decide_eq_false (fun z => c1 z.1)]; rfl
  refine key _ _ _ h4 hw ?_
  rw [hw]
  cases hb : (bom B n).1 with
  | true => rw [if_neg (by decide), if_pos rfl]
  | false =>
    rw [if_pos (show b1 false = 0 by decide), if_neg (show ¬ (false = true) by decide)]
    by_cases c1 : 2 < n
    · have e2 : (2 : Int) < (n : Int) := by omega
      have e1 : (1 : Int) < (n : Int) := by omega
      have e0 : (0 : Int) < (n : Int) := by omega
      simp only [if_pos e2, if_pos e1, if_pos e0]
      by_cases c2 : B 0 = 239
      · rw [if_pos c2]
        by_cases c3 : B 1 = 187
        · rw [if_pos c3]
          by_cases c4 : B 2 = 191
          · rw [if_pos c4, if_pos ⟨c1, c2, c3, c4⟩]
          · rw [if_neg c4, if_neg (fun z => c4 z.2.2.2)]
        · rw [if_neg c3, if_neg (fun z => c3 z.2.2.1)]
      · rw [if_neg c2, if_neg (fun z => c2 z.2.1)]
    · rw [if_neg (by omega), if_neg (fun z => c1 z.1)]
end Kdc
