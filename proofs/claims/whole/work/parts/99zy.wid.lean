/-! ===== the class loads a text (2): wide ones; all ===== -/
section JLw
variable {L : Nat → Nat} {σ0 σ ρ : IS} {bg rm n : Nat} {B : Nat → Int}
theorem bit_8 {x y : Int} (hx : 0 ≤ x ∧ x ≤ 255) (hy : 0 ≤ y ∧ y ≤ 255) : io (isl x 8) y = x * 256 + y := by
  obtain ⟨a, rfl⟩ : ∃ a : Nat, x = (a : Int) := ⟨x.toNat, by omega⟩
  obtain ⟨b, rfl⟩ : ∃ b : Nat, y = (b : Int) := ⟨y.toNat, by omega⟩
  unfold io isl
  exact bits_8 a b (by omega) (by omega)
set_option maxHeartbeats 1000000 in
theorem sp_wide {Q : Int → IS → Prop} {a3 : Int} {be : Bool} {s0 : List Int × Bool} (hB : ∀ i, B i = ia (σ0.2 100 i) 255) (h : LD σ0 bg rm s0 ρ) (hrm : σ0.1 1 0 = (rm : Int)) (hL : bg + rm < L 101) (h9 : L 101 < 1000000) (hn : n ≤ 65536) (hL0 : n ≤ L 100) (ha : a3 = if be = true then 0 else 1) (hi0 : 2 ≤ n) (hs0 : s0.1.length ≤ 0)
    (hq : ∀ w ρ', dcd (u16 B be n) n (n + 1) 2 = .inr w → LD σ0 bg rm (w.foldl nlc s0) ρ' → Q (-1) ρ') (hb : ∀ p s ρ', dcd (u16 B be n) n (n + 1) 2 = .inl p → p ≤ n → LD σ0 bg rm s ρ' → Q (p : Int) ρ') : w_Store_loadWide L 100 (n : Int) a3 Q ρ := by
  have hBr : ∀ i, 0 ≤ B i ∧ B i ≤ 255 := fun i => by rw [hB]; exact byt_rg _
  have ha01 : a3 = 0 ∨ a3 = 1 := by rw [ha]; cases be <;> simp
  generalize hR : dcd (u16 B be n) n (n + 1) 2 = R at *
  unfold w_Store_loadWide
  refine WL_ind (fun z ρ => ∃ (i : Nat) (pre : List Int), z = (i : Int) ∧ i ≤ n ∧ pre.length ≤ i ∧ LD σ0 bg rm (pre.foldl nlc s0) ρ ∧ R = (match dcd (u16 B be n) n (n + 1) i with
    | .inl p => .inl p
    | .inr w => .inr (pre ++ w))) (fun z _ => ((n : Int) - z).toNat) ?_ 2 ρ ⟨2, [], rfl, hi0, Nat.zero_le _, h, by rw [hR]; cases R <;> rfl⟩
  rintro z ρ1 ⟨i, pre, rfl, hin, hpi, hLD, hRi⟩ K hK
  try dsimp only
  have hlen := nle_len pre s0
  have hst : dcd (u16 B be n) n (n + 1) i = if n ≤ i then .inr [] else match u16 B be n i with
    | none => .inl i
    | some (c, k) => match dcd (u16 B be n) n (n + 1) (i + k) with
      | .inl p => .inl p
      | .inr w => .inr (c :: w) := by
    show (if n ≤ i then (.inr [] : Nat ⊕ List Int) else match u16 B be n i with
      | none => .inl i
      | some (c, k) => match dcd (u16 B be n) n n (i + k) with
        | .inl p => .inl p
        | .inr w => .inr (c :: w)) = _
    by_cases c1 : n ≤ i
    · rw [if_pos c1, if_pos c1]
    · rw [if_neg c1, if_neg c1]
      cases hu : u16 B be n i with
      | none => rfl
      | some r =>
        obtain ⟨c, k⟩ := r
        dsimp only
        have := u16_ok hu
        rw [dcd_fuel (fun i c k h => u16_ok h) n (n + 1) (i + k) (by omega) (by omega) (by omega)]
  by_cases c1 : i < n
  · rw [if_pos (by omega)]
    rw [if_neg (by omega)] at hst
    have hr1 : ∀ j, ia (ρ1.2 100 j) 255 = B j := fun j => by rw [hLD.2.1 100 (by decide), hB]
    have hno : u16 B be n i = none → ∀ s ρ2, LD σ0 bg rm s ρ2 → Q (i : Int) ρ2 := fun hu s ρ2 h2 => hb i s ρ2 (by rw [hRi, hst, hu]) hin h2
    refine ⟨⟨by omega, by omega⟩, ?_⟩
    by_cases c2 : (n : Int) - (i : Int) < 2
    · rw [if_pos c2]
      refine hno ?_ _ _ hLD
      unfold u16
      rw [if_neg (by omega)]
    · rw [if_neg c2]
      -- a pair of bytes, as the class reads it
      have hpr : ∀ j : Nat, io (isl (ia (ρ1.2 100 (Int.toNat ((j : Int) + a3))) 255) 8) (ia (ρ1.2 100 (Int.toNat (((j : Int) + 1) - a3))) 255) = pr16 B be j := by
        intro j
        rw [hr1, hr1, bit_8 (hBr _) (hBr _)]
        unfold pr16
        cases be with
        | true =>
          have : a3 = 0 := ha
          rw [if_pos rfl, this, show Int.toNat ((j : Int) + 0) = j by omega, show Int.toNat ((j : Int) + 1 - 0) = j + 1 by omega]
        | false =>
          have : a3 = 1 := ha
          rw [if_neg (by decide), this, show Int.toNat ((j : Int) + 1) = j + 1 by omega, show Int.toNat ((j : Int) + 1 - 1) = j by omega]
      have hpr2 : io (isl (ia (ρ1.2 100 (Int.toNat (((i : Int) + 2) + a3))) 255) 8) (ia (ρ1.2 100 (Int.toNat (((i : Int) + 3) - a3))) 255) = pr16 B be (i + 2) := by
        have := hpr (i + 2)
        rw [show ((i + 2 : Nat) : Int) = (i : Int) + 2 by omega, show (i : Int) + 2 + 1 = (i : Int) + 3 by omega] at this
        exact this
      have hrg : ∀ j : Nat, 0 ≤ pr16 B be j ∧ pr16 B be j ≤ 65535 := by
        intro j
        have h1 := hBr j
        have h2 := hBr (j + 1)
        unfold pr16
        split <;> omega
      rw [hpr i]
      refine ⟨⟨by omega, by omega⟩, ⟨by omega, by omega⟩, ⟨by omega, by omega⟩, ⟨by omega, by omega⟩, ⟨by omega, by omega⟩, ?_⟩
      have hg1 := hrg i
      have hg2 := hrg (i + 2)
      generalize hv1 : pr16 B be i = v1 at *
      generalize hv2 : pr16 B be (i + 2) = v2 at *
      refine WJ_of (fun (w : Int × Int) ρ2 => ρ1 = ρ2 ∧ ∃ k : Nat, w.1 = (k : Int) ∧ 2 ≤ k ∧ i + k ≤ n ∧ u16 B be n i = if isCh w.2 = true then some (w.2, k) else none) (fun J hJ => ⟨fun _ _ => ⟨by omega, by omega⟩, ?_⟩) ?_
      · have hu2 : ¬ ((55296 ≤ v1 ∧ v1 ≤ 56319) ∧ i + 3 < n ∧ (56320 ≤ v2 ∧ v2 ≤ 57343)) → J (2, v1) ρ1 := fun hc => hJ _ _ ⟨rfl, 2, rfl, by omega, by omega, by
          unfold u16
          rw [if_pos (by omega), hv1, hv2, if_neg hc]⟩
        by_cases c3 : ¬ v1 < 55296 ∧ (¬ 56319 < v1 ∧ (¬ (n : Int) - (i : Int) < 4))
        · rw [if_pos c3, hpr2]
          refine ⟨⟨by omega, by omega⟩, ⟨by omega, by omega⟩, ⟨by omega, by omega⟩, ⟨by omega, by omega⟩, ⟨by omega, by omega⟩, ⟨by omega, by omega⟩, ?_⟩
          by_cases c4 : ¬ v2 < 56320 ∧ (¬ 57343 < v2)
          · rw [if_pos c4]
            refine ⟨⟨by omega, by omega⟩, ⟨by omega, by omega⟩, ⟨by omega, by omega⟩, ⟨by omega, by omega⟩, ⟨by omega, by omega⟩, ?_⟩
            unfold LETI
            refine hJ _ _ ⟨rfl, 4, rfl, by omega, by omega, ?_⟩
            dsimp only
            unfold u16
            rw [if_pos (by omega), hv1, hv2, if_pos ⟨⟨by omega, by omega⟩, by omega, by omega, by omega⟩]
          · rw [if_neg c4]
            exact hu2 (fun y => c4 ⟨by omega, by omega⟩)
        · rw [if_neg c3]
          exact hu2 (fun y => c3 ⟨by omega, by omega, by omega⟩)
      · rintro ⟨w1, w2⟩ _ ⟨rfl, k, hw1, hk2, hkn, hu⟩
        dsimp only at hw1 hu ⊢
        refine sp_Reader_isCharacter ?_
        rw [if_b1]
        by_cases z2 : isCh w2 = true
        · rw [if_pos z2]
          rw [if_pos z2] at hu
          rw [hu] at hst
          dsimp only at hst
          refine sp_addText hLD z2 hrm hL h9 (by omega) (fun ρ' h' => ⟨⟨by omega, by omega⟩, ?_⟩)
          rw [hw1, show (i : Int) + (k : Int) = ((i + k : Nat) : Int) by omega]
          refine hK _ _ ⟨i + k, pre ++ [w2], rfl, by omega, by rw [List.length_append, List.length_singleton]; omega, by rw [List.foldl_append]; exact h', ?_⟩ (by omega)
          rw [hRi, hst]
          cases dcd (u16 B be n) n (n + 1) (i + k) with
          | inl p => rfl
          | inr w => show Sum.inr (pre ++ w2 :: w) = Sum.inr ((pre ++ [w2]) ++ w); rw [List.append_assoc]; rfl
        · rw [if_neg z2]
          refine hno ?_ _ _ hLD
          rw [hu, if_neg z2]
  · rw [if_neg (by omega)]
    rw [if_pos (by omega)] at hst
    refine hq pre ρ1 ?_ hLD
    rw [hRi, hst]
    show (Sum.inr (pre ++ []) : Nat ⊕ List Int) = _
    rw [List.append_nil]
end JLw
/-- how the bytes are written: wide, the greater byte first -/
def bom (B : Nat → Int) (n : Nat) : Bool × Bool := (decide (1 < n ∧ ((B 0 = 254 ∧ B 1 = 255) ∨ (B 0 = 255 ∧ B 1 = 254))), decide (1 < n ∧ B 0 = 254 ∧ B 1 = 255))
/-- the characters of a row of bytes, or where it is wrong -/
def ldT (B : Nat → Int) (n : Nat) : Nat ⊕ List Int := if (bom B n).1 = true then dcd (u16 B (bom B n).2 n) n (n + 1) 2 else dcd (u8 B n) n (n + 1) (if 2 < n ∧ B 0 = 239 ∧ B 1 = 187 ∧ B 2 = 191 then 3 else 0)
section JLa
variable {L : Nat → Nat} {σ : IS} {bg rm n : Nat} {B : Nat → Int}
theorem sp_load {Q : Int → IS → Prop} (hB : ∀ i, B i = ia (σ.2 100 i) 255) (hrm : σ.1 1 0 = (rm : Int)) (hL : bg + rm < L 101) (h9 : L 101 < 1000000) (hn : n ≤ 65536) (hL0 : n ≤ L 100) (h3 : σ.1 1 3 = (bg : Int)) (h4 : σ.1 1 4 = 0) (h6 : σ.1 1 6 = 0)
    (hq : ∀ w ρ', ldT B n = .inr w → LD (pf σ 1 5 (if (bom B n).1 = true then 1 else 0)) bg rm (w.foldl nlc ([], false)) ρ' → Q (-1) ρ') (hb : ∀ p s ρ', ldT B n = .inl p → p ≤ n → LD (pf σ 1 5 (if (bom B n).1 = true then 1 else 0)) bg rm s ρ' → Q (p : Int) ρ') : w_Store_load L 100 (n : Int) Q σ := by
  have hBr : ∀ i, 0 ≤ B i ∧ B i ≤ 255 := fun i => by rw [hB]; exact byt_rg _
  have e0 : (if (0 : Int) < (n : Int) then ia (σ.2 100 (Int.toNat 0)) 255 else (0 : Int)) = if 0 < n then B 0 else 0 := by
    rw [show Int.toNat 0 = 0 from rfl, ← hB]
    by_cases z : 0 < n
    · rw [if_pos (by omega), if_pos z]
    · rw [if_neg (by omega), if_neg z]
  have e1 : (if (1 : Int) < (n : Int) then ia (σ.2 100 (Int.toNat 1)) 255 else (0 : Int)) = if 1 < n then B 1 else 0 := by
    rw [show Int.toNat 1 = 1 from rfl, ← hB]
    by_cases z : 1 < n
    · rw [if_pos (by omega), if_pos z]
    · rw [if_neg (by omega), if_neg z]
  have hLD0 : ∀ x : Int, LD (pf σ 1 5 x) bg rm ([], false) (pf σ 1 5 x) := fun x => by
    refine ⟨fun _ _ _ => rfl, fun _ _ => rfl, fun _ _ => rfl, ⟨?_, ?_, ?_⟩, fun i hi => ?_, fun _ h => absurd h List.not_mem_nil⟩
    · rw [pf_nk (by decide), h3, List.length_nil, Nat.zero_min, Nat.add_zero]
    · rw [pf_nk (by decide), h4]; rfl
    · rw [pf_nk (by decide), h6]; rfl
    · rw [List.length_nil, Nat.zero_min] at hi; omega
  have hB5 : ∀ x : Int, ∀ i, B i = ia ((pf σ 1 5 x).2 100 i) 255 := fun x i => hB i
  have hrm5 : ∀ x : Int, (pf σ 1 5 x).1 1 0 = (rm : Int) := fun x => by rw [pf_nk (by decide)]; exact hrm
  unfold w_Store_load
  refine ⟨fun _ => ⟨by omega, by omega⟩, fun _ => ⟨by omega, by omega⟩, ?_⟩
  rw [e0, e1]
  unfold LETI
  have ebe : (if (if 0 < n then B 0 else 0) = 254 then (if (if 1 < n then B 1 else 0) = 255 then (1 : Int) else 0) else 0) = if (bom B n).2 = true then 1 else 0 := by
    unfold bom
    dsimp only
    by_cases c : 1 < n ∧ B 0 = 254 ∧ B 1 = 255
    · rw [if_pos (show 0 < n by omega), if_pos c.1, if_pos c.2.1, if_pos c.2.2, if_pos (decide_eq_true c)]
    · rw [if_neg (show ¬ decide (1 < n ∧ B 0 = 254 ∧ B 1 = 255) = true by simpa using c)]
      by_cases c1 : 1 < n
      · rw [if_pos (show 0 < n by omega), if_pos c1]
        by_cases c2 : B 0 = 254
        · rw [if_pos c2, if_neg (fun y => c ⟨c1, c2, y⟩)]
        · rw [if_neg c2]
      · rw [if_neg c1, if_neg (show ¬ (0 : Int) = 255 by decide)]
        exact ite_self _
  have ele : (if (if (bom B n).2 = true then (1 : Int) else 0) = 0 then (if (if 0 < n then B 0 else 0) = 255 then (if (if 1 < n then B 1 else 0) = 254 then (1 : Int) else 0) else 0) else 1) = if (bom B n).1 = true then 1 else 0 := by
    by_cases c : (bom B n).2 = true
    · rw [if_pos c, if_neg (by decide)]
      have : (bom B n).1 = true := by
        unfold bom at c ⊢
        dsimp only at c ⊢
        rw [decide_eq_true_eq] at c ⊢
        exact ⟨c.1, Or.inl c.2⟩
      rw [if_pos this]
    · rw [if_neg c, if_pos rfl]
      unfold bom at c ⊢
      dsimp only at c ⊢
      rw [decide_eq_true_eq] at c
      by_cases c3 : 1 < n ∧ B 0 = 255 ∧ B 1 = 254
      · rw [if_pos (show 0 < n by omega), if_pos c3.1, if_pos c3.2.1, if_pos c3.2.2, if_pos (by rw [decide_eq_true_eq]; exact ⟨c3.1, Or.inr c3.2⟩)]
      · have hd : ¬ decide (1 < n ∧ ((B 0 = 254 ∧ B 1 = 255) ∨ (B 0 = 255 ∧ B 1 = 254))) = true := by
          rw [decide_eq_true_eq]
          rintro ⟨y1, y2 | y2⟩
          · exact c ⟨y1, y2⟩
          · exact c3 ⟨y1, y2⟩
        rw [if_neg hd]
        by_cases c1 : 1 < n
        · rw [if_pos (show 0 < n by omega), if_pos c1]
          by_cases c2 : B 0 = 255
          · rw [if_pos c2, if_neg (fun y => c3 ⟨c1, c2, y⟩)]
          · rw [if_neg c2]
        · rw [if_neg c1, if_neg (show ¬ (0 : Int) = 254 by decide)]
          exact ite_self _
  rw [ebe]
  dsimp only
  rw [ele]
  unfold ldT at hq hb
  by_cases cw : (bom B n).1 = true
  · rw [if_pos cw] at hq hb ⊢
    rw [if_neg (by decide)]
    have hn2 : 2 ≤ n := by
      unfold bom at cw
      dsimp only at cw
      rw [decide_eq_true_eq] at cw
      omega
    refine sp_wide (be := (bom B n).2) (hB5 1) (hLD0 1) (hrm5 1) hL h9 hn hL0 ?_ hn2 (Nat.le_refl _) (fun w ρ' h1 h2 => hq w ρ' h1 (by rw [if_pos cw]; exact h2)) (fun p s ρ' h1 h2 h3 => hb p s ρ' h1 h2 (by rw [if_pos cw]; exact h3))
    cases (bom B n).2 <;> rfl
  · rw [if_neg cw] at hq hb ⊢
    rw [if_pos rfl]
    refine ⟨fun _ _ _ => ⟨by omega, by omega⟩, ?_⟩
    have e2 : (if (2 : Int) < (n : Int) then (if (if 0 < n then B 0 else 0) = 239 then (if (if 1 < n then B 1 else 0) = 187 then (if ia (σ.2 100 (Int.toNat 2)) 255 = 191 then (1 : Int) else 0) else 0) else 0) else 0) = if 2 < n ∧ B 0 = 239 ∧ B 1 = 187 ∧ B 2 = 191 then 1 else 0 := by
      rw [show Int.toNat 2 = 2 from rfl, ← hB]
      by_cases z : 2 < n
      · rw [if_pos (by omega), if_pos (show 0 < n by omega), if_pos (show 1 < n by omega)]
        by_cases z0 : B 0 = 239
        · rw [if_pos z0]
          by_cases z1 : B 1 = 187
          · rw [if_pos z1]
            by_cases z2 : B 2 = 191
            · rw [if_pos z2, if_pos ⟨z, z0, z1, z2⟩]
            · rw [if_neg z2, if_neg (fun y => z2 y.2.2.2)]
          · rw [if_neg z1, if_neg (fun y => z1 y.2.2.1)]
        · rw [if_neg z0, if_neg (fun y => z0 y.2.1)]
      · rw [if_neg (by omega), if_neg (fun y => z y.1)]
    rw [e2]
    refine sp_narrow (i0 := if 2 < n ∧ B 0 = 239 ∧ B 1 = 187 ∧ B 2 = 191 then 3 else 0) (hB5 0) (hLD0 0) (hrm5 0) hL h9 hn hL0 ?_ ?_ (Nat.le_refl _) (fun w ρ' h1 h2 => hq w ρ' h1 (by rw [if_neg cw]; exact h2)) (fun p s ρ' h1 h2 h3 => hb p s ρ' h1 h2 (by rw [if_neg cw]; exact h3))
    · by_cases z : 2 < n ∧ B 0 = 239 ∧ B 1 = 187 ∧ B 2 = 191
      · rw [if_pos z, if_pos z]; rfl
      · rw [if_neg z, if_neg z]; rfl
    · split <;> omega
end JLa
