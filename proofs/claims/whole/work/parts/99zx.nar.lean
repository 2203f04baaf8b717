/-! ===== the class loads a text ===== -/
section JLn2
variable {L : Nat → Nat} {σ0 ρ : IS} {bg rm n : Nat} {B : Nat → Int}
theorem u8_ok {i k : Nat} {c : Int} (h : u8 B n i = some (c, k)) : 1 ≤ k ∧ i + k ≤ n := by
  unfold u8 at h
  split at h
  · rename_i hc
    cases h
    have := hc.2.1
    omega
  · cases h
theorem u16_ok {be : Bool} {i k : Nat} {c : Int} (h : u16 B be n i = some (c, k)) : 1 ≤ k ∧ i + k ≤ n := by
  unfold u16 at h
  split at h
  · split at h
    · rename_i h2
      split at h
      · cases h
        have := h2.2.1
        omega
      · cases h
    · split at h
      · cases h
        omega
      · cases h
  · cases h
theorem lst8_row (t : Nat) (ht : t ≤ 3) : srI 2000 (t : Int) = lst8 t ∧ (t : Int) < srN 2000 := by
  have : ∀ t : Nat, t < 4 → srI 2000 (t : Int) = lst8 t ∧ (t : Int) < srN 2000 := by decide +kernel
  exact this t (by omega)
theorem cnt8_s {i k : Nat} : cnt8 B i (k + 1) = (cnt8 B i k && (decide (128 ≤ B (i + k + 1)) && decide (B (i + k + 1) ≤ 191))) := by
  unfold cnt8
  rw [List.range_succ, List.all_append]
  simp
theorem cnt8_le {i t : Nat} (h : cnt8 B i t = true) : ∀ k, k ≤ t → cnt8 B i k = true := by
  intro k hk
  unfold cnt8 at h ⊢
  rw [List.all_eq_true] at h ⊢
  intro x hx
  rw [List.mem_range] at hx
  exact h x (by rw [List.mem_range]; omega)
theorem cnt8_at {i t : Nat} (h : cnt8 B i t = true) (k : Nat) (hk : k < t) : 128 ≤ B (i + k + 1) ∧ B (i + k + 1) ≤ 191 := by
  unfold cnt8 at h
  rw [List.all_eq_true] at h
  have := h k (by rw [List.mem_range]; exact hk)
  rw [Bool.and_eq_true, decide_eq_true_eq, decide_eq_true_eq] at this
  exact this
theorem cod_rg {i : Nat} {x : Int} (hx : 0 ≤ x ∧ x ≤ 31) : ∀ k, k ≤ 3 → cnt8 B i k = true → 0 ≤ cod B i x k ∧ cod B i x k ≤ 8388607 ∧ (k ≤ 2 → cod B i x k ≤ 131071) ∧ (k ≤ 1 → cod B i x k ≤ 2047) ∧ (k = 0 → cod B i x k ≤ 31) := by
  intro k
  induction k with
  | zero => intro _ _; show 0 ≤ x ∧ x ≤ 8388607 ∧ (0 ≤ 2 → x ≤ 131071) ∧ (0 ≤ 1 → x ≤ 2047) ∧ (0 = 0 → x ≤ 31); omega
  | succ k ih =>
    intro hk hc
    have h1 := ih (by omega) (cnt8_le hc k (by omega))
    have h2 := cnt8_at hc k (by omega)
    show 0 ≤ cod B i x k * 64 + (B (i + k + 1) - 128) ∧ cod B i x k * 64 + (B (i + k + 1) - 128) ≤ 8388607 ∧ (k + 1 ≤ 2 → cod B i x k * 64 + (B (i + k + 1) - 128) ≤ 131071) ∧ (k + 1 ≤ 1 → cod B i x k * 64 + (B (i + k + 1) - 128) ≤ 2047) ∧ (k + 1 = 0 → cod B i x k * 64 + (B (i + k + 1) - 128) ≤ 31)
    omega
theorem cod_bit {x y : Int} (hx : 0 ≤ x ∧ x < 1000000) (hy : 128 ≤ y ∧ y ≤ 191) : io (isl x 6) (ia y 63) = x * 64 + (y - 128) := by
  obtain ⟨a, rfl⟩ : ∃ a : Nat, x = (a : Int) := ⟨x.toNat, by omega⟩
  obtain ⟨b, rfl⟩ : ∃ b : Nat, y = (b : Int) := ⟨y.toNat, by omega⟩
  have h1 := (byt_tab b (by omega)).2.1 (by omega) (by omega)
  rw [h1, show (b : Int) - 128 = ((b - 128 : Nat) : Int) by omega]
  unfold io isl
  exact bits_6 a (b - 128) (by omega) (by omega)
theorem cod_mk {x : Int} (hx : 0 ≤ x ∧ x ≤ 255) {t : Nat} (ht : 1 ≤ t ∧ t ≤ 3) : ia x (isr 63 (t : Int)) = cod0 x t ∧ 0 ≤ cod0 x t ∧ cod0 x t ≤ 31 := by
  have h1 : isr 63 (t : Int) = if t = 1 then 31 else if t = 2 then 15 else 7 := by
    have : ∀ t : Nat, t < 4 → 1 ≤ t → isr 63 (t : Int) = if t = 1 then 31 else if t = 2 then 15 else 7 := by decide +kernel
    exact this t (by omega) ht.1
  obtain ⟨a, rfl⟩ : ∃ a : Nat, x = (a : Int) := ⟨x.toNat, by omega⟩
  have h2 := (byt_tab a (by omega)).2.2
  have h0 : cod0 (a : Int) t = ia (a : Int) (if t = 1 then 31 else if t = 2 then 15 else 7) := by
    unfold cod0
    rw [if_neg (show ¬ t = 0 by omega)]
  rw [h1, h0]
  refine ⟨rfl, ?_⟩
  by_cases c1 : t = 1
  · rw [if_pos c1]; omega
  · rw [if_neg c1]
    by_cases c2 : t = 2
    · rw [if_pos c2]; omega
    · rw [if_neg c2]; omega
set_option maxHeartbeats 1000000 in
theorem sp_narrow {Q : Int → IS → Prop} {a3 : Int} {i0 : Nat} {s0 : List Int × Bool} (hB : ∀ i, B i = ia (σ0.2 100 i) 255) (h : LD σ0 bg rm s0 ρ) (hrm : σ0.1 1 0 = (rm : Int)) (hL : bg + rm < L 101) (h9 : L 101 < 1000000) (hn : n ≤ 65536) (hL0 : n ≤ L 100) (ha : a3 = (i0 : Int)) (hi0 : i0 ≤ n) (hs0 : s0.1.length ≤ 0)
    (hq : ∀ w ρ', dcd (u8 B n) n (n + 1) i0 = .inr w → LD σ0 bg rm (w.foldl nlc s0) ρ' → Q (-1) ρ') (hb : ∀ p s ρ', dcd (u8 B n) n (n + 1) i0 = .inl p → p ≤ n → LD σ0 bg rm s ρ' → Q (p : Int) ρ') : w_Store_loadNarrow L 100 (n : Int) a3 Q ρ := by
  have hBr : ∀ i, 0 ≤ B i ∧ B i ≤ 255 := fun i => by rw [hB]; exact byt_rg _
  generalize hR : dcd (u8 B n) n (n + 1) i0 = R at *
  unfold w_Store_loadNarrow
  refine WL_ind (fun z ρ => ∃ (i : Nat) (pre : List Int), z = (i : Int) ∧ i ≤ n ∧ pre.length ≤ i ∧ LD σ0 bg rm (pre.foldl nlc s0) ρ ∧ R = (match dcd (u8 B n) n (n + 1) i with
    | .inl p => .inl p
    | .inr w => .inr (pre ++ w))) (fun z _ => ((n : Int) - z).toNat) ?_ a3 ρ ⟨i0, [], ha, hi0, Nat.zero_le _, h, by rw [hR]; cases R <;> rfl⟩
  rintro z ρ1 ⟨i, pre, rfl, hin, hpi, hLD, hRi⟩ K hK
  try dsimp only
  have hlen := nle_len pre s0
  have hst : dcd (u8 B n) n (n + 1) i = if n ≤ i then .inr [] else match u8 B n i with
    | none => .inl i
    | some (c, k) => match dcd (u8 B n) n (n + 1) (i + k) with
      | .inl p => .inl p
      | .inr w => .inr (c :: w) := by
    show (if n ≤ i then (.inr [] : Nat ⊕ List Int) else match u8 B n i with
      | none => .inl i
      | some (c, k) => match dcd (u8 B n) n n (i + k) with
        | .inl p => .inl p
        | .inr w => .inr (c :: w)) = _
    by_cases c1 : n ≤ i
    · rw [if_pos c1, if_pos c1]
    · rw [if_neg c1, if_neg c1]
      cases hu : u8 B n i with
      | none => rfl
      | some r =>
        obtain ⟨c, k⟩ := r
        dsimp only
        have := u8_ok hu
        rw [dcd_fuel (fun i c k h => u8_ok h) n (n + 1) (i + k) (by omega) (by omega) (by omega)]
  by_cases c1 : i < n
  · rw [if_pos (by omega)]
    rw [if_neg (by omega)] at hst
    have e100 : ∀ ρ2 : IS, ρ2.2 100 = σ0.2 100 → ∀ j, ia (ρ2.2 100 j) 255 = B j := fun ρ2 h2 j => by rw [h2, hB]
    have hr1 := e100 ρ1 (hLD.2.1 100 (by decide))
    rw [show Int.toNat (i : Int) = i by omega, hr1]
    refine ⟨⟨by omega, by omega⟩, ?_⟩
    unfold LETI
    have hlbt : (if B i < 128 then (0 : Int) else (if B i < 224 then (1 : Int) else (if B i < 240 then (2 : Int) else (3 : Int)))) = ((lb (B i) : Nat) : Int) := by
      unfold lb
      split
      · rfl
      · split
        · rfl
        · split <;> rfl
    rw [hlbt]
    have ht3 : lb (B i) ≤ 3 := by unfold lb; split <;> (try split) <;> (try split) <;> omega
    have ht0 : lb (B i) = 0 ↔ B i < 128 := by unfold lb; split <;> (try split) <;> (try split) <;> omega
    generalize htt : lb (B i) = t at *
    have hbi := hBr i
    -- the fault is here
    have hno : u8 B n i = none → ∀ s ρ2, LD σ0 bg rm s ρ2 → Q (i : Int) ρ2 := fun hu s ρ2 h2 => hb i s ρ2 (by rw [hRi, hst, hu]) hin h2
    refine ⟨⟨fun _ _ => ⟨by omega, by omega⟩, fun _ _ _ => ⟨by omega, by omega⟩⟩, ?_⟩
    by_cases cc : (B i < 128 ∨ (192 ≤ B i ∧ B i < 248)) ∧ i + t < n
    · rw [if_pos (by
        rcases cc.1 with z | z
        · exact Or.inl ⟨z, by omega, by omega⟩
        · exact Or.inr ⟨by omega, by omega, by omega, by omega⟩)]
      have hx : ((if (t : Int) = 0 then B i else ia (B i) (isr 63 (t : Int))) = cod0 (B i) t) ∧ (t ≠ 0 → 0 ≤ cod0 (B i) t ∧ cod0 (B i) t ≤ 31) := by
        by_cases z : t = 0
        · refine ⟨?_, fun y => absurd z y⟩
          unfold cod0
          rw [if_pos (show (t : Int) = 0 by omega), if_pos z]
        · have := cod_mk hbi (t := t) (by omega)
          rw [if_neg (by omega)]
          exact ⟨this.1, fun _ => this.2⟩
      rw [hx.1]
      refine WL_ind (fun (w : Int × Int) (ρ2 : IS) => ρ1 = ρ2 ∧ ∃ k : Nat, k ≤ t ∧ w.2 = ((k + 1 : Nat) : Int) ∧ w.1 = cod B i (cod0 (B i) t) k ∧ cnt8 B i k = true) (fun w _ => ((t : Int) + 1 - w.2).toNat) ?_ _ _ ⟨rfl, 0, Nat.zero_le _, rfl, rfl, rfl⟩
      rintro ⟨w1, w2⟩ _ ⟨rfl, k, hk, hw2, hw1, hck⟩ K2 hK2
      dsimp only at hw1 hw2 hK2 ⊢
      rw [hw1, hw2]
      by_cases ck : k = t
      · subst ck
        rw [if_pos (by omega)]
        obtain ⟨hl1, hl2⟩ := lst8_row k ht3
        refine ⟨⟨by omega, hl2⟩, ?_⟩
        rw [hl1]
        have hu : u8 B n i = if lst8 k ≤ cod B i (cod0 (B i) k) k ∧ isCh (cod B i (cod0 (B i) k) k) = true then some (cod B i (cod0 (B i) k) k, k + 1) else none := by
          unfold u8
          rw [htt]
          by_cases z : lst8 k ≤ cod B i (cod0 (B i) k) k ∧ isCh (cod B i (cod0 (B i) k) k) = true
          · rw [if_pos z, if_pos ⟨cc.1, cc.2, hck, z.1, z.2⟩]
          · rw [if_neg z, if_neg (fun y => z ⟨y.2.2.2.1, y.2.2.2.2⟩)]
        generalize hcd : cod B i (cod0 (B i) k) k = cd at *
        refine WJ_of (fun _ ρ2 => ρ2 = ρ1 ∧ u8 B n i = none) (fun J hJ => ?_) (fun _ ρ2 y => by rw [y.1]; exact hno y.2 _ _ hLD)
        by_cases z1 : cd < lst8 k
        · rw [if_pos z1]
          exact hJ _ _ ⟨rfl, by rw [hu, if_neg (fun y => by omega)]⟩
        · rw [if_neg z1]
          refine sp_Reader_isCharacter ?_
          rw [if_b1]
          by_cases z2 : isCh cd = true
          · rw [if_pos z2]
            rw [if_pos ⟨by omega, z2⟩] at hu
            rw [hu] at hst
            dsimp only at hst
            refine sp_addText hLD z2 hrm hL h9 (by omega) (fun ρ' h' => ⟨⟨by omega, by omega⟩, ⟨by omega, by omega⟩, ?_⟩)
            rw [show (i : Int) + ((k : Int) + 1) = ((i + (k + 1) : Nat) : Int) by omega]
            refine hK _ _ ⟨i + (k + 1), pre ++ [cd], rfl, by omega, by rw [List.length_append, List.length_singleton]; omega, by rw [List.foldl_append]; exact h', ?_⟩ (by omega)
            rw [hRi, hst]
            cases dcd (u8 B n) n (n + 1) (i + (k + 1)) with
            | inl p => rfl
            | inr w => show Sum.inr (pre ++ cd :: w) = Sum.inr ((pre ++ [cd]) ++ w); rw [List.append_assoc]; rfl
          · rw [if_neg z2]
            exact hJ _ _ ⟨rfl, by rw [hu, if_neg (fun y => z2 y.2)]⟩
      · rw [if_neg (by omega), show Int.toNat ((i : Int) + ((k + 1 : Nat) : Int)) = i + k + 1 by omega, hr1]
        refine ⟨⟨by omega, by omega⟩, ⟨by omega, by omega⟩, ?_⟩
        have hbk := hBr (i + k + 1)
        have htb : ia (B (i + k + 1)) 192 = 128 ↔ 128 ≤ B (i + k + 1) ∧ B (i + k + 1) ≤ 191 := by
          have hb' := (byt_tab (B (i + k + 1)).toNat (by omega)).1
          rw [show (((B (i + k + 1)).toNat : Nat) : Int) = B (i + k + 1) by omega] at hb'
          rw [hb']
          omega
        by_cases z : 128 ≤ B (i + k + 1) ∧ B (i + k + 1) ≤ 191
        · rw [if_pos (htb.mpr z)]
          refine ⟨⟨by omega, by omega⟩, ?_⟩
          have hcr := cod_rg (B := B) (i := i) (hx.2 (by omega)) k (by omega) hck
          rw [cod_bit ⟨hcr.1, by have := hcr.2.2.1 (by omega); omega⟩ z, show ((k + 1 : Nat) : Int) + 1 = ((k + 1 + 1 : Nat) : Int) by omega]
          refine hK2 _ _ ⟨rfl, k + 1, by omega, rfl, rfl, ?_⟩ (by dsimp only; omega)
          rw [cnt8_s, hck, decide_eq_true z.1, decide_eq_true z.2]
          rfl
        · rw [if_neg (fun y => z (htb.mp y))]
          refine hno ?_ _ _ hLD
          unfold u8
          rw [htt, if_neg (fun y => z (cnt8_at y.2.2.1 k (by omega)))]
    · rw [if_neg (by
        rintro (y | y)
        · exact cc ⟨Or.inl y.1, by omega⟩
        · exact cc ⟨Or.inr ⟨by omega, by omega⟩, by omega⟩)]
      refine hno ?_ _ _ hLD
      unfold u8
      rw [htt, if_neg (fun y => cc ⟨y.1, y.2.1⟩)]
  · rw [if_neg (by omega)]
    rw [if_pos (by omega)] at hst
    refine hq pre ρ1 ?_ hLD
    rw [hRi, hst]
    show (Sum.inr (pre ++ []) : Nat ⊕ List Int) = _
    rw [List.append_nil]
end JLn2
