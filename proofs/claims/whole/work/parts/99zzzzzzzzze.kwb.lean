/-! ===== the reference's writer: one letter ===== -/
/-- how many bytes -/
def bz (W : Str) : Nat := (W.flatMap u8b).length
/-- what was written: W; l is what the reader holds where it is compared -/
def WKo (l : Str) (σ : IS) (W : Str) : Prop := (0 ≤ σ.1 17 3 ∧ σ.1 17 3 ≤ 3 ∧ (σ.1 17 3 = 1 ∨ σ.1 17 3 = 2 → σ.1 17 2 = 16)) ∧ σ.1 17 4 = (if 262152 < bz W then (262152 : Int) else (bz W : Int)) ∧
  (σ.1 17 3 = 0 → ∀ i, i < bz W → i < 262144 → σ.2 244 i = nb ((W.flatMap u8b).getD i 0)) ∧
  (σ.1 17 3 = 1 → bz W ≤ 262144 → σ.1 16 6 = (W.length : Int) ∧ ∀ i, i < W.length → σ.2 176 i = W.getD i 0) ∧
  (σ.1 17 3 = 2 → (σ.1 16 6 = (l.length : Int) ∧ l.length ≤ 262144 ∧ ∀ i, i < l.length → σ.2 176 i = l.getD i 0) ∧ σ.1 17 9 = (W.length : Int) ∧ (σ.1 17 5 = 0 ∨ σ.1 17 5 = 1) ∧ (σ.1 17 5 = 0 ↔ W <+: l))
/-- what writing letters may change -/
def WKp (σ τ : IS) : Prop := (∀ p k, ¬ (p = 17 ∧ (k = 4 ∨ k = 5 ∨ k = 9)) → ¬ (p = 16 ∧ k = 6 ∧ σ.1 17 3 = 1) → τ.1 p k = σ.1 p k) ∧ ∀ r, ¬ (r = 244 ∧ σ.1 17 3 = 0) → ¬ (r = 176 ∧ σ.1 17 3 = 1) → τ.2 r = σ.2 r
section Kwb
variable {L : Nat → Nat} {σ τ υ : IS} {l W s : Str} {Q : IS → Prop} {c : Int}
theorem WKp.refl : WKp σ σ := ⟨fun _ _ _ _ => rfl, fun _ _ _ => rfl⟩
theorem WKp.m3 (h : WKp σ τ) : τ.1 17 3 = σ.1 17 3 := h.1 17 3 (by omega) (by omega)
theorem WKp.trans (h1 : WKp σ τ) (h2 : WKp τ υ) : WKp σ υ := ⟨fun p k a b => (h2.1 p k a (by rw [h1.m3]; exact b)).trans (h1.1 p k a b), fun r a b => (h2.2 r (by rw [h1.m3]; exact a) (by rw [h1.m3]; exact b)).trans (h1.2 r a b)⟩
theorem bz_app {x : Str} : bz (W ++ x) = bz W + bz x := by unfold bz; rw [List.flatMap_append, List.length_append]
theorem u8b_len : (u8b c).length = if c < 128 then 1 else if c < 2048 then 2 else if c < 65536 then 3 else 4 := by
  unfold u8b
  split
  · rfl
  · split
    · rfl
    · split <;> rfl
theorem bz_1 : bz [c] = (u8b c).length := by unfold bz; rw [List.flatMap_singleton]
theorem u8b_pos : 1 ≤ (u8b c).length ∧ (u8b c).length ≤ 4 := by
  rw [u8b_len]
  split
  · omega
  · split
    · omega
    · split <;> omega
theorem bz_ge : ∀ (W : Str), W.length ≤ bz W
  | [] => Nat.zero_le _
  | c :: W => by
    have h1 := bz_ge W
    have h2 := (u8b_pos (c := c)).1
    have h3 : bz (c :: W) = (u8b c).length + bz W := by unfold bz; rw [List.flatMap_cons, List.length_append]
    rw [List.length_cons]
    omega
theorem isr_z (h0 : 0 ≤ c) (h1 : c ≤ 1114111) : isr c 0 = c := by
  unfold isr
  have h2 : (Int32.ofInt 0 &&& 31) = 0 := by decide
  rw [h2]
  have h3 : (Int32.ofInt c >>> (0 : Int32)) = Int32.ofInt c := by
    apply Int32.toBitVec_inj.mp
    rw [Int32.toBitVec_shiftRight]
    simp
  rw [h3, Int32.toInt_ofInt]
  unfold Int32.size
  exact Int.bmod_eq_of_le (by omega) (by omega)
/-- the bytes, as the reference counts them out -/
theorem kbyte (h0 : 0 ≤ c) (h1 : c ≤ 1114111) {k : Nat} (hk : k < (u8b c).length) : (if ((u8b c).length : Int) = 1 then c else if (((u8b c).length : Int) - 1 - (k : Int)) = ((u8b c).length : Int) - 1 then io (if ((u8b c).length : Int) = 2 then (192 : Int) else (if ((u8b c).length : Int) = 3 then (224 : Int) else (240 : Int))) (isr c (6 * (((u8b c).length : Int) - 1 - (k : Int)))) else io 128 (ia (isr c (6 * (((u8b c).length : Int) - 1 - (k : Int)))) 63)) = (u8b c).getD k 0 := by
  have hz := isr_z h0 h1
  unfold u8b at *
  by_cases c1 : c < 128
  · simp only [if_pos c1, List.length_cons, List.length_nil] at hk ⊢
    have : k = 0 := by omega
    subst this
    rfl
  · simp only [if_neg c1] at hk ⊢
    by_cases c2 : c < 2048
    · simp only [if_pos c2, List.length_cons, List.length_nil] at hk ⊢
      rcases (show k = 0 ∨ k = 1 by omega) with rfl | rfl
      · rfl
      · show io 128 (ia (isr c 0) 63) = io 128 (ia c 63)
        rw [hz]
    · simp only [if_neg c2] at hk ⊢
      by_cases c3 : c < 65536
      · simp only [if_pos c3, List.length_cons, List.length_nil] at hk ⊢
        rcases (show k = 0 ∨ k = 1 ∨ k = 2 by omega) with rfl | rfl | rfl
        · rfl
        · rfl
        · show io 128 (ia (isr c 0) 63) = io 128 (ia c 63)
          rw [hz]
      · simp only [if_neg c3, List.length_cons, List.length_nil] at hk ⊢
        rcases (show k = 0 ∨ k = 1 ∨ k = 2 ∨ k = 3 by omega) with rfl | rfl | rfl | rfl
        · rfl
        · rfl
        · rfl
        · show io 128 (ia (isr c 0) 63) = io 128 (ia c 63)
          rw [hz]
theorem pfx_snoc {W l : Str} {c : Int} : (W ++ [c] <+: l) ↔ W <+: l ∧ W.length < l.length ∧ l.getD W.length 0 = c := by
  constructor
  · rintro ⟨r, rfl⟩
    refine ⟨⟨[c] ++ r, by rw [List.append_assoc]⟩, by simp only [List.length_append, List.length_cons, List.length_nil]; omega, ?_⟩
    rw [List.append_assoc, List.getD_eq_getElem?_getD, List.getElem?_append_right (Nat.le_refl _), Nat.sub_self]
    rfl
  · rintro ⟨⟨r, rfl⟩, h2, h3⟩
    cases r with
    | nil => rw [List.append_nil] at h2; omega
    | cons d r =>
      rw [List.getD_eq_getElem?_getD, List.getElem?_append_right (Nat.le_refl _), Nat.sub_self] at h3
      have : d = c := h3
      rw [this]
      exact ⟨r, by rw [List.append_assoc]; rfl⟩
theorem sp_klen {R : Int → IS → Prop} (h : R ((u8b c).length : Int) σ) : w_KWriter_length L c R σ := by
  have hv : (if c < 128 then (1 : Int) else (if c < 2048 then (2 : Int) else (if c < 65536 then (3 : Int) else (4 : Int)))) = ((u8b c).length : Int) := by
    rw [u8b_len]
    split
    · rfl
    · split
      · rfl
      · split <;> rfl
  unfold w_KWriter_length
  rw [hv]
  exact h
theorem sp_klets {R : Int → IS → Prop} {v : Int} (hv : σ.1 16 6 = v) (h : R v σ) : w_KReader_letters L R σ := by
  unfold w_KReader_letters
  rw [hv]
  exact h
theorem sp_klet {R : Int → IS → Prop} {n : Nat} {v x : Int} (hx : x = (n : Int)) (hl : 0 ≤ (n : Int) ∧ (n : Int) < L 176) (hv : σ.2 176 n = v) (h : R v σ) : w_KReader_letter L x R σ := by
  subst hx
  unfold w_KReader_letter
  rw [show Int.toNat ((n : Nat) : Int) = n from rfl, hv]
  exact ⟨hl, h⟩
/-- before the bytes: the letter goes to the reader, or is compared -/
def PRE (l : Str) (σ ρ : IS) (W : Str) (c : Int) : Prop := (∀ p k, ¬ (p = 17 ∧ (k = 5 ∨ k = 9)) → ¬ (p = 16 ∧ k = 6 ∧ σ.1 17 3 = 1) → ρ.1 p k = σ.1 p k) ∧ (∀ r, ¬ (r = 176 ∧ σ.1 17 3 = 1) → ρ.2 r = σ.2 r) ∧
  (σ.1 17 3 = 1 → bz (W ++ [c]) ≤ 262144 → ρ.1 16 6 = ((W ++ [c]).length : Int) ∧ ∀ i, i < (W ++ [c]).length → ρ.2 176 i = (W ++ [c]).getD i 0) ∧
  (σ.1 17 3 = 2 → ρ.1 17 9 = ((W ++ [c]).length : Int) ∧ (ρ.1 17 5 = 0 ∨ ρ.1 17 5 = 1) ∧ (ρ.1 17 5 = 0 ↔ W ++ [c] <+: l))
theorem sp_K_put (hL : L 244 = 262144 ∧ L 176 = 262144) (h : WKo l σ W) (h0 : 0 ≤ c) (h1 : c ≤ 1114111) (hB : σ.1 17 3 = 2 → W.length < 1000000000) (hq : ∀ τ, WKp σ τ → WKo l τ (W ++ [c]) → Q τ) : w_KWriter_put L c Q σ := by
  obtain ⟨⟨m0, m3, m2⟩, hsz, hrow, hrd, hcm⟩ := h
  have hn := u8b_pos (c := c)
  have hbz : bz (W ++ [c]) = bz W + (u8b c).length := by rw [bz_app, bz_1]
  -- the bytes
  have hbody : ∀ ρ, PRE l σ ρ W c → w_KWriter_length L c (fun v6 σ5 => inR (v6 - 1) ∧ WL (fun (K7 : Int → IS → Prop) (s9 : Int) (σ10 : IS) => if s9 < 0 then Q (pf σ10 17 4 (if 262152 < (σ10.1 17 4) then (262152 : Int) else (σ10.1 17 4))) else WJ (fun (s18 : Int) (σ19 : IS) => WJ (fun (s22 : Unit) (σ23 : IS) => inR ((σ23.1 17 4) + 1) ∧ inR (s9 + (-1)) ∧ K7 (s9 + (-1)) (pf σ23 17 4 ((σ23.1 17 4) + 1))) (fun J20 => if (σ19.1 17 3) = 0 ∧ ((σ19.1 17 4) < 262144) then inL L 244 (σ19.1 17 4) ∧ J20 () (pr σ19 244 (Int.toNat (σ19.1 17 4)) (nb s18)) else J20 () σ19)) (fun J16 => if v6 = 1 then J16 c σ10 else inR (v6 - 1) ∧ if s9 = (v6 - 1) then inR (6 * s9) ∧ J16 (io (if v6 = 2 then (192 : Int) else (if v6 = 3 then (224 : Int) else (240 : Int))) (isr c (6 * s9))) σ10 else inR (6 * s9) ∧ J16 (io 128 (ia (isr c (6 * s9)) 63)) σ10)) (v6 - 1) σ5) ρ := by
    rintro ρ ⟨p1, p2, p3, p4⟩
    refine sp_klen ⟨⟨by omega, by omega⟩, ?_⟩
    have r3 : ρ.1 17 3 = σ.1 17 3 := p1 17 3 (by omega) (by omega)
    refine WL_ind (fun s9 υ => ∃ k : Nat, s9 = ((u8b c).length : Int) - 1 - (k : Int) ∧ k ≤ (u8b c).length ∧ υ.1 17 4 = σ.1 17 4 + (k : Int) ∧ (∀ p j, ¬ (p = 17 ∧ j = 4) → υ.1 p j = ρ.1 p j) ∧ (∀ r, ¬ (r = 244 ∧ σ.1 17 3 = 0) → υ.2 r = ρ.2 r) ∧ (σ.1 17 3 = 0 → ∀ i, i < bz W + k → i < 262144 → υ.2 244 i = nb ((W.flatMap u8b ++ (u8b c).take k).getD i 0))) (fun s9 _ => (s9 + 1).toNat) ?_ _ ρ ⟨0, by omega, Nat.zero_le _, by rw [p1 17 4 (by omega) (by omega)]; omega, fun _ _ _ => rfl, fun _ _ => rfl, fun e i hi hi2 => ?_⟩
    · rintro s9 υ ⟨k, rfl, hk, u1, u2, u3, u4⟩ K hK
      try dsimp only
      have u33 : υ.1 17 3 = σ.1 17 3 := (u2 17 3 (by omega)).trans r3
      by_cases ck : k < (u8b c).length
      · rw [if_neg (by omega)]
        have key : ∀ v : Int, v = (u8b c).getD k 0 → WJ (fun (s22 : Unit) (σ23 : IS) => inR ((σ23.1 17 4) + 1) ∧ inR ((((u8b c).length : Int) - 1 - (k : Int)) + (-1)) ∧ K ((((u8b c).length : Int) - 1 - (k : Int)) + (-1)) (pf σ23 17 4 ((σ23.1 17 4) + 1))) (fun J20 => if (υ.1 17 3) = 0 ∧ ((υ.1 17 4) < 262144) then inL L 244 (υ.1 17 4) ∧ J20 () (pr υ 244 (Int.toNat (υ.1 17 4)) (nb v)) else J20 () υ) := by
          intro v hvk
          refine WJ_dir ?_
          try dsimp only
          have fin : ∀ w : IS, (∀ p j, w.1 p j = υ.1 p j) → (∀ r, ¬ (r = 244 ∧ σ.1 17 3 = 0) → w.2 r = υ.2 r) → (σ.1 17 3 = 0 → ∀ i, i < bz W + (k + 1) → i < 262144 → w.2 244 i = nb ((W.flatMap u8b ++ (u8b c).take (k + 1)).getD i 0)) → inR ((w.1 17 4) + 1) ∧ inR ((((u8b c).length : Int) - 1 - (k : Int)) + (-1)) ∧ K ((((u8b c).length : Int) - 1 - (k : Int)) + (-1)) (pf w 17 4 ((w.1 17 4) + 1)) := fun w w1 w2 w3 => by
            have hs0 : 0 ≤ σ.1 17 4 ∧ σ.1 17 4 ≤ 262152 := by
              rw [hsz]
              split <;> omega
            rw [w1, u1]
            refine ⟨⟨by omega, by omega⟩, ⟨by omega, by omega⟩, hK _ _ ⟨k + 1, by omega, by omega, by rw [pf_eq]; omega, fun p j a => ?_, fun r a => ?_, w3⟩ (by omega)⟩
            · rw [pf_1, if_neg a, w1]; exact u2 p j a
            · rw [pf_2, w2 r a]; exact u3 r a
          have htk : (u8b c).take (k + 1) = (u8b c).take k ++ [(u8b c).getD k 0] := by
            rw [List.take_add_one, List.getD_eq_getElem?_getD, List.getElem?_eq_getElem ck]
            rfl
          by_cases cm : σ.1 17 3 = 0 ∧ σ.1 17 4 + (k : Int) < 262144
          · rw [if_pos ⟨by rw [u33]; exact cm.1, by rw [u1]; exact cm.2⟩, u1]
            have hbW : σ.1 17 4 = (bz W : Int) := by
              rw [hsz]
              split
              · rename_i hc; rw [hsz, if_pos hc] at cm; have := cm.2; omega
              · rfl
            rw [hbW] at cm ⊢
            refine ⟨⟨by omega, by omega⟩, ?_⟩
            rw [show Int.toNat ((bz W : Int) + (k : Int)) = bz W + k by omega]
            refine fin _ (fun p j => rfl) (fun r a => ?_) (fun e i hi hi2 => ?_)
            · funext j
              rw [pr_2, if_neg (fun z => a ⟨z.1, cm.1⟩)]
            · rw [pr_2]
              have hlen : (W.flatMap u8b ++ (u8b c).take k).length = bz W + k := by
                rw [List.length_append, List.length_take]
                show bz W + _ = _
                omega
              rw [htk, ← List.append_assoc]
              by_cases ci : i = bz W + k
              · rw [if_pos ⟨rfl, ci⟩, ci, List.getD_eq_getElem?_getD, List.getElem?_append_right (by omega), hlen, Nat.sub_self, hvk]
                rfl
              · rw [if_neg (fun z => ci z.2), getD_app_l (by omega)]
                exact u4 e i (by omega) hi2
          · rw [if_neg (fun z => cm ⟨by rw [← u33]; exact z.1, by rw [← u1]; exact z.2⟩)]
            refine fin υ (fun _ _ => rfl) (fun _ _ => rfl) (fun e i hi hi2 => ?_)
            -- all places below are written
            have hge : 262144 ≤ bz W + k := by
              have : ¬ σ.1 17 4 + (k : Int) < 262144 := fun z => cm ⟨e, z⟩
              rw [hsz] at this
              split at this <;> omega
            have hl2 : i < (W.flatMap u8b ++ (u8b c).take k).length := by
              rw [List.length_append, List.length_take]
              show i < bz W + _
              omega
            rw [u4 e i (by omega) hi2, htk, ← List.append_assoc, getD_app_l hl2]
        have hkb := kbyte h0 h1 ck
        refine WJ_dir ?_
        try dsimp only
        by_cases d1 : ((u8b c).length : Int) = 1
        · rw [if_pos d1] at hkb ⊢
          exact key _ hkb
        · rw [if_neg d1] at hkb ⊢
          refine ⟨⟨by omega, by omega⟩, ?_⟩
          by_cases d2 : (((u8b c).length : Int) - 1 - (k : Int)) = ((u8b c).length : Int) - 1
          · rw [if_pos d2] at hkb ⊢
            exact ⟨⟨by omega, by omega⟩, key _ hkb⟩
          · rw [if_neg d2] at hkb ⊢
            exact ⟨⟨by omega, by omega⟩, key _ hkb⟩
      · rw [if_pos (by omega)]
        have hkn : k = (u8b c).length := by omega
        subst hkn
        have hs0 : υ.1 17 4 = (if 262152 < bz W then (262152 : Int) else (bz W : Int)) + ((u8b c).length : Int) := by rw [u1, hsz]
        have hfm : (W ++ [c]).flatMap u8b = W.flatMap u8b ++ u8b c := by rw [List.flatMap_append, List.flatMap_singleton]
        refine hq _ ⟨fun p j a b => ?_, fun r a b => ?_⟩ ⟨⟨?_, ?_, ?_⟩, ?_, fun e i hi hi2 => ?_, fun e he => ?_, fun e => ?_⟩
        · rw [pf_1, if_neg (fun z => a ⟨z.1, Or.inl z.2⟩), u2 p j (fun z => a ⟨z.1, Or.inl z.2⟩)]
          exact p1 p j (fun z => a ⟨z.1, Or.inr z.2⟩) b
        · rw [pf_2, u3 r a, p2 r b]
        · rw [pf_nk (by decide), u33]; exact m0
        · rw [pf_nk (by decide), u33]; exact m3
        · rw [pf_nk (by decide), pf_nk (by decide), u33, u2 17 2 (by omega), p1 17 2 (by omega) (by omega)]; exact m2
        · rw [pf_eq, hs0, hbz]
          split <;> split <;> split <;> omega
        · rw [pf_nk (by decide), u33] at e
          rw [pf_2, hfm]
          have := u4 e i (by omega) hi2
          rw [List.take_length] at this
          exact this
        · rw [pf_nk (by decide), u33] at e
          rw [pf_nk (by decide), u2 16 6 (by omega), pf_2, u3 176 (by omega)]
          exact p3 e he
        · rw [pf_nk (by decide), u33] at e
          rw [pf_nk (by decide), u2 16 6 (by omega), pf_2, u3 176 (by omega), p1 16 6 (by omega) (by omega), p2 176 (by omega), pf_nk (by decide), u2 17 9 (by omega), pf_nk (by decide), u2 17 5 (by omega)]
          exact ⟨(hcm e).1, p4 e⟩
    · rw [p2 244 (by omega), List.take_zero, List.append_nil]
      exact hrow e i (by omega) hi2
  unfold w_KWriter_put
  refine WJ_dir ?_
  try dsimp only
  by_cases c1 : σ.1 17 3 = 1
  · rw [if_pos c1]
    refine sp_klen ?_
    have hs0 : 0 ≤ σ.1 17 4 ∧ σ.1 17 4 ≤ 262152 := by
      rw [hsz]
      split <;> omega
    refine ⟨⟨by omega, by omega⟩, ?_⟩
    by_cases c2 : 262144 < σ.1 17 4 + ((u8b c).length : Int)
    · rw [if_pos c2]
      refine hbody σ ⟨fun _ _ _ _ => rfl, fun _ _ => rfl, fun _ he => ?_, fun e => absurd e (by omega)⟩
      exfalso
      rw [hbz] at he
      rw [hsz] at c2
      split at c2 <;> omega
    · rw [if_neg c2]
      refine ⟨m2 (Or.inl c1), ?_⟩
      have hbW : bz (W ++ [c]) ≤ 262144 := by
        rw [hbz]
        rw [hsz] at c2
        split at c2 <;> omega
      have hbw : bz W ≤ 262144 := by omega
      obtain ⟨g1, g2⟩ := hrd c1 hbw
      have hWl := bz_ge W
      unfold w_KReader_addLetter
      rw [g1, show Int.toNat ((W.length : Nat) : Int) = W.length from rfl]
      refine ⟨⟨by omega, by omega⟩, ⟨by omega, by omega⟩, hbody _ ⟨fun p k a b => ?_, fun r a => ?_, fun _ _ => ⟨?_, fun i hi => ?_⟩, fun e => absurd e (by omega)⟩⟩
      · rw [pf_1, if_neg (fun z => b ⟨z.1, z.2, c1⟩)]; rfl
      · funext j
        rw [pf_2, pr_2, if_neg (fun z => a ⟨z.1, c1⟩)]
      · rw [pf_eq, List.length_append]; rfl
      · rw [pf_2, pr_2]
        rw [List.length_append, List.length_singleton] at hi
        by_cases ci : i = W.length
        · rw [if_pos ⟨rfl, ci⟩, ci, List.getD_eq_getElem?_getD, List.getElem?_append_right (Nat.le_refl _), Nat.sub_self]
          rfl
        · rw [if_neg (fun z => ci z.2), getD_app_l (by omega)]
          exact g2 i (by omega)
  · rw [if_neg c1]
    by_cases c2 : σ.1 17 3 = 2
    · rw [if_pos c2]
      obtain ⟨⟨g1, g2, g3⟩, g4, g5, g6⟩ := hcm c2
      have hWb := hB c2
      have fin : ∀ v : Int, (v = 0 ∨ v = 1) → (v = 0 ↔ W ++ [c] <+: l) → is01 v ∧ inR (σ.1 17 9 + 1) ∧ w_KWriter_length L c (fun v6 σ5 => inR (v6 - 1) ∧ WL (fun (K7 : Int → IS → Prop) (s9 : Int) (σ10 : IS) => if s9 < 0 then Q (pf σ10 17 4 (if 262152 < (σ10.1 17 4) then (262152 : Int) else (σ10.1 17 4))) else WJ (fun (s18 : Int) (σ19 : IS) => WJ (fun (s22 : Unit) (σ23 : IS) => inR ((σ23.1 17 4) + 1) ∧ inR (s9 + (-1)) ∧ K7 (s9 + (-1)) (pf σ23 17 4 ((σ23.1 17 4) + 1))) (fun J20 => if (σ19.1 17 3) = 0 ∧ ((σ19.1 17 4) < 262144) then inL L 244 (σ19.1 17 4) ∧ J20 () (pr σ19 244 (Int.toNat (σ19.1 17 4)) (nb s18)) else J20 () σ19)) (fun J16 => if v6 = 1 then J16 c σ10 else inR (v6 - 1) ∧ if s9 = (v6 - 1) then inR (6 * s9) ∧ J16 (io (if v6 = 2 then (192 : Int) else (if v6 = 3 then (224 : Int) else (240 : Int))) (isr c (6 * s9))) σ10 else inR (6 * s9) ∧ J16 (io 128 (ia (isr c (6 * s9)) 63)) σ10)) (v6 - 1) σ5) (pf (pf σ 17 5 v) 17 9 (σ.1 17 9 + 1)) := fun v v1 v2 => by
        rw [g4]
        refine ⟨v1, ⟨by omega, by omega⟩, hbody _ ⟨fun p k a b => ?_, fun r a => rfl, fun e => absurd e c1, fun _ => ⟨?_, ?_, ?_⟩⟩⟩
        · rw [pf_1, if_neg (fun z => a ⟨z.1, Or.inr z.2⟩), pf_1, if_neg (fun z => a ⟨z.1, Or.inl z.2⟩)]
        · rw [pf_eq, List.length_append]; rfl
        · rw [pf_nk (by decide), pf_eq]; exact v1
        · rw [pf_nk (by decide), pf_eq]; exact v2
      refine WJ_dir ?_
      try dsimp only
      refine WJ_dir ?_
      try dsimp only
      by_cases c5 : σ.1 17 5 = 0
      · rw [if_pos c5]
        refine ⟨m2 (Or.inr c2), ?_⟩
        refine sp_klets g1 ?_
        try dsimp only
        by_cases c9 : σ.1 17 9 < (l.length : Int)
        · rw [if_pos c9]
          refine ⟨m2 (Or.inr c2), ?_⟩
          rw [g4] at c9
          refine sp_klet g4 ⟨by omega, by omega⟩ (g3 W.length (by omega)) ?_
          try dsimp only
          by_cases ce : l.getD W.length 0 = c
          · rw [if_pos ce]
            exact fin 0 (Or.inl rfl) ⟨fun _ => pfx_snoc.mpr ⟨g6.mp c5, by omega, ce⟩, fun _ => rfl⟩
          · rw [if_neg ce]
            exact fin 1 (Or.inr rfl) ⟨fun z => absurd z (by decide), fun z => absurd (pfx_snoc.mp z).2.2 ce⟩
        · rw [if_neg c9]
          exact fin 1 (Or.inr rfl) ⟨fun z => absurd z (by decide), fun z => absurd (pfx_snoc.mp z).2.1 (by omega)⟩
      · rw [if_neg c5]
        exact fin 1 (Or.inr rfl) ⟨fun z => absurd z (by decide), fun z => absurd (g6.mpr (pfx_snoc.mp z).1) c5⟩
    · rw [if_neg c2]
      exact hbody σ ⟨fun _ _ _ _ => rfl, fun _ _ => rfl, fun e => absurd e c1, fun e => absurd e c2⟩
end Kwb
