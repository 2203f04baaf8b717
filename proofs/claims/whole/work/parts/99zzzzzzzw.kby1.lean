/-! ===== the reference: bytes are characters ===== -/
/-- only what was decoded last has changed -/
def D75 (σ ρ : IS) : Prop := (∀ o k, ¬ (o = 16 ∧ k = 75) → ρ.1 o k = σ.1 o k) ∧ ρ.2 = σ.2
section Kby
variable {L : Nat → Nat} {σ : IS} {B : Nat → Int} {n i r : Nat} {R : Int → IS → Prop} {a2 a3 : Int}
theorem D75.refl : D75 σ σ := ⟨fun _ _ _ => rfl, rfl⟩
theorem D75.pf {x : Int} {ρ : IS} (h : D75 σ ρ) : D75 σ (pf ρ 16 75 x) := ⟨fun o k z => by rw [pf_1, if_neg z]; exact h.1 o k z, h.2⟩
theorem u8_8 (h : B i < 128) (h0 : 0 ≤ B i) (hi : i < n) : u8 B n i = if isCh (B i) = true then some (B i, 1) else none := by
  have hl : lb (B i) = 0 := by unfold lb; rw [if_pos h]
  unfold u8
  rw [hl]
  have e1 : cod B i (cod0 (B i) 0) 0 = B i := rfl
  rw [e1]
  by_cases c : isCh (B i) = true
  · rw [if_pos ⟨Or.inl h, by omega, rfl, h0, c⟩, if_pos c]
  · rw [if_neg (fun z => c z.2.2.2.2), if_neg c]
set_option maxHeartbeats 2000000 in
theorem sp_K_eight (hB : ∀ j, B j = ia (σ.2 r j) 255) (hi : i < n) (hn : n ≤ 65536) (hL : n ≤ L r) (ha3 : a3 = (i : Int)) (ha2 : a2 = (n : Int))
    (hq : ∀ len ρ, D75 σ ρ → ((u8 B n i = none ∧ (len = 0 ∨ isCh (ρ.1 16 75) = false)) ∨ ∃ c k, u8 B n i = some (c, k) ∧ len = ((k : Nat) : Int) ∧ ρ.1 16 75 = c) → R len ρ) : w_KReader_eight L r a2 a3 R σ := by
  subst ha3 ha2
  have hr := byt_rg (σ.2 r i)
  have hBi := hB i
  rw [← hBi] at hr
  unfold w_KReader_eight
  rw [show Int.toNat (i : Int) = i from rfl, ← hBi]
  refine ⟨⟨by omega, by omega⟩, ?_⟩
  by_cases c0 : B i < 128
  · rw [if_pos c0]
    refine hq 1 _ D75.refl.pf ?_
    rw [u8_8 c0 hr.1 hi, pf_eq]
    by_cases c : isCh (B i) = true
    · exact Or.inr ⟨B i, 1, by rw [if_pos c], rfl, rfl⟩
    · exact Or.inl ⟨by rw [if_neg c], Or.inr (by simpa using c)⟩
  · rw [if_neg c0]
    have key : ∀ t2 : Int, t2 = (if 192 ≤ B i ∧ B i < 248 then (lb (B i) : Int) else 0) → (((¬ t2 = 0 → inR ((i : Int) + t2))) ∧ if ¬ t2 = 0 ∧ (((i : Int) + t2) < (n : Int)) then WL (fun (K5 : Int × Int → IS → Prop) (s7 : Int × Int) (σ8 : IS) => if t2 < s7.2 then ((¬ s7.1 < (if t2 = 1 then (128 : Int) else (if t2 = 2 then (2048 : Int) else (65536 : Int))) → inR (t2 + 1))) ∧ R (if s7.1 < (if t2 = 1 then (128 : Int) else (if t2 = 2 then (2048 : Int) else (65536 : Int))) then (0 : Int) else (t2 + 1)) (pf σ8 16 75 s7.1) else inR ((i : Int) + s7.2) ∧ inL L r ((i : Int) + s7.2) ∧ if ¬ (ia (σ8.2 r (Int.toNat ((i : Int) + s7.2))) 255) < 128 ∧ (¬ 191 < (ia (σ8.2 r (Int.toNat ((i : Int) + s7.2))) 255)) then inR (s7.1 * 64) ∧ inR ((s7.1 * 64) + (ia (σ8.2 r (Int.toNat ((i : Int) + s7.2))) 255)) ∧ inR (((s7.1 * 64) + (ia (σ8.2 r (Int.toNat ((i : Int) + s7.2))) 255)) - 128) ∧ inR (s7.2 + 1) ∧ K5 ((((s7.1 * 64) + (ia (σ8.2 r (Int.toNat ((i : Int) + s7.2))) 255)) - 128), (s7.2 + 1)) σ8 else R 0 σ8) ((ia (B i) (if t2 = 1 then (31 : Int) else (if t2 = 2 then (15 : Int) else (7 : Int)))), 1) σ else R 0 σ) := by
      intro t2 ht2
      by_cases c1 : 192 ≤ B i ∧ B i < 248
      · rw [if_pos c1] at ht2
        generalize hlb : lb (B i) = t at *
        have ht : 1 ≤ t ∧ t ≤ 3 := by
          unfold lb at hlb
          split at hlb
          · omega
          · split at hlb
            · omega
            · split at hlb <;> omega
        subst ht2
        refine ⟨fun _ => ⟨by omega, by omega⟩, ?_⟩
        have hu : ∀ P : Prop, (i + t < n → cnt8 B i t = true → lst8 t ≤ cod B i (cod0 (B i) t) t → isCh (cod B i (cod0 (B i) t) t) = true → P) → u8 B n i = none ∨ P := by
          intro P hP
          by_cases z : (B i < 128 ∨ (192 ≤ B i ∧ B i < 248)) ∧ i + lb (B i) < n ∧ cnt8 B i (lb (B i)) = true ∧ lst8 (lb (B i)) ≤ cod B i (cod0 (B i) (lb (B i))) (lb (B i)) ∧ isCh (cod B i (cod0 (B i) (lb (B i))) (lb (B i))) = true
          · rw [hlb] at z
            exact Or.inr (hP z.2.1 z.2.2.1 z.2.2.2.1 z.2.2.2.2)
          · refine Or.inl ?_
            unfold u8
            rw [if_neg z]
        have hnone : ¬ (i + t < n ∧ cnt8 B i t = true) → R 0 σ := fun z => hq 0 σ D75.refl (Or.inl ⟨by
          rcases hu False (fun y1 y2 _ _ => z ⟨y1, y2⟩) with w | w
          · exact w
          · exact w.elim, Or.inl rfl⟩)
        by_cases c2 : i + t < n
        · rw [if_pos ⟨by omega, by omega⟩]
          have hc0 : ia (B i) (if (t : Int) = 1 then (31 : Int) else (if (t : Int) = 2 then (15 : Int) else (7 : Int))) = cod0 (B i) t := by
            unfold cod0
            rcases (show t = 1 ∨ t = 2 ∨ t = 3 by omega) with y | y | y <;> rw [y] <;> rfl
          have hc1 := (cod_mk hr ht).2
          rw [hc0]
          have hls : (if (t : Int) = 1 then (128 : Int) else (if (t : Int) = 2 then (2048 : Int) else (65536 : Int))) = lst8 t := by
            rcases (show t = 1 ∨ t = 2 ∨ t = 3 by omega) with y | y | y <;> rw [y] <;> rfl
          rw [hls]
          refine WL_ind (fun s ρ => ρ = σ ∧ ∃ j : Nat, s.2 = ((j + 1 : Nat) : Int) ∧ j ≤ t ∧ cnt8 B i j = true ∧ s.1 = cod B i (cod0 (B i) t) j) (fun s _ => (5 - s.2).toNat) ?_ _ σ ⟨rfl, 0, rfl, by omega, rfl, rfl⟩
          rintro ⟨v, k⟩ ρ ⟨rfl, j, hk, hj, hcn, hv⟩ K hI
          dsimp only at hk hv ⊢
          subst hk hv
          have hrg := cod_rg (B := B) (i := i) hc1 j (by omega) hcn
          by_cases c3 : j = t
          · subst c3
            rw [if_pos (by omega)]
            refine ⟨fun _ => ⟨by omega, by omega⟩, hq _ _ D75.refl.pf ?_⟩
            rw [pf_eq]
            by_cases c4 : cod B i (cod0 (B i) j) j < lst8 j
            · rw [if_pos c4]
              refine Or.inl ⟨?_, Or.inl rfl⟩
              rcases hu False (fun _ _ y3 _ => by omega) with w | w
              · exact w
              · exact w.elim
            · rw [if_neg c4]
              by_cases c5 : isCh (cod B i (cod0 (B i) j) j) = true
              · refine Or.inr ⟨cod B i (cod0 (B i) j) j, j + 1, ?_, by omega, rfl⟩
                unfold u8
                rw [hlb, if_pos ⟨Or.inr c1, c2, hcn, by omega, c5⟩]
              · refine Or.inl ⟨?_, Or.inr (by simpa using c5)⟩
                rcases hu False (fun _ _ _ y4 => c5 y4) with w | w
                · exact w
                · exact w.elim
          · rw [if_neg (by omega)]
            have et : Int.toNat ((i : Int) + ((j + 1 : Nat) : Int)) = i + j + 1 := by omega
            rw [et, ← hB (i + j + 1)]
            have hb := byt_rg (ρ.2 r (i + j + 1))
            rw [← hB (i + j + 1)] at hb
            refine ⟨⟨by omega, by omega⟩, ⟨by omega, by omega⟩, ?_⟩
            by_cases c4 : 128 ≤ B (i + j + 1) ∧ B (i + j + 1) ≤ 191
            · rw [if_pos ⟨by omega, by omega⟩]
              have hv2 := hrg.2.2.1 (by omega)
              refine ⟨⟨by omega, by omega⟩, ⟨by omega, by omega⟩, ⟨by omega, by omega⟩, ⟨by omega, by omega⟩, hI _ _ ⟨rfl, j + 1, by show ((j + 1 : Nat) : Int) + 1 = ((j + 1 + 1 : Nat) : Int); omega, by omega, ?_, ?_⟩ ?_⟩
              · rw [cnt8_s, hcn, decide_eq_true c4.1, decide_eq_true c4.2]; rfl
              · show cod B i (cod0 (B i) t) j * 64 + B (i + j + 1) - 128 = cod B i (cod0 (B i) t) j * 64 + (B (i + j + 1) - 128)
                omega
              · show (5 - (((j + 1 : Nat) : Int) + 1)).toNat < (5 - ((j + 1 : Nat) : Int)).toNat
                omega
            · rw [if_neg (fun z => c4 ⟨by omega, by omega⟩)]
              refine hnone (fun z => c4 ?_)
              exact cnt8_at z.2 j (by omega)
        · rw [if_neg (fun z => by have := z.2; omega)]
          exact hnone (fun z => c2 z.1)
      · rw [if_neg c1] at ht2
        subst ht2
        refine ⟨fun z => absurd rfl z, ?_⟩
        rw [if_neg (fun z => z.1 rfl)]
        refine hq 0 σ D75.refl (Or.inl ⟨?_, Or.inl rfl⟩)
        unfold u8
        rw [if_neg]
        rintro ⟨z, -⟩
        rcases z with z | z
        · exact c0 z
        · exact c1 z
    refine key _ ?_
    have hlb : lb (B i) = if B i < 128 then 0 else if B i < 224 then 1 else if B i < 240 then 2 else 3 := rfl
    rw [hlb]
    by_cases d1 : B i < 192
    · rw [if_pos d1, if_pos (by omega), if_pos (by omega), if_neg (by omega)]
    · rw [if_neg d1]
      by_cases d2 : B i < 224
      · rw [if_pos d2, if_pos ⟨by omega, by omega⟩, if_neg c0, if_pos d2]; rfl
      · rw [if_neg d2, if_neg d2, if_neg c0, if_neg d2]
        by_cases d3 : B i < 240
        · rw [if_pos d3, if_pos ⟨by omega, by omega⟩, if_pos d3]; rfl
        · rw [if_neg d3, if_neg d3, if_neg d3]
          by_cases d4 : B i < 248
          · rw [if_pos d4, if_pos ⟨by omega, d4⟩]; rfl
          · rw [if_neg d4, if_neg (fun z => d4 z.2)]
end Kby
