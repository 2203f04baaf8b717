/-! ===== the reference: bytes fed, the end, what was thrown ===== -/
section Kfe
variable {L : Nat → Nat} {σ τ υ : IS} {B : List Int} {Q : IS → Prop} {R : Int → IS → Prop}
theorem nb_bv (b : BitVec 32) : nb b.toInt = (b.setWidth 8).toInt := by
  unfold nb
  rw [BitVec.toInt_setWidth, BitVec.toInt_eq_toNat_bmod]
  show Int.bmod (Int.bmod (b.toNat : Int) (2 ^ 32)) 256 = Int.bmod (b.toNat : Int) (2 ^ 8)
  exact Int.bmod_bmod_of_dvd (by decide)
theorem nb_sr {a s : Int} (hs : s = 0 ∨ s = 8 ∨ s = 16 ∨ s = 24) : nb (isr a s) = nb (iur a s) := by
  unfold isr iur
  generalize Int32.ofInt a = x
  have key : ∀ (k : Nat), k ≤ 24 → (x.toBitVec.sshiftRight k).setWidth 8 = (x.toBitVec >>> k).setWidth 8 := fun k hk => by
    apply BitVec.eq_of_getLsbD_eq
    intro i hi
    simp only [BitVec.getLsbD_setWidth, BitVec.getLsbD_sshiftRight, BitVec.getLsbD_ushiftRight]
    have h1 : k + i < 32 := by omega
    have h2 : ¬ 32 ≤ i := by omega
    simp [h1, h2]
  have e1 : ∀ (y : Int32), nb y.toInt = (y.toBitVec.setWidth 8).toInt := fun y => nb_bv y.toBitVec
  rw [e1, e1]
  congr 1
  rcases hs with rfl | rfl | rfl | rfl
  · exact key 0 (by omega)
  · exact key 8 (by omega)
  · exact key 16 (by omega)
  · exact key 24 (by omega)
def BYk (σ τ : IS) : Prop := (∀ p k, ¬ (p = 12 ∧ (k = 3 ∨ k = 11)) → τ.1 p k = σ.1 p k) ∧ ∀ r, r ≠ 165 → τ.2 r = σ.2 r
theorem BYk.refl : BYk σ σ := ⟨fun _ _ _ => rfl, fun _ _ => rfl⟩
theorem BYk.trans (h1 : BYk σ τ) (h2 : BYk τ υ) : BYk σ υ := ⟨fun p k a => (h2.1 p k a).trans (h1.1 p k a), fun r a => (h2.2 r a).trans (h1.2 r a)⟩
theorem KFd.add {b : Int} (h : KFd σ B) (hb : 0 ≤ b ∧ b ≤ 255) (hl : B.length < 65536) (x : Int) (hx : nb x = nb b) : KFd (pf (pr σ 165 (Int.toNat (σ.1 12 3)) (nb x)) 12 3 ((σ.1 12 3) + 1)) (B ++ [b]) := by
  obtain ⟨h1, h2, h3, h4⟩ := h
  rw [h1, show Int.toNat ((B.length : Nat) : Int) = B.length from rfl]
  refine ⟨?_, by rw [List.length_append, List.length_singleton]; omega, fun i hi => ?_, fun c hc => ?_⟩
  · rw [pf_eq, List.length_append, List.length_singleton]; omega
  · rw [List.length_append, List.length_singleton] at hi
    rw [pf_2, pr_2]
    by_cases c : i = B.length
    · rw [if_pos ⟨rfl, c⟩, c, List.getD_eq_getElem?_getD, List.getElem?_append_right (Nat.le_refl _), Nat.sub_self]
      exact hx
    · rw [if_neg (fun z => c z.2), getD_app_l (by omega)]
      exact h3 i (by omega)
  · rcases List.mem_append.mp hc with z | z
    · exact h4 c z
    · rw [List.mem_singleton.mp z]; exact hb
theorem sp_K_take {v : Int} (hL : L 165 = 65536) (h : KFd σ B) (hl : B.length + 4 ≤ 65536) (hq : ∀ τ, BYk σ τ → τ.1 12 11 = σ.1 12 11 → KFd τ (B ++ by4 v) → Q τ) : w_K_take L v Q σ := by
  unfold w_K_take
  refine WL_ind (fun z τ => ∃ k : Nat, z = 24 - 8 * (k : Int) ∧ k ≤ 4 ∧ BYk σ τ ∧ τ.1 12 11 = σ.1 12 11 ∧ KFd τ (B ++ (by4 v).take k)) (fun z _ => (z + 8).toNat) ?_ 24 σ ⟨0, by omega, by omega, BYk.refl, rfl, by rw [List.take_zero, List.append_nil]; exact h⟩
  rintro _ τ ⟨k, rfl, hk, h1, h11, h2⟩ K hK
  have h0 := h2.1
  rw [List.length_append, List.length_take, by4_len] at h0
  try dsimp only
  by_cases c : k < 4
  · rw [if_neg (by omega)]
    have hb : (by4 v).take (k + 1) = (by4 v).take k ++ [ia (iur v (24 - 8 * (k : Int))) 255] := by
      have : k = 0 ∨ k = 1 ∨ k = 2 ∨ k = 3 := by omega
      rcases this with y | y | y | y <;> rw [y] <;> rfl
    have ha := h2.add (b := ia (iur v (24 - 8 * (k : Int))) 255) (byt_rg _) (by rw [List.length_append, List.length_take, by4_len]; omega) (isr v (24 - 8 * (k : Int))) ((nb_sr (by omega)).trans (nb_ia _).symm)
    refine ⟨⟨by omega, by omega⟩, ⟨by omega, by omega⟩, ⟨by omega, by omega⟩, hK _ _ ⟨k + 1, by omega, by omega, h1.trans ⟨fun o q a => ?_, fun r a => ?_⟩, ?_, ?_⟩ (by omega)⟩
    · rw [pf_1, if_neg (fun z => a ⟨z.1, Or.inl z.2⟩)]; rfl
    · funext j
      rw [pf_2, pr_2, if_neg (fun z => a z.1)]
    · rw [pf_nk (by decide)]; exact h11
    · rw [hb, ← List.append_assoc]
      exact ha
  · rw [if_pos (by omega)]
    rw [List.take_of_length_le (by rw [by4_len]; omega)] at h2
    exact hq τ h1 h11 h2
/-- FEED of the reference -/
theorem sp_K_feed {a b c d e : Int} (hL : L 165 = 65536) (h : KFd σ B) (hq : ∀ τ, BYk σ τ → (65536 < B.length + 20 → τ.1 12 11 = 1 → KFd τ B → Q τ) ∧ (B.length + 20 ≤ 65536 → τ.1 12 11 = 0 → KFd τ (B ++ by4 a ++ by4 b ++ by4 c ++ by4 d ++ by4 e) → Q τ)) : w_K_feed L a b c d e Q σ := by
  have h1 := h.1
  have h2 := h.2.1
  unfold w_K_feed
  rw [h1]
  have hX : ∀ v, BYk σ (pf σ 12 11 v) := fun v => ⟨fun p k x => by rw [pf_1, if_neg (fun z => x ⟨z.1, Or.inr z.2⟩)], fun _ _ => rfl⟩
  have hF : ∀ v, KFd (pf σ 12 11 v) B := fun v => by
    unfold KFd
    rw [pf_nk (by decide)]
    exact h
  refine ⟨⟨by omega, by omega⟩, WJ_dir ?_⟩
  try dsimp only
  by_cases cc : 65536 < B.length + 20
  · rw [if_pos (show (65536 : Int) < (B.length : Int) + 20 by omega), if_neg (by decide)]
    exact (hq _ (hX 1)).1 cc pf_eq (hF 1)
  · rw [if_neg (show ¬ (65536 : Int) < (B.length : Int) + 20 by omega), if_pos rfl]
    refine sp_K_take hL (hF 0) (by omega) (fun τ1 t1 t2 t3 => ?_)
    refine sp_K_take hL t3 (by rw [List.length_append, by4_len]; omega) (fun τ2 u1 u2 u3 => ?_)
    refine sp_K_take hL u3 (by simp only [List.length_append, by4_len]; omega) (fun τ3 v1 v2 v3 => ?_)
    refine sp_K_take hL v3 (by simp only [List.length_append, by4_len]; omega) (fun τ4 w1 w2 w3 => ?_)
    refine sp_K_take hL w3 (by simp only [List.length_append, by4_len]; omega) (fun τ5 x1 x2 x3 => ?_)
    exact (hq τ5 ((hX 0).trans (t1.trans (u1.trans (v1.trans (w1.trans x1)))))).2 (by omega) (by rw [x2, w2, v2, u2, t2, pf_eq]) x3
/-- END of the reference -/
theorem sp_K_end {n : Int} (h : KFd σ B) (hq : ∀ τ, BYk σ τ → (¬ (0 ≤ n ∧ n ≤ (B.length : Int)) → τ.1 12 11 = 1 → KFd τ B → R 0 τ) ∧ (0 ≤ n ∧ n ≤ (B.length : Int) → τ.1 12 11 = 0 → KFd τ (B.take n.toNat) → R (B.length : Int) τ)) : w_K_end L n R σ := by
  obtain ⟨h1, h2, h3, h4⟩ := h
  unfold w_K_end
  rw [h1]
  by_cases c : 0 ≤ n ∧ n ≤ (B.length : Int)
  · have e : (if n < 0 then (1 : Int) else (if (B.length : Int) < n then (1 : Int) else (0 : Int))) = 0 := by rw [if_neg (by omega), if_neg (by omega)]
    rw [e, if_neg (by decide)]
    refine (hq (pf (pf σ 12 11 0) 12 3 n) ⟨fun p k x => ?_, fun _ _ => rfl⟩).2 c ?_ ⟨?_, ?_, fun i hi => ?_, fun b hb => h4 b (List.mem_of_mem_take hb)⟩
    · rw [pf_1, if_neg (fun z => x ⟨z.1, Or.inl z.2⟩), pf_1, if_neg (fun z => x ⟨z.1, Or.inr z.2⟩)]
    · rw [pf_nk (by decide), pf_eq]
    · rw [pf_eq, List.length_take]; omega
    · rw [List.length_take]; omega
    · rw [List.length_take] at hi
      rw [pf_2, pf_2, List.getD_eq_getElem?_getD, List.getElem?_take, if_pos (by omega), ← List.getD_eq_getElem?_getD]
      exact h3 i (by omega)
  · have e : (if n < 0 then (1 : Int) else (if (B.length : Int) < n then (1 : Int) else (0 : Int))) = 1 := by
      by_cases c1 : n < 0
      · rw [if_pos c1]
      · rw [if_neg c1, if_pos (by omega)]
    rw [e, if_pos (by decide)]
    refine (hq (pf σ 12 11 1) ⟨fun p k x => ?_, fun _ _ => rfl⟩).1 c pf_eq ?_
    · rw [pf_1, if_neg (fun z => x ⟨z.1, Or.inr z.2⟩)]
    · unfold KFd
      rw [pf_nk (by decide)]
      exact ⟨h1, h2, h3, h4⟩
end Kfe
