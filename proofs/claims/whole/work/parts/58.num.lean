/-! ===== numbers of characters ===== -/
def dgv (c : Int) : Int := if isDg c = true then c - 48 else lowr c - 97 + 10
def numl (b : Int) (l : List Int) : Int := l.foldl (fun v c => v * b + dgv c) 0
theorem numl_snoc {b : Int} {l : List Int} {c : Int} : numl b (l ++ [c]) = numl b l * b + dgv c := by
  unfold numl
  rw [List.foldl_append]
  rfl
theorem dgv_in {c : Int} (h : hexd c = true) : 0 ≤ dgv c ∧ dgv c ≤ 15 := by
  unfold dgv
  by_cases hd : isDg c = true
  · rw [if_pos hd]
    have := inI_iff.mp hd
    omega
  · rw [if_neg hd]
    unfold hexd at h
    have hd' : isDg c = false := by simpa using hd
    rw [hd', Bool.false_or] at h
    have := inI_iff.mp h
    omega
theorem dg_hex {c : Int} (h : isDg c = true) : hexd c = true := by
  unfold hexd
  rw [h]
  rfl
theorem numl_pos {b : Int} (hb : 0 ≤ b) : ∀ l : List Int, (∀ c ∈ l, hexd c = true) → 0 ≤ numl b l := by
  intro l
  have key : ∀ (l : List Int) (v : Int), 0 ≤ v → (∀ c ∈ l, hexd c = true) → 0 ≤ l.foldl (fun v c => v * b + dgv c) v := by
    intro l
    induction l with
    | nil => intro v hv _; exact hv
    | cons c r ih =>
      intro v hv hc
      have := dgv_in (hc c List.mem_cons_self)
      have h2 := Int.mul_nonneg hv hb
      exact ih _ (show 0 ≤ v * b + dgv c by omega) (fun c' hc' => hc c' (List.mem_cons_of_mem _ hc'))
  exact key l 0 (Int.le_refl 0)
/-- a number held at most at m -/
theorem clamp_step {N v b d m : Int} (hN : 0 ≤ N) (hb : b = 10 ∨ b = 16) (hd : 0 ≤ d ∧ d ≤ 15) (hm : 1114112 ≤ m) (hv : v = if m < N then m else N) : (if m < v * b + d then m else v * b + d) = if m < N * b + d then m else N * b + d := by
  by_cases c : m < N
  · rw [if_pos c] at hv
    subst hv
    rcases hb with rfl | rfl
    · rw [if_pos (by omega), if_pos (by omega)]
    · rw [if_pos (by omega), if_pos (by omega)]
  · rw [if_neg c] at hv
    subst hv
    rfl
theorem isCh_clamp {N m : Int} (hm : 1114112 ≤ m) : isCh (if m < N then m else N) = isCh N := by
  by_cases c : m < N
  · rw [if_pos c]
    have h1 : isCh m = false := by
      rw [Bool.eq_false_iff]
      intro h
      simp [isCh, inI] at h
      omega
    have h2 : isCh N = false := by
      rw [Bool.eq_false_iff]
      intro h
      simp [isCh, inI] at h
      omega
    rw [h1, h2]
  · rw [if_neg c]
theorem isCh_le {N : Int} (h : isCh N = true) : 0 ≤ N ∧ N ≤ 1114111 := by
  simp [isCh, inI] at h
  omega
section Num
variable {L : Nat → Nat} {Q : Int → IS → Prop} {σ : IS} {e : Nat}
theorem sp_KReader_meant (hk : KT L σ e) (hc : chs σ e) {x : Int} (i j : Nat) (hx : x = (i : Int)) (hex : Bool) (hh : hex = true ↔ σ.2 176 (i + 2) = 120) (k0 : Nat) (hk0 : k0 = if hex = true then i + 3 else i + 2) (hkj : k0 ≤ j) (hj : j < e) (hs : σ.2 176 j = 59) (hd : ∀ q, k0 ≤ q → q < j → (if hex = true then hexd (σ.2 176 q) else isDg (σ.2 176 q)) = true)
    (h : Q (if isCh (numl (if hex = true then 16 else 10) (sl (σ.2 176) k0 (j - k0))) = true then numl (if hex = true then 16 else 10) (sl (σ.2 176) k0 (j - k0)) else -1) σ) : w_KReader_meant L 176 x Q σ := by
  obtain ⟨hk1, hk2, hk3⟩ := hk
  have hi2 : i + 2 ≤ k0 := by cases hex <;> simp at hk0 <;> omega
  unfold w_KReader_meant
  rw [show Int.toNat (x + 2) = i + 2 by omega]
  have ehex : (if σ.2 176 (i + 2) = 120 then (1 : Int) else (0 : Int)) = b1 hex := by
    cases hex with
    | true => rw [if_pos (hh.mp rfl)]; rfl
    | false => rw [if_neg (fun z => Bool.noConfusion (hh.mpr z))]; rfl
  rw [ehex]
  refine ⟨⟨by omega, by omega⟩, ⟨by omega, by omega⟩, ⟨fun _ => ⟨by omega, by omega⟩, fun _ => ⟨by omega, by omega⟩⟩, ?_⟩
  have eb : (if b1 hex = 0 then (10 : Int) else (16 : Int)) = if hex = true then 16 else 10 := by cases hex <;> rfl
  have ek : (if b1 hex = 0 then (x + 2) else (x + 3)) = (k0 : Int) := by
    cases hex
    · rw [if_pos (show b1 false = 0 from rfl)]; simp at hk0; omega
    · rw [if_neg (show ¬ b1 true = 0 by decide)]; simp at hk0; omega
  rw [eb, ek]
  have hb : (if hex = true then (16 : Int) else 10) = 10 ∨ (if hex = true then (16 : Int) else 10) = 16 := by cases hex <;> simp
  generalize hbb : (if hex = true then (16 : Int) else 10) = b at *
  have hhex : ∀ q, k0 ≤ q → q < j → hexd (σ.2 176 q) = true := by
    intro q h1 h2
    have := hd q h1 h2
    cases hex
    · exact dg_hex this
    · exact this
  have hall : ∀ m, k0 + m ≤ j → ∀ c ∈ sl (σ.2 176) k0 m, hexd c = true := by
    intro m hm c hcm
    unfold sl at hcm
    obtain ⟨q, hq, rfl⟩ := List.mem_map.mp hcm
    have := List.mem_range.mp hq
    exact hhex _ (by omega) (by omega)
  refine WL_ind (fun s τ => τ = σ ∧ ∃ m : Nat, s.2 = ((k0 + m : Nat) : Int) ∧ k0 + m ≤ j ∧ s.1 = if 2000000 < numl b (sl (σ.2 176) k0 m) then 2000000 else numl b (sl (σ.2 176) k0 m)) (fun s _ => ((j : Int) + 1 - s.2).toNat) ?_ _ σ ⟨rfl, 0, by simp, by omega, by simp [sl, numl]⟩
  rintro ⟨v, k⟩ τ ⟨rfl, m, hkm, hmj, hv⟩ K hI
  dsimp only at hkm hv hI ⊢
  subst hkm
  rw [show Int.toNat ((k0 + m : Nat) : Int) = k0 + m by omega]
  have hN := numl_pos (b := b) (by omega) _ (hall m hmj)
  have hvr : 0 ≤ v ∧ v ≤ 2000000 := by
    rw [hv]
    split <;> omega
  refine ⟨⟨by omega, by omega⟩, ?_⟩
  by_cases c : τ.2 176 (k0 + m) = 59
  · rw [if_pos c]
    have ej : k0 + m = j := by
      by_cases z : k0 + m < j
      · have := hhex (k0 + m) (by omega) z
        rw [c] at this
        exact absurd this (by decide)
      · omega
    refine sp_K_isCharacter ?_
    rw [show j - k0 = m by omega] at h
    rw [hv, isCh_clamp (by decide)]
    by_cases c2 : isCh (numl b (sl (τ.2 176) k0 m)) = true
    · rw [c2] at h ⊢
      have := isCh_le c2
      rw [if_neg (show ¬ b1 true = 0 by decide), if_neg (by omega)]
      exact h
    · have c3 : isCh (numl b (sl (τ.2 176) k0 m)) = false := by simpa using c2
      rw [c3] at h ⊢
      rw [if_pos (show b1 false = 0 from rfl)]
      exact h
  · rw [if_neg c]
    have hlt : k0 + m < j := by
      by_cases z : k0 + m < j
      · exact z
      · have : k0 + m = j := by omega
        rw [this] at c
        exact absurd hs c
    have hcc := hc (k0 + m) (by omega)
    have hh2 := hhex (k0 + m) (by omega) hlt
    have hdv := dgv_in hh2
    have hgo : ∀ d, d = dgv (τ.2 176 (k0 + m)) → inR (v * b) ∧ inR (v * b + d) ∧ LETI (if 2000000 < v * b + d then (2000000 : Int) else (v * b + d)) (fun t20 => inR (((k0 + m : Nat) : Int) + 1) ∧ K (t20, ((k0 + m : Nat) : Int) + 1) τ) := by
      intro d hdd
      subst hdd
      have hmul : 0 ≤ v * b ∧ v * b ≤ 32000000 := by
        rcases hb with e2 | e2 <;> rw [e2] <;> omega
      refine ⟨⟨by omega, by omega⟩, ⟨by omega, by omega⟩, LETI_of (fun t ht => ⟨⟨by omega, by omega⟩, hI _ _ ⟨rfl, m + 1, by dsimp only; omega, by omega, ?_⟩ (by dsimp only; omega)⟩)⟩
      dsimp only
      rw [ht, clamp_step hN hb hdv (by decide) hv, sl_succ, numl_snoc]
    refine ⟨⟨by omega, by omega⟩, sp_K_isDigit ?_⟩
    unfold WJ
    try dsimp only
    rw [if_b1]
    by_cases cd : isDg (τ.2 176 (k0 + m)) = true
    · rw [if_pos cd]
      refine ⟨⟨by omega, by omega⟩, ⟨by omega, by omega⟩, hgo _ ?_⟩
      unfold dgv
      rw [if_pos cd]
    · rw [if_neg cd]
      refine ⟨⟨by omega, by omega⟩, sp_K_lower (by omega) ?_⟩
      have hlr : -1 ≤ lowr (τ.2 176 (k0 + m)) ∧ lowr (τ.2 176 (k0 + m)) ≤ 2000000 := by
        unfold lowr
        split <;> omega
      refine ⟨⟨by omega, by omega⟩, ⟨by omega, by omega⟩, hgo _ ?_⟩
      unfold dgv
      rw [if_neg cd]
end Num
