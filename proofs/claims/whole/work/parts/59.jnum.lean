/-! ===== numbers and references in the class ===== -/
section JNum
variable {L : Nat → Nat} {σ τ : IS} {e p k : Nat} {o : Option Nat}
theorem dig_eq {c t : Int} (ht : t = lowr c) : (if c < 48 then (if t < 97 then (16 : Int) else (if 102 < t then (16 : Int) else ((t - 97) + 10))) else (if 57 < c then (if t < 97 then (16 : Int) else (if 102 < t then (16 : Int) else ((t - 97) + 10))) else (c - 48))) = if hexd c = true then dgv c else 16 := by
  subst ht
  by_cases hd : isDg c = true
  · have h1 := inI_iff.mp hd
    rw [if_neg (by omega), if_neg (by omega), if_pos (dg_hex hd)]
    unfold dgv
    rw [if_pos hd]
  · have hd' : isDg c = false := by simpa using hd
    have hn : ¬ (48 ≤ c ∧ c ≤ 57) := fun z => hd (inI_iff.mpr z)
    have hx : hexd c = inI (lowr c) 97 102 := by
      unfold hexd
      rw [hd', Bool.false_or]
    have hv : dgv c = lowr c - 97 + 10 := by
      unfold dgv
      rw [if_neg hd]
    have e2 : (if lowr c < 97 then (16 : Int) else (if 102 < lowr c then (16 : Int) else ((lowr c - 97) + 10))) = if hexd c = true then dgv c else 16 := by
      rw [hx, hv]
      by_cases c1 : inI (lowr c) 97 102 = true
      · have := inI_iff.mp c1
        rw [if_neg (by omega), if_neg (by omega), if_pos c1]
      · rw [if_neg c1]
        have h3 : ¬ (97 ≤ lowr c ∧ lowr c ≤ 102) := fun z => c1 (inI_iff.mpr z)
        by_cases c2 : lowr c < 97
        · rw [if_pos c2]
        · rw [if_neg c2, if_pos (by omega)]
    by_cases c3 : c < 48
    · rw [if_pos c3]
      exact e2
    · rw [if_neg c3, if_pos (by omega)]
      exact e2
theorem pf_num {v v' k' k'' : Int} : pf (pf (pf (pf σ 2 7 v) 2 2 k') 2 7 v') 2 2 k'' = pf (pf σ 2 7 v') 2 2 k'' := by
  rw [pf_comm (o := 2) (k := 2) (p := 2) (j := 7) (by omega), pf_pf, pf_pf]
def jch (L : Nat → Nat) (σ : IS) : Prop := ∀ i, i < L 101 → 0 ≤ σ.2 101 i ∧ σ.2 101 i ≤ 1114111
theorem hch_ne (hch : jch L σ) {i : Nat} (hi : i < L 101) : σ.2 101 i ≠ -1 := by
  have := hch i hi
  omega
theorem sp_Reader_readNumber {Q : IS → Prop} (hj : JT L σ e p) (hch : jch L σ) (hex : Bool) {b : Int} (hb : b = if hex = true then 16 else 10)
    (h1 : sk (fun c => if hex = true then hexd c else isDg c) (σ.2 101) e p ≠ p → Q (pf (pf σ 2 7 (if 1114112 < numl b (sl (σ.2 101) p (sk (fun c => if hex = true then hexd c else isDg c) (σ.2 101) e p - p)) then 1114112 else numl b (sl (σ.2 101) p (sk (fun c => if hex = true then hexd c else isDg c) (σ.2 101) e p - p)))) 2 2 ((sk (fun c => if hex = true then hexd c else isDg c) (σ.2 101) e p : Nat) : Int)))
    (h0 : sk (fun c => if hex = true then hexd c else isDg c) (σ.2 101) e p = p → Q (flt (pf σ 2 7 0) 5)) : w_Reader_readNumber L b Q σ := by
  generalize hP : (fun c => if hex = true then hexd c else isDg c) = P at *
  have hPh : ∀ c, P c = true → hexd c = true := by
    intro c hc
    subst hP
    cases hex
    · exact dg_hex hc
    · exact hc
  have hb2 : b = 10 ∨ b = 16 := by cases hex <;> simp at hb <;> omega
  obtain ⟨g1, g2, g3, g4, g5⟩ := hj
  unfold w_Reader_readNumber
  refine WL_ind (fun s ρ => ∃ m : Nat, s = ((p + m : Nat) : Int) ∧ (m = 0 ∨ p + m ≤ e) ∧ sk P (σ.2 101) e p = sk P (σ.2 101) e (p + m) ∧ (∀ q, q < m → hexd (σ.2 101 (p + q)) = true) ∧ ρ = pf (pf σ 2 7 (if 1114112 < numl b (sl (σ.2 101) p m) then 1114112 else numl b (sl (σ.2 101) p m))) 2 2 ((p + m : Nat) : Int)) (fun s _ => ((e : Int) + 60 - s).toNat) ?_ _ _ ⟨0, by simpa using g1, Or.inl rfl, rfl, fun q hq => by omega, ?_⟩
  · rintro s ρ ⟨m, rfl, hm, hs, hq, rfl⟩ K hI
    try dsimp only
    unfold WJ
    try dsimp only
    have f3 : ∀ v x : Int, (pf (pf σ 2 7 v) 2 2 x).1 2 3 = (e : Int) := fun v x => by rw [pf_nk (by decide), pf_nk (by decide), g2]
    have f7 : ∀ v x : Int, (pf (pf σ 2 7 v) 2 2 x).1 2 7 = v := fun v x => by rw [pf_nk (by decide), pf_eq]
    have fr : ∀ v x : Int, (pf (pf σ 2 7 v) 2 2 x).2 = σ.2 := fun v x => rfl
    rw [f3, f7, fr, pf_eq, g1, show Int.toNat ((p + m : Nat) : Int) = p + m by omega]
    have hall : ∀ c ∈ sl (σ.2 101) p m, hexd c = true := by
      intro c hcm
      unfold sl at hcm
      obtain ⟨q, hq2, rfl⟩ := List.mem_map.mp hcm
      exact hq q (List.mem_range.mp hq2)
    have hN := numl_pos (b := b) (by omega) _ hall
    generalize hv : (if 1114112 < numl b (sl (σ.2 101) p m) then (1114112 : Int) else numl b (sl (σ.2 101) p m)) = v at *
    have hvr : 0 ≤ v ∧ v ≤ 1114112 := by
      rw [← hv]
      split <;> omega
    have hstop : sk P (σ.2 101) e (p + m) = p + m → (if ((p + m : Nat) : Int) = (p : Int) then w_Reader_fail L 5 (fun σ14 => Q σ14) (pf (pf σ 2 7 v) 2 2 ((p + m : Nat) : Int)) else Q (pf (pf σ 2 7 v) 2 2 ((p + m : Nat) : Int))) := by
      intro hst
      rw [hst] at hs
      by_cases c : m = 0
      · subst c
        rw [if_pos (by omega)]
        refine sp_Reader_fail ?_
        have ev : v = 0 := by
          rw [← hv]
          simp [sl, numl]
        subst ev
        have h2 := h0 (by simpa using hs)
        have e3 : pf (pf σ 2 7 0) 2 2 ((p + 0 : Nat) : Int) = pf σ 2 7 0 := pf_self (by rw [pf_nk (by decide)]; simpa using g1)
        rw [e3]
        exact h2
      · rw [if_neg (by omega)]
        have h2 := h1 (by omega)
        rw [hs, show p + m - p = m by omega, hv] at h2
        exact h2
    by_cases c : ((p + m : Nat) : Int) < (e : Int)
    · rw [if_pos c]
      have hc := hch (p + m) (by omega)
      refine ⟨⟨by omega, by omega⟩, fun _ _ => ⟨by omega, by omega⟩, LETI_of (fun t ht => ?_)⟩
      have ht2 : t = lowr (σ.2 101 (p + m)) := by
        rw [ht]
        simp only [lowr, inI]
        grind
      have htr : -1 ≤ t ∧ t ≤ 1114143 := by
        rw [ht2]
        unfold lowr
        split <;> omega
      refine ⟨⟨fun _ _ _ => ⟨⟨by omega, by omega⟩, by omega, by omega⟩, fun _ => ⟨fun _ _ _ => ⟨⟨by omega, by omega⟩, by omega, by omega⟩, fun _ => ⟨by omega, by omega⟩⟩⟩, LETI_of (fun d hd => ?_)⟩
      rw [dig_eq ht2] at hd
      have hdP : d < b ↔ P (σ.2 101 (p + m)) = true := by
        subst hP
        by_cases cx : hexd (σ.2 101 (p + m)) = true
        · rw [if_pos cx] at hd
          have hdi := dgv_in cx
          cases hex
          · simp at hb
            subst hb
            dsimp only
            rw [if_neg (by decide)]
            constructor
            · intro z
              by_cases cd : isDg (σ.2 101 (p + m)) = true
              · exact cd
              · exfalso
                unfold dgv at hd
                rw [if_neg cd] at hd
                unfold hexd at cx
                have cd' : isDg (σ.2 101 (p + m)) = false := by simpa using cd
                rw [cd', Bool.false_or] at cx
                have := inI_iff.mp cx
                omega
            · intro z
              unfold dgv at hd
              rw [if_pos z] at hd
              have := inI_iff.mp z
              omega
          · simp at hb
            subst hb
            dsimp only
            rw [if_pos rfl]
            exact ⟨fun _ => cx, fun _ => by omega⟩
        · rw [if_neg cx] at hd
          constructor
          · intro z
            omega
          · intro z
            exact absurd (hPh _ (by cases hex <;> exact z)) cx
      by_cases c2 : d < b
      · rw [if_pos c2]
        have hp2 := hdP.mp c2
        have hx2 := hPh _ hp2
        rw [if_pos hx2] at hd
        have hdi := dgv_in hx2
        have hmul : 0 ≤ v * b ∧ v * b ≤ 17825792 := by
          rcases hb2 with e2 | e2 <;> rw [e2] <;> omega
        refine ⟨⟨by omega, by omega⟩, ⟨by omega, by omega⟩, ⟨by omega, by omega⟩, ⟨by omega, by omega⟩, hI _ _ ⟨m + 1, by omega, Or.inr (by omega), by rw [hs, sk_go (by omega) hp2]; rfl, fun q hq2 => ?_, ?_⟩ (by omega)⟩
        · by_cases eq : q < m
          · exact hq q eq
          · rw [show q = m by omega]
            exact hx2
        · rw [pf_num, hd, clamp_step hN hb2 hdi (by decide) hv.symm, sl_succ, numl_snoc]
          congr 1
      · rw [if_neg c2]
        exact hstop (sk_stop (by
          cases hz : P (σ.2 101 (p + m)) with
          | false => rfl
          | true => exact absurd (hdP.mpr hz) c2))
    · rw [if_neg c]
      exact hstop (sk_end (by omega))
  · rw [show ((p + 0 : Nat) : Int) = (p : Int) by omega]
    have ev : (if 1114112 < numl b (sl (σ.2 101) p 0) then (1114112 : Int) else numl b (sl (σ.2 101) p 0)) = 0 := by simp [sl, numl]
    rw [ev]
    exact (pf_self (by rw [pf_nk (by decide)]; exact g1)).symm
end JNum
