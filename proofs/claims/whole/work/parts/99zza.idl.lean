/-! ===== the class between two calls; it forgets ===== -/
/-- between two calls; S: how far the stamp may be -/
def JI (L : Nat → Nat) (rm nd S : Nat) (σ : IS) : Prop := SI L σ ∧ jch L σ ∧ (19 ≤ jw σ ∧ ∀ i, i < 19 → wst σ i = ti (1064 + i)) ∧ (σ.1 1 12 = 19 ∧ σ.1 1 0 = (rm : Int) ∧ σ.1 6 0 = (nd : Int)) ∧ ((0 ≤ σ.1 1 16 ∧ σ.1 1 16 ≤ (S : Int)) ∧ ∀ w, σ.2 155 w ≤ σ.1 1 16) ∧ rng σ ∧ (∀ r, r = 114 ∨ r = 115 ∨ r = 125 ∨ r = 126 ∨ r = 127 ∨ r = 156 ∨ r = 158 → ∀ w, jw σ ≤ w → w < L 155 → σ.2 r w = 0) ∧ (0 ≤ σ.1 1 2 ∧ σ.1 1 2 ≤ 256 ∧ σ.1 1 2 ≤ σ.1 1 3 ∧ ∀ i, i < 19 → σ.2 102 i + σ.2 103 i ≤ σ.1 1 2)
/-- the rows of the meanings -/
def JLm (L : Nat → Nat) : Prop := L 156 = L 102 ∧ L 158 = L 102
/-- nothing of a document -/
def JF (L : Nat → Nat) (σ σ' : IS) : Prop := SI L σ' ∧ (∀ o k, (o = 0 ∨ o = 2 ∨ (o = 1 ∧ k ≠ 3 ∧ k ≠ 4 ∧ k ≠ 6 ∧ k ≠ 14) ∨ (o = 6 ∧ k = 0) ∨ 8 ≤ o) → σ'.1 o k = σ.1 o k) ∧ (∀ r, r ≠ 106 → r ≠ 114 → r ≠ 115 → r ≠ 125 → r ≠ 126 → r ≠ 127 → r ≠ 156 → r ≠ 158 → σ'.2 r = σ.2 r) ∧ (∀ r, r = 114 ∨ r = 115 ∨ r = 125 ∨ r = 126 ∨ r = 127 ∨ r = 156 → ∀ w, w < L 155 → σ'.2 r w = 0) ∧ (∀ w, w < L 155 → σ'.2 158 w = if w = 6 then 8 else 0) ∧ (σ'.1 1 3 = σ.1 1 2 ∧ σ'.1 1 4 = 0 ∧ σ'.1 1 6 = 0 ∧ σ'.1 1 14 = 19) ∧ (σ'.1 3 5 = 0 ∧ σ'.1 3 12 = 0 ∧ σ'.1 3 14 = 0 ∧ σ'.1 3 15 = 0 ∧ σ'.1 3 16 = 0) ∧ (σ'.1 4 3 = 0 ∧ σ'.1 4 12 = 0 ∧ σ'.1 4 16 = 0 ∧ σ'.1 4 18 = 0) ∧ (σ'.1 5 5 = 0 ∧ σ'.1 5 6 = 0) ∧ (σ'.1 6 1 = 0 ∧ σ'.1 6 2 = 0 ∧ σ'.1 6 10 = 0 ∧ σ'.1 6 15 = 0 ∧ σ'.1 6 16 = 0 ∧ σ'.1 6 3 = -1)
theorem fl_1 {σ : IS} {r f t : Nat} {v : Int} {o k : Nat} : (fl σ r f t v).1 o k = σ.1 o k := rfl
theorem fl_2 {σ : IS} {r f t : Nat} {v : Int} {q j : Nat} : (fl σ r f t v).2 q j = if q = r ∧ f ≤ j ∧ j < t then v else σ.2 q j := rfl
section JFo
variable {L : Nat → Nat} {rm nd S : Nat} {σ : IS} {Q : IS → Prop}
set_option maxHeartbeats 1000000 in
theorem sp_J_forget (hln : JLn L rm nd) (hm : JLm L) (h : JI L rm nd S σ) (hq : ∀ σ', JF L σ σ' → Q σ') : w_J_forget L Q σ := by
  obtain ⟨h1, h2, ⟨h3, h3'⟩, ⟨h4, h4', h4''⟩, h5, h6, h7, h8, h9, h10, h11⟩ := id h
  have hjw := h1.jw_le
  have hj14 : σ.1 1 14 = (jw σ : Int) := by unfold jw; have := h1.1.1; omega
  obtain ⟨L4, L5, L25, L26, L27⟩ := hln.2.2.2.2.2.1
  have h155 : L 102 = L 155 := hln.1.2.2.2.1
  have h102 := hln.2.2.2.1
  have m1 := hm.1
  have m2 := hm.2
  unfold w_J_forget w_Entities_forget w_Declared_forget w_Meanings_forget
  have e0 : Int.toNat (0 : Int) = 0 := rfl
  have ej : Int.toNat (σ.1 1 14) = jw σ := rfl
  rw [e0, ej]
  refine ⟨⟨by omega, by omega, by omega⟩, ⟨by omega, by omega, by omega⟩, ⟨by omega, by omega, by omega⟩, ⟨by omega, by omega, by omega⟩, ⟨by omega, by omega, by omega⟩, ⟨by omega, by omega, by omega⟩, ⟨by omega, by omega, by omega⟩, ⟨by omega, by omega⟩, ?_⟩
  rw [show Int.toNat 6 = 6 from rfl]
  generalize hψ : pr (fl (fl (pf (pf (pf (pf (fl (fl (fl (pf (pf (pf (pf (pf (fl (fl σ 114 0 (jw σ) 0) 115 0 (jw σ) 0) 3 5 0) 3 12 0) 3 14 0) 3 15 0) 3 16 0) 125 0 (jw σ) 0) 126 0 (jw σ) 0) 127 0 (jw σ) 0) 4 3 0) 4 12 0) 4 16 0) 4 18 0) 156 0 (jw σ) 0) 158 0 (jw σ) 0) 158 6 8 = ψ
  have hψf : ∀ o k, ψ.1 o k = if o = 4 ∧ (k = 3 ∨ k = 12 ∨ k = 16 ∨ k = 18) then 0 else if o = 3 ∧ (k = 5 ∨ k = 12 ∨ k = 14 ∨ k = 15 ∨ k = 16) then 0 else σ.1 o k := by
    intro o k
    rw [← hψ, pr_1, fl_1, fl_1, pf_1, pf_1, pf_1, pf_1, fl_1, fl_1, fl_1, pf_1, pf_1, pf_1, pf_1, pf_1, fl_1, fl_1]
    by_cases c1 : o = 4 ∧ (k = 3 ∨ k = 12 ∨ k = 16 ∨ k = 18)
    · rw [if_pos c1]
      obtain ⟨rfl, rfl | rfl | rfl | rfl⟩ := c1 <;> simp
    · rw [if_neg c1, if_neg (by omega), if_neg (by omega), if_neg (by omega), if_neg (by omega)]
      by_cases c2 : o = 3 ∧ (k = 5 ∨ k = 12 ∨ k = 14 ∨ k = 15 ∨ k = 16)
      · rw [if_pos c2]
        obtain ⟨rfl, rfl | rfl | rfl | rfl | rfl⟩ := c2 <;> simp
      · rw [if_neg c2, if_neg (by omega), if_neg (by omega), if_neg (by omega), if_neg (by omega), if_neg (by omega)]
  have hψr : ∀ r j, ψ.2 r j = if r = 158 ∧ j = 6 then 8 else if (r = 114 ∨ r = 115 ∨ r = 125 ∨ r = 126 ∨ r = 127 ∨ r = 156 ∨ r = 158) ∧ j < jw σ then 0 else σ.2 r j := by
    intro r j
    rw [← hψ, pr_2]
    by_cases c1 : r = 158 ∧ j = 6
    · rw [if_pos c1, if_pos c1]
    · rw [if_neg c1, if_neg c1, fl_2, fl_2, pf_2, pf_2, pf_2, pf_2, fl_2, fl_2, fl_2, pf_2, pf_2, pf_2, pf_2, pf_2, fl_2, fl_2]
      by_cases c2 : (r = 114 ∨ r = 115 ∨ r = 125 ∨ r = 126 ∨ r = 127 ∨ r = 156 ∨ r = 158) ∧ j < jw σ
      · rw [if_pos c2]
        obtain ⟨rfl | rfl | rfl | rfl | rfl | rfl | rfl, c3⟩ := c2 <;> simp [c3]
      · rw [if_neg c2, if_neg (by omega), if_neg (by omega), if_neg (by omega), if_neg (by omega), if_neg (by omega), if_neg (by omega), if_neg (by omega)]
  have hψk : ∀ o k, o ≠ 3 → o ≠ 4 → ψ.1 o k = σ.1 o k := fun o k y1 y2 => by rw [hψf, if_neg (by omega), if_neg (by omega)]
  have hψs : ∀ r, r ≠ 114 → r ≠ 115 → r ≠ 125 → r ≠ 126 → r ≠ 127 → r ≠ 156 → r ≠ 158 → ψ.2 r = σ.2 r := fun r y1 y2 y3 y4 y5 y6 y7 => by
    funext j
    rw [hψr, if_neg (by omega), if_neg (by omega)]
  have hIψ := (SI_of h1 (σ' := ψ) (hψk 1 14 (by decide) (by decide)) (by rw [hψk 1 3 (by decide) (by decide)]; have := h1.1; omega) (fun r y1 y2 => hψs r (by omega) (by omega) (by omega) (by omega) (by omega) (by omega) (by omega)) (fun i _ => by rw [hψs 101 (by decide) (by decide) (by decide) (by decide) (by decide) (by decide) (by decide)])).1
  have hjψ : jw ψ = jw σ := by unfold jw; rw [hψk 1 14 (by decide) (by decide)]
  refine sp_Store_forget hIψ hln.1 (by rw [hψk 1 12 (by decide) (by decide)]; exact h4) (by omega) (by rw [hψk 1 2 (by decide) (by decide), hψk 1 3 (by decide) (by decide)]; exact ⟨h8, h10⟩) (fun i hi => by rw [hψs 102 (by decide) (by decide) (by decide) (by decide) (by decide) (by decide) (by decide), hψs 103 (by decide) (by decide) (by decide) (by decide) (by decide) (by decide) (by decide), hψk 1 2 (by decide) (by decide)]; exact h11 i hi) (fun σ1 f1 r1 g1 hI1 => ?_)
  unfold w_Doctype_forget w_Tree_forget
  generalize hφ : pf (pf (pf (pf (pf (pf (pf (pf σ1 5 5 0) 5 6 0) 6 1 0) 6 2 0) 6 10 0) 6 15 0) 6 16 0) 6 3 (-1) = φ
  have hφf : ∀ o k, o ≠ 5 → o ≠ 6 → φ.1 o k = σ1.1 o k := fun o k y1 y2 => by rw [← hφ, pf_no y2, pf_no y2, pf_no y2, pf_no y2, pf_no y2, pf_no y2, pf_no y1, pf_no y1]
  have hφ6 : ∀ k, k = 0 → φ.1 6 k = σ1.1 6 k := fun k hk => by
    rw [← hφ, pf_1, if_neg (by omega), pf_1, if_neg (by omega), pf_1, if_neg (by omega), pf_1, if_neg (by omega), pf_1, if_neg (by omega), pf_1, if_neg (by omega), pf_no (by decide), pf_no (by decide)]
  have hφr : φ.2 = σ1.2 := by rw [← hφ]; rfl
  have hIφ := (SI_of hI1 (σ' := φ) (hφf 1 14 (by decide) (by decide)) (by rw [hφf 1 3 (by decide) (by decide)]; have := hI1.1; omega) (fun r _ _ => by rw [hφr]) (fun i _ => by rw [hφr])).1
  suffices key : Q φ by rw [← hφ] at key; exact key
  refine hq φ ⟨hIφ, fun o k hk => ?_, fun r y0 y1 y2 y3 y4 y5 y6 y7 => ?_, fun r hr w hw => ?_, fun w hw => ?_, ⟨?_, ?_, ?_, ?_⟩, ⟨?_, ?_, ?_, ?_, ?_⟩, ⟨?_, ?_, ?_, ?_⟩, ⟨?_, ?_⟩, ⟨?_, ?_, ?_, ?_, ?_, ?_⟩⟩
  · rcases hk with y | y | y | y | y
    · rw [hφf o k (by omega) (by omega), f1 o k (by omega), hψk o k (by omega) (by omega)]
    · rw [hφf o k (by omega) (by omega), f1 o k (by omega), hψk o k (by omega) (by omega)]
    · rw [hφf o k (by omega) (by omega), f1 o k (by omega), hψk o k (by omega) (by omega)]
    · rw [y.1, hφ6 k y.2, f1 6 k (by omega), hψk 6 k (by decide) (by decide)]
    · rw [hφf o k (by omega) (by omega), f1 o k (by omega), hψk o k (by omega) (by omega)]
  · rw [hφr, r1 r y0]
    exact hψs r y1 y2 y3 y4 y5 y6 y7
  · rw [hφr, r1 r (by omega), hψr, if_neg (by omega)]
    by_cases c : w < jw σ
    · rw [if_pos ⟨by omega, c⟩]
    · rw [if_neg (fun y => c y.2)]
      exact h7 r (by omega) w (by omega) hw
  · rw [hφr, r1 158 (by decide), hψr]
    by_cases c6 : w = 6
    · rw [if_pos ⟨rfl, c6⟩, if_pos c6]
    · rw [if_neg (fun y => c6 y.2), if_neg c6]
      by_cases c : w < jw σ
      · rw [if_pos ⟨by omega, c⟩]
      · rw [if_neg (fun y => c y.2)]
        exact h7 158 (by omega) w (by omega) hw
  · rw [hφf 1 3 (by decide) (by decide), g1.1, hψk 1 2 (by decide) (by decide)]
  · rw [hφf 1 4 (by decide) (by decide)]; exact g1.2.1
  · rw [hφf 1 6 (by decide) (by decide)]; exact g1.2.2.1
  · rw [hφf 1 14 (by decide) (by decide)]; exact g1.2.2.2
  · rw [hφf 3 5 (by decide) (by decide), f1 3 5 (by omega), hψf, if_neg (by omega), if_pos (by omega)]
  · rw [hφf 3 12 (by decide) (by decide), f1 3 12 (by omega), hψf, if_neg (by omega), if_pos (by omega)]
  · rw [hφf 3 14 (by decide) (by decide), f1 3 14 (by omega), hψf, if_neg (by omega), if_pos (by omega)]
  · rw [hφf 3 15 (by decide) (by decide), f1 3 15 (by omega), hψf, if_neg (by omega), if_pos (by omega)]
  · rw [hφf 3 16 (by decide) (by decide), f1 3 16 (by omega), hψf, if_neg (by omega), if_pos (by omega)]
  · rw [hφf 4 3 (by decide) (by decide), f1 4 3 (by omega), hψf, if_pos (by omega)]
  · rw [hφf 4 12 (by decide) (by decide), f1 4 12 (by omega), hψf, if_pos (by omega)]
  · rw [hφf 4 16 (by decide) (by decide), f1 4 16 (by omega), hψf, if_pos (by omega)]
  · rw [hφf 4 18 (by decide) (by decide), f1 4 18 (by omega), hψf, if_pos (by omega)]
  · rw [← hφ, pf_no (by decide), pf_no (by decide), pf_no (by decide), pf_no (by decide), pf_no (by decide), pf_no (by decide), pf_nk (by decide), pf_eq]
  · rw [← hφ, pf_no (by decide), pf_no (by decide), pf_no (by decide), pf_no (by decide), pf_no (by decide), pf_no (by decide), pf_eq]
  · rw [← hφ, pf_nk (by decide), pf_nk (by decide), pf_nk (by decide), pf_nk (by decide), pf_nk (by decide), pf_eq]
  · rw [← hφ, pf_nk (by decide), pf_nk (by decide), pf_nk (by decide), pf_nk (by decide), pf_eq]
  · rw [← hφ, pf_nk (by decide), pf_nk (by decide), pf_nk (by decide), pf_eq]
  · rw [← hφ, pf_nk (by decide), pf_nk (by decide), pf_eq]
  · rw [← hφ, pf_nk (by decide), pf_eq]
  · rw [← hφ, pf_eq]
end JFo
