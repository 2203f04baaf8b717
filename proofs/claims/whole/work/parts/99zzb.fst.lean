/-! ===== a text just loaded: the first picture ===== -/
section DcL
variable {u : Nat → Option (Int × Nat)} {n : Nat}
theorem dcd_len (hu : ∀ i c k, u i = some (c, k) → 1 ≤ k ∧ i + k ≤ n) : ∀ (m i : Nat) (w : List Int), dcd u n m i = .inr w → w.length ≤ n - i := by
  intro m
  induction m with
  | zero => intro i w h; cases h
  | succ m ih =>
    intro i w h
    have h' : (if n ≤ i then (.inr [] : Nat ⊕ List Int) else match u i with
        | none => .inl i
        | some (c, k) => match dcd u n m (i + k) with
          | .inl p => .inl p
          | .inr w => .inr (c :: w)) = .inr w := h
    by_cases c1 : n ≤ i
    · rw [if_pos c1] at h'
      cases h'
      exact Nat.zero_le _
    · rw [if_neg c1] at h'
      cases hui : u i with
      | none => rw [hui] at h'; cases h'
      | some r =>
        obtain ⟨c, k⟩ := r
        rw [hui] at h'
        dsimp only at h'
        have hk := hu i c k hui
        cases hd : dcd u n m (i + k) with
        | inl p => rw [hd] at h'; cases h'
        | inr w1 =>
          rw [hd] at h'
          dsimp only at h'
          have := ih (i + k) w1 hd
          cases h'
          rw [List.length_cons]
          omega
end DcL
theorem u8_st {B : Nat → Int} {n : Nat} : ∀ i c k, u8 B n i = some (c, k) → 1 ≤ k ∧ i + k ≤ n := by
  intro i c k h
  unfold u8 at h
  split at h
  · rename_i z
    cases h
    omega
  · cases h
theorem u16_st {B : Nat → Int} {be : Bool} {n : Nat} : ∀ i c k, u16 B be n i = some (c, k) → 1 ≤ k ∧ i + k ≤ n := by
  intro i c k h
  unfold u16 at h
  split at h
  · split at h
    · split at h
      · cases h; omega
      · cases h
    · split at h
      · cases h; omega
      · cases h
  · cases h
theorem ldT_len {B : Nat → Int} {n : Nat} {w : List Int} (h : ldT B n = .inr w) : w.length ≤ n := by
  unfold ldT at h
  split at h
  · have := dcd_len u16_st _ _ _ h; omega
  · have := dcd_len u8_st _ _ _ h; omega
/-- the pure machine before a text -/
def a0 (l : List Int) : AS := ([(l, 0, 0)], [], (fun j => if j = 0 ∨ j = 8 then l.length else 0), none, [], [], [], [], [], [], [])
theorem rem_a0 {l : List Int} : rem (a0 l) = l.length := by
  show ([l.length] : List Nat).sum = _
  simp
theorem GI_a0 {rm nd : Nat} {l : List Int} (h : l.length ≤ rm) (h6 : l.length ≤ 65536) : GI rm nd (a0 l) := by
  have hr := rem_a0 (l := l)
  have n0 : aN (a0 l) 0 = l.length := rfl
  have n8 : aN (a0 l) 8 = l.length := rfl
  refine ⟨⟨⟨?_, ?_⟩, ?_, ⟨?_, ?_, ?_, ?_⟩, ⟨?_, ?_, ?_, ?_, ?_, ?_, ?_⟩, ⟨?_, ?_⟩, ⟨?_, ?_, ?_, ?_⟩, ?_, ⟨?_, ?_⟩, ?_, ?_, ?_, ?_⟩, ⟨?_, ?_, ?_⟩, ?_, ?_⟩
  · show ([0] : List Nat).Nodup; simp
  · intro f hf; rw [List.mem_singleton.mp hf]; exact Nat.zero_le _
  · intro i hi; exact absurd hi (by show ¬ i + 1 < 1; omega)
  · omega
  · omega
  · omega
  · omega
  · show 14 * 0 + _ ≤ _; omega
  · show 16 * 0 + _ ≤ _; omega
  · show 8 * 0 + _ ≤ _; omega
  · show 0 + _ ≤ _; omega
  · show 0 + _ ≤ _; omega
  · show 0 + _ ≤ _; omega
  · show 0 + _ ≤ _; omega
  · show 0 + 0 ≤ 0; exact Nat.le_refl _
  · show 0 ≤ nd; exact Nat.zero_le _
  · show 0 ≤ 3; decide
  · exact ⟨fun y => absurd y (by show ¬ 0 = 2; decide), fun y => absurd rfl y⟩
  · show 0 ≤ 1; decide
  · show 0 ≤ 1; decide
  · trivial
  · intro f hf; rw [List.mem_singleton.mp hf]; exact Nat.zero_le _
  · exact List.pairwise_singleton _ _
  · intro _; rfl
  · intro y; exact absurd y (by show ¬ 0 = 1; decide)
  · intro y; exact absurd y (by show ¬ 1 < 1; decide)
  · rfl
  · intro f hf; rw [List.mem_singleton.mp hf, n8]; exact Nat.le_refl _
  · intro x hx; cases hx
  · intro y; exact absurd y (by show ¬ 0 = 3; decide)
  · intro x hx; cases hx
  · intro _ i hi; exact absurd hi (by show ¬ i + 1 < 1; omega)
/-- the reader at the beginning -/
def rst (ρ : IS) : IS := pf (pf (pf (pf (pf ρ 2 2 (ρ.1 1 2)) 2 3 (ρ.1 1 3)) 2 4 0) 2 5 0) 2 6 0
section Rst
variable {ρ : IS}
theorem rst_o {o k : Nat} (h : o ≠ 2 ∨ 7 ≤ k) : (rst ρ).1 o k = ρ.1 o k := by
  unfold rst
  rw [pf_1, if_neg (by omega), pf_1, if_neg (by omega), pf_1, if_neg (by omega), pf_1, if_neg (by omega), pf_1, if_neg (by omega)]
theorem rst_r : (rst ρ).2 = ρ.2 := rfl
theorem rst_2 : (rst ρ).1 2 2 = ρ.1 1 2 ∧ (rst ρ).1 2 3 = ρ.1 1 3 ∧ (rst ρ).1 2 4 = 0 ∧ (rst ρ).1 2 5 = 0 ∧ (rst ρ).1 2 6 = 0 := by
  unfold rst
  refine ⟨?_, ?_, ?_, ?_, pf_eq⟩
  · rw [pf_nk (by decide), pf_nk (by decide), pf_nk (by decide), pf_nk (by decide), pf_eq]
  · rw [pf_nk (by decide), pf_nk (by decide), pf_nk (by decide), pf_eq]
  · rw [pf_nk (by decide), pf_nk (by decide), pf_eq]
  · rw [pf_nk (by decide), pf_eq]
end Rst
theorem isCh_rg {c : Int} (h : isCh c = true) : 0 ≤ c ∧ c ≤ 1114111 := by
  unfold isCh inI at h
  simp only [Bool.or_eq_true, Bool.and_eq_true, beq_iff_eq, decide_eq_true_eq] at h
  omega
theorem gd_mem {l : List Int} {i : Nat} (h : i < l.length) : gd l i ∈ l := by
  unfold gd
  rw [List.getD_eq_getElem?_getD, List.getElem?_eq_getElem h]
  exact List.getElem_mem h
section JFi
variable {L : Nat → Nat} {rm nd S bg : Nat} {σ σ1 ρ : IS} {x : Int} {s : List Int × Bool}
set_option maxHeartbeats 1000000 in
theorem JI.ld (hln : JLn L rm nd) (h : JI L rm nd S σ) (hf : JF L σ σ1) (hbg : σ.1 1 2 = (bg : Int)) (hld : LD (pf σ1 1 5 x) bg rm s ρ) : JI L rm nd S (rst ρ) ∧ sgr σ1 (rst ρ) ∧ jw (rst ρ) = 19 ∧ ∀ i, i < 19 → wst (rst ρ) i = ti (1064 + i) := by
  obtain ⟨h1, h2, ⟨h3, h3'⟩, ⟨h4, h4', h4''⟩, ⟨h5, h5'⟩, h6, h7, h8, h9, h10, h11⟩ := id h
  obtain ⟨f1, f2, f3, f4, f5, ⟨f6, f6', f6'', f7⟩, -⟩ := id hf
  obtain ⟨d1, d2, d3, ⟨d4, d5, d6⟩, d7, d8⟩ := id hld
  have h101 := hln.2.2.1
  have hrm := hln.2.1
  have hr102 : ∀ r, r ≠ 101 → (rst ρ).2 r = σ1.2 r := fun r hr => by rw [rst_r, d2 r hr]; rfl
  have e1 : ∀ k, k ≠ 3 → k ≠ 4 → k ≠ 5 → k ≠ 6 → (rst ρ).1 1 k = σ1.1 1 k := fun k y1 y2 y3 y4 => by rw [rst_o (Or.inl (by decide)), d1 1 k (by omega), pf_nk (by omega)]
  have e13 : (rst ρ).1 1 3 = ((bg + min s.1.length rm : Nat) : Int) := by rw [rst_o (Or.inl (by decide))]; exact d4
  have hb : σ1.1 1 3 = (bg : Int) := f6.trans hbg
  have hjt : jtp σ1 = bg := by unfold jtp; omega
  have hmr : min s.1.length rm ≤ rm := Nat.min_le_right _ _
  have hS := SI_of f1 (σ' := rst ρ) (e1 14 (by decide) (by decide) (by decide) (by decide)) ⟨by rw [e13, hb]; omega, by rw [e13]; split at h101 <;> omega⟩ (fun r y1 y2 => hr102 r (by omega)) (fun i hi => by
    rw [rst_r, d3 i (Or.inl (by omega))]; rfl)
  have hjw1 : jw σ1 = 19 := by unfold jw; omega
  have hjw : jw (rst ρ) = 19 := by unfold jw; rw [e1 14 (by decide) (by decide) (by decide) (by decide), f7]; rfl
  have hw1 : ∀ i, wst σ1 i = wst σ i := fun i => by
    unfold wst wfr wsz
    rw [f3 101 (by decide) (by decide) (by decide) (by decide) (by decide) (by decide) (by decide) (by decide), f3 102 (by decide) (by decide) (by decide) (by decide) (by decide) (by decide) (by decide) (by decide), f3 103 (by decide) (by decide) (by decide) (by decide) (by decide) (by decide) (by decide) (by decide)]
  have hw : ∀ i, i < 19 → wst (rst ρ) i = ti (1064 + i) := fun i hi => by rw [hS.2.2.2.1 i (by omega), hw1]; exact h3' i hi
  have hk : ∀ k, k ≠ 3 → k ≠ 4 → k ≠ 5 → k ≠ 6 → k ≠ 14 → (rst ρ).1 1 k = σ.1 1 k := fun k y1 y2 y3 y4 y5 => by rw [e1 k y1 y2 y3 y4, f2 1 k (by omega)]
  have h12 : (rst ρ).1 1 2 = σ.1 1 2 := hk 2 (by decide) (by decide) (by decide) (by decide) (by decide)
  have h155 : (rst ρ).2 155 = σ.2 155 := by rw [hr102 155 (by decide), f3 155 (by decide) (by decide) (by decide) (by decide) (by decide) (by decide) (by decide) (by decide)]
  refine ⟨⟨hS.1, fun i hi => ?_, ⟨by omega, hw⟩, ⟨?_, ?_, ?_⟩, ⟨?_, fun w => ?_⟩, fun j y1 y2 => ?_, fun r hr w y1 y2 => ?_, ?_, ?_, ?_, fun i hi => ?_⟩, hS.2, hjw, hw⟩
  · rw [rst_r]
    by_cases c : i < bg ∨ bg + min s.1.length rm ≤ i
    · rw [d3 i c, pf_2, f3 101 (by decide) (by decide) (by decide) (by decide) (by decide) (by decide) (by decide) (by decide)]
      exact h2 i hi
    · have := d7 (i - bg) (by omega)
      rw [show bg + (i - bg) = i by omega] at this
      rw [this]
      exact isCh_rg (d8 _ (gd_mem (by have := Nat.min_le_left s.1.length rm; omega)))
  · rw [hk 12 (by decide) (by decide) (by decide) (by decide) (by decide)]; exact h4
  · rw [hk 0 (by decide) (by decide) (by decide) (by decide) (by decide)]; exact h4'
  · rw [rst_o (Or.inl (by decide)), d1 6 0 (by omega), pf_no (by decide), f2 6 0 (by omega)]; exact h4''
  · rw [hk 16 (by decide) (by decide) (by decide) (by decide) (by decide)]; exact h5
  · rw [h155, hk 16 (by decide) (by decide) (by decide) (by decide) (by decide)]; exact h5' w
  · by_cases c : j = 6
    · rw [c, rst_2.2.2.2.2]; omega
    · rw [rst_o (Or.inr (by omega)), d1 2 j (by omega), pf_no (by decide), f2 2 j (by omega)]
      exact h6 j y1 y2
  · rw [hr102 r (by omega)]
    by_cases c : r = 158
    · rw [c, f5 w y2, if_neg (by omega)]
    · exact f4 r (by omega) w y2
  · rw [h12]; exact h8
  · rw [h12]; exact h9
  · rw [h12, e13, hbg]; omega
  · rw [hr102 102 (by decide), hr102 103 (by decide), f3 102 (by decide) (by decide) (by decide) (by decide) (by decide) (by decide) (by decide) (by decide), f3 103 (by decide) (by decide) (by decide) (by decide) (by decide) (by decide) (by decide) (by decide), h12]
    exact h11 i hi
set_option maxHeartbeats 1000000 in
theorem RJ.first (hln : JLn L rm nd) (h : JI L rm nd S σ) (hf : JF L σ σ1) (hbg : σ.1 1 2 = (L 997 : Int)) (hld : LD (pf σ1 1 5 x) (L 997) rm s ρ) (hl : s.1.length ≤ rm) (h998 : L 998 = L 997 + s.1.length) (hS9 : S ≤ L 999) : RJ L rm nd (pf (rst ρ) 3 13 ((rst ρ).1 1 4)) (a0 s.1) ∧ JC L (pf (rst ρ) 3 13 ((rst ρ).1 1 4)) (a0 s.1) := by
  obtain ⟨hI, -, hjw, -⟩ := JI.ld hln h hf hbg hld
  obtain ⟨h1, h2, h3, h4, ⟨h5, h5'⟩, h6, h7, h8⟩ := id hI
  obtain ⟨-, f2, f3, f4, f5, -, ⟨a5, a12, a14, a15, a16⟩, ⟨b3, b12, b16, b18⟩, ⟨c5, c6⟩, t1, t2, t10, t15, t16, t3⟩ := id hf
  obtain ⟨d1, d2, d3, ⟨d4, d5, d6⟩, d7, d8⟩ := id hld
  have hmin : min s.1.length rm = s.1.length := Nat.min_eq_left hl
  rw [hmin] at d4 d7
  have hkp : ∀ o k, o ≠ 1 → o ≠ 2 → (rst ρ).1 o k = σ1.1 o k := fun o k y1 y2 => by rw [rst_o (Or.inl y2), d1 o k (by omega), pf_no y1]
  have hr : ∀ r, r ≠ 101 → (rst ρ).2 r = σ1.2 r := fun r hr => by rw [rst_r, d2 r hr]; rfl
  have e13 : (rst ρ).1 1 3 = ((L 997 + s.1.length : Nat) : Int) := by rw [rst_o (Or.inl (by decide))]; exact d4
  have e14 : (rst ρ).1 1 4 = (s.1.length : Int) := by rw [rst_o (Or.inl (by decide))]; exact d5
  have e12 : (rst ρ).1 1 2 = (L 997 : Int) := by rw [rst_o (Or.inl (by decide)), d1 1 2 (by omega), pf_nk (by decide), f2 1 2 (by omega)]; exact hbg
  obtain ⟨r2, r3, r4, r5, r6⟩ := rst_2 (ρ := ρ)
  rw [show ρ.1 1 2 = (L 997 : Int) from (rst_o (ρ := ρ) (o := 1) (k := 2) (Or.inl (by decide))).symm.trans e12] at r2
  rw [d4] at r3
  have h155 : L 102 = L 155 := hln.1.2.2.2.1
  have h102 := hln.2.2.2.1
  generalize hτ : pf (rst ρ) 3 13 ((rst ρ).1 1 4) = τ
  have tf : ∀ o k, ¬ (o = 3 ∧ k = 13) → τ.1 o k = (rst ρ).1 o k := fun o k y => by rw [← hτ, pf_1, if_neg y]
  have tr : τ.2 = (rst ρ).2 := by rw [← hτ]; rfl
  have t313 : τ.1 3 13 = (s.1.length : Int) := by rw [← hτ, pf_eq]; exact e14
  have hSI : SI L τ := by rw [← hτ]; exact (SI_pf h1 (by omega)).1
  have hjwt : jw τ = 19 := by unfold jw; rw [tf 1 14 (by omega)]; exact hjw
  have hjtp : jtp τ = L 997 + s.1.length := by unfold jtp; rw [tf 1 3 (by omega), e13]; rfl
  have hwst : ∀ i, wst τ i = wst (rst ρ) i := fun i => by unfold wst wfr wsz; rw [tr]
  have hWM : ∀ (r : Nat) (f : Str → Int), (r = 114 ∨ r = 115 ∨ r = 125 ∨ r = 126 ∨ r = 127) → (∀ z, f z = 0) → WM L τ r f := fun r f y0 y1 => by
    have hz : ∀ w, w < L 155 → τ.2 r w = 0 := fun w hw => by rw [tr, hr r (by omega)]; exact f4 r (by omega) w hw
    exact ⟨fun w hw => by rw [y1]; exact hz w (by omega), fun w _ hw => hz w hw, fun z hz => absurd (y1 z) hz⟩
  have h312 : τ.1 3 12 = 0 := by rw [tf 3 12 (by omega), hkp 3 12 (by decide) (by decide)]; exact a12
  refine ⟨⟨⟨hSI, ?_, ⟨by omega, fun i hi => by rw [hwst]; exact h3.2 i hi⟩, ⟨?_, ?_, ?_⟩, ⟨⟨?_, ?_, ?_, ?_, ?_⟩, fun w => ?_⟩, fun j y1 y2 => ?_, fun w y1 y2 => ?_, ?_, ?_, ?_, fun i hi => ?_⟩, ⟨?_, Nat.one_pos, ⟨?_, ?_⟩, ?_⟩, ⟨?_, ?_, ?_, ?_⟩, ⟨?_, ?_, ?_, ?_, ?_, ?_⟩, ⟨?_, ?_⟩, ⟨?_, ?_, ?_⟩, ⟨?_, ?_, ?_, ?_⟩, ⟨?_, ?_⟩, ⟨?_, ?_, ?_⟩, ⟨?_, ?_⟩, ⟨?_, ?_, ?_⟩, ?_, ?_⟩, ?_⟩
  · intro i hi; rw [tr]; exact h2 i hi
  · rw [tf 1 12 (by omega)]; exact h4.1
  · rw [tf 1 0 (by omega)]; exact h4.2.1
  · rw [tf 6 0 (by omega)]; exact h4.2.2
  · rw [tf 1 16 (by omega)]; exact h5.1
  · rw [tf 1 16 (by omega)]; omega
  · rw [tf 1 2 (by omega)]; exact e12
  · intro _; rw [tf 2 3 (by omega), r3, h998]
  · intro y; omega
  · rw [tr, tf 1 16 (by omega)]; exact h5' w
  · rw [tf 2 j (by omega)]; exact h6 j y1 y2
  · rw [tr]; exact ⟨h7 156 (by omega) w (by omega) y2, h7 158 (by omega) w (by omega) y2⟩
  · rw [tf 1 2 (by omega)]; exact h8.1
  · rw [tf 1 2 (by omega)]; exact h8.2.1
  · rw [tf 1 2 (by omega), tf 1 3 (by omega)]; exact h8.2.2.1
  · rw [tr, tf 1 2 (by omega)]; exact h8.2.2.2 i hi
  · rw [h312]; rfl
  · refine ⟨L 997, by rw [tf 2 2 (by omega)]; exact r2, by rw [hjtp]; exact Nat.le_refl _, ?_⟩
    show sl (τ.2 101) (L 997) s.1.length = s.1
    refine (sl_ext (g := gd s.1) (k := 0) (fun j hj => ?_)).trans sl_gd
    rw [tr, rst_r, Nat.zero_add]
    exact d7 j hj
  · rw [tf 2 3 (by omega), tf 2 2 (by omega), r2, r3]
    show ((L 997 + s.1.length : Nat) : Int) = (L 997 : Int) + (s.1.length : Int)
    omega
  · intro i hi; exact absurd hi (by show ¬ i + 1 < 1; omega)
  · rw [tf 3 5 (by omega), hkp 3 5 (by decide) (by decide)]; exact a5
  · intro i hi; exact absurd hi (Nat.not_lt_zero i)
  · exact hWM 114 _ (by omega) (fun _ => rfl)
  · exact hWM 115 _ (by omega) (fun _ => rfl)
  · rw [t313]; rfl
  · rw [tf 3 14 (by omega), hkp 3 14 (by decide) (by decide)]; exact a14
  · rw [tf 6 1 (by omega), hkp 6 1 (by decide) (by decide)]; exact t1
  · rw [tf 3 15 (by omega), hkp 3 15 (by decide) (by decide)]; exact a15
  · rw [tf 3 16 (by omega), hkp 3 16 (by decide) (by decide)]; exact a16
  · rw [tf 5 6 (by omega), hkp 5 6 (by decide) (by decide)]; exact c6
  · rw [tf 5 5 (by omega), hkp 5 5 (by decide) (by decide)]; exact c5
  · intro z hz; cases hz
  · rw [tf 4 3 (by omega), hkp 4 3 (by decide) (by decide)]; exact b3
  · intro i hi; exact absurd hi (Nat.not_lt_zero i)
  · exact hWM 125 _ (by omega) (fun _ => rfl)
  · rw [tf 4 12 (by omega), hkp 4 12 (by decide) (by decide)]; exact b12
  · intro i hi; exact absurd hi (Nat.not_lt_zero i)
  · exact hWM 126 _ (by omega) (fun _ => rfl)
  · rw [tf 4 16 (by omega), hkp 4 16 (by decide) (by decide), b16]; exact Int.le_refl _
  · rw [tf 4 18 (by omega), hkp 4 18 (by decide) (by decide)]; exact b18
  · exact hWM 127 _ (by omega) (fun _ => if_neg List.not_mem_nil)
  · rw [tf 6 2 (by omega), hkp 6 2 (by decide) (by decide)]; exact t2
  · rw [tf 6 3 (by omega), hkp 6 3 (by decide) (by decide)]; exact t3
  · intro i hi; exact absurd hi (Nat.not_lt_zero i)
  · rw [tf 6 10 (by omega), hkp 6 10 (by decide) (by decide)]; exact t10
  · intro i hi; exact absurd hi (Nat.not_lt_zero i)
  · rw [tf 6 15 (by omega), hkp 6 15 (by decide) (by decide)]; exact t15
  · rw [tf 6 16 (by omega), hkp 6 16 (by decide) (by decide)]; exact t16
  · rfl
  · rw [tf 2 4 (by omega)]; exact r4
  · rw [tf 2 6 (by omega)]; exact r6
  · have hrem := rem_a0 (l := s.1)
    have n0 : aN (a0 s.1) 0 = s.1.length := rfl
    have n8 : aN (a0 s.1) 8 = s.1.length := rfl
    have hrs : rsv (a0 s.1) = 0 := rfl
    have hO : (aO (a0 s.1)).length = 0 := rfl
    have h416 : τ.1 4 16 = 0 := by rw [tf 4 16 (by omega), hkp 4 16 (by decide) (by decide)]; exact b16
    have h12 : τ.1 1 2 = (L 997 : Int) := by rw [tf 1 2 (by omega)]; exact e12
    have h116 : τ.1 1 16 = (rst ρ).1 1 16 := tf 1 16 (by omega)
    have n3 : aN (a0 s.1) 3 = 0 := rfl
    refine ⟨?_, ?_, ?_, ?_, ?_⟩
    · rw [hjwt, hrs, hrem, n0, hO]; omega
    · rw [hjtp, hrem, n0, n8, h12]; omega
    · rw [h416, hrem, n0]; omega
    · rw [hjwt, hrem, n0]; omega
    · rw [h116, n3]; omega
end JFi
