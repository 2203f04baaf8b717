/-! ===== items of the class: the names of a type, kept ===== -/
section JI17
variable {L : Nat → Nat} {rm nd : Nat} {σ τ ρ ρ' : IS} {a A : AS} {Q : IS → Prop}
theorem RJ.wds (hln : JLn L rm nd) (h : RJ L rm nd σ a) (hf : frW σ τ) (hS : SI L τ) (hg : sgr σ τ) : RJ L rm nd τ a := by
  have hA : ∀ (F : Nat → Nat → Bool) (R : Nat → Bool), (∀ o k, F o k = true → ¬ (o = 1 ∧ (k = 13 ∨ k = 14))) → (∀ r, R r = true → r < 102 ∨ 106 < r) → ag F R σ τ := fun F R hF hR => ⟨fun o k hk => hf.1 o k (hF o k hk), fun r hr => hf.2 r (hR r hr)⟩
  have hZ : JZ L rm nd τ := h.1.dep hS hg (jch_row h.1.2.1 (hf.2 101 (by omega))) (rng_of h.1.2.2.2.2.2.1 (fun j _ _ => hf.1 2 j (by omega))) (hA _ _ (fun o k hk => by simp [fZ] at hk; omega) (fun r hr => by simp [rZ] at hr; omega))
  exact h.mk' hln hZ hg (Or.inl ⟨hA _ _ (fun o k hk => by simp [fFr] at hk; omega) (fun r hr => by simp [rFr] at hr; omega), rfl, rfl⟩) (Or.inl ⟨hA _ _ (fun o k hk => by simp [fEn] at hk; omega) (fun r hr => by simp [rEn] at hr; omega), rfl, rfl⟩) (Or.inl ⟨hA _ _ (fun o k hk => by simp [fNu] at hk; omega) (fun r hr => by simp [rNo] at hr), rfl⟩) (Or.inl ⟨hA _ _ (fun o k hk => by simp [fRo] at hk; omega) (fun r hr => by simp [rNo] at hr), rfl⟩) (Or.inl ⟨hA _ _ (fun o k hk => by simp [fEd] at hk; omega) (fun r hr => by simp [rEd] at hr; omega), rfl⟩) (Or.inl ⟨hA _ _ (fun o k hk => by simp [fAd] at hk; omega) (fun r hr => by simp [rAd] at hr; omega), rfl⟩) (Or.inl ⟨hA _ _ (fun o k hk => by simp [fNt] at hk; omega) (fun r hr => by simp [rNt] at hr; omega), rfl⟩) (Or.inl ⟨hA _ _ (fun o k hk => by simp [fEl] at hk; omega) (fun r hr => by simp [rEl] at hr; omega), rfl, rfl⟩) (Or.inl ⟨hA _ _ (fun o k hk => by simp [fAt] at hk; omega) (fun r hr => by simp [rAt] at hr; omega), rfl⟩) (Or.inl ⟨hA _ _ (fun o k hk => by simp [fSt] at hk; omega) (fun r hr => by simp [rSt] at hr; omega), rfl⟩) ⟨by rw [hf.1 2 4 (by omega)]; exact h.2.2.2.2.2.2.2.2.2.2.2.1, by rw [hf.1 2 6 (by omega)]; exact h.2.2.2.2.2.2.2.2.2.2.2.2⟩
/-- a state in which names are kept: as pictured, but for the place and the names behind b -/
def AP (L : Nat → Nat) (rm nd : Nat) (A : AS) (P : Int) (b : Nat) (ls : List Str) (ρ : IS) : Prop := RJ L rm nd (pf (pf ρ 4 16 (b : Int)) 2 2 P) A ∧ ρ.1 4 16 = (b : Int) + (ls.length : Int) ∧ ∀ k, k < ls.length → Jn ρ (ρ.2 124 (b + k)) (ls.getD k [])
theorem AP.si {P : Int} {b : Nat} {ls : List Str} (h : AP L rm nd A P b ls ρ) : SI L ρ ∧ sgr (pf (pf ρ 4 16 (b : Int)) 2 2 P) ρ := by
  have h0 := h.1.1.1
  have e3 : (pf (pf ρ 4 16 (b : Int)) 2 2 P).1 1 3 = ρ.1 1 3 := by rw [pf_no (by decide), pf_no (by decide)]
  exact SI_of h0 (by rw [pf_no (by decide), pf_no (by decide)]) (by have := h0.1; rw [e3] at this; rw [e3]; omega) (fun r _ _ => rfl) (fun i _ => rfl)
theorem AP.gs {P : Int} {b : Nat} {ls : List Str} (h : AP L rm nd A P b ls ρ) : sgr ρ (pf (pf ρ 4 16 (b : Int)) 2 2 P) :=
  ((SI_pf (o := 4) (k := 16) (x := (b : Int)) h.si.1 (by omega)).2).trans (SI_pf (o := 2) (k := 2) (x := P) (SI_pf (o := 4) (k := 16) (x := (b : Int)) h.si.1 (by omega)).1 (by omega)).2
theorem AP.js {P : Int} {b e : Nat} {ls : List Str} (h : AP L rm nd A P b ls ρ) (hln : JLn L rm nd) (h3 : ρ.1 2 3 = (e : Int)) (he : e ≤ jtp ρ) : JS L ρ e := by
  have hj := h.si.1.jtp_le
  have h9 : L 101 < 1000000 := hln.1.2.2.2.2.2.2.2
  have h4 := h.1.2.2.2.2.2.2.2.2.2.2.2.1
  rw [pf_nk (by decide), pf_no (by decide)] at h4
  refine ⟨h3, by omega, h9, h4, fun j h1 h2 => ?_⟩
  have := h.1.1.2.2.2.2.2.1 j h1 h2
  rw [pf_nk (by omega), pf_no (by decide)] at this
  exact this
/-- the reader went on -/
theorem AP.mv {P : Int} {b e q : Nat} {ls : List Str} (hln : JLn L rm nd) (h : AP L rm nd A P b ls ρ) (hj : jp e 0 ρ (some q) ρ') : AP L rm nd A P b ls ρ' := by
  obtain ⟨c1, c2, c3, c4⟩ := hj.cells
  obtain ⟨h1, h2, h3⟩ := h
  have hg : sgr ρ ρ' := (SI_of (AP.si ⟨h1, h2, h3⟩).1 (σ' := ρ') (c1 1 14 (by omega) (by omega)) (by rw [c1 1 3 (by omega) (by omega)]; have := (AP.si ⟨h1, h2, h3⟩).1.1; omega) (fun r _ _ => by rw [c2]) (fun i _ => by rw [c2])).2
  refine ⟨?_, by rw [c1 4 16 (by omega) (by omega)]; exact h2, fun k hk => by rw [c2]; exact (h3 k hk).gr hg⟩
  have hgo := h1.go (k := 0) (τ := pf (pf ρ' 4 16 (b : Int)) 2 2 P) hln (Nat.zero_le _) (fun o j x1 x2 => by
    rw [pf_1, pf_1, pf_1, pf_1]
    by_cases y1 : o = 2 ∧ j = 2
    · rw [if_pos y1, if_pos y1]
    · rw [if_neg y1, if_neg y1]
      by_cases y2 : o = 4 ∧ j = 16
      · rw [if_pos y2, if_pos y2]
      · rw [if_neg y2, if_neg y2]; exact c1 o j x1 x2) (by show ρ'.2 = ρ.2; exact c2) (by rw [pf_eq, pf_eq]; omega) (rng_of c3 (fun j x1 x2 => by rw [pf_nk (by omega), pf_no (by decide)]))
  have e0 : adv A 0 = A := by
    obtain ⟨p, g, t, hF, -⟩ := h1.at hln
    rw [adv_of hF, List.drop_zero, ← hF]
    rfl
  rw [e0] at hgo
  exact hgo.1
/-- a word more -/
theorem AP.int {Q : Int → IS → Prop} {P : Int} {b s n : Nat} {ls : List Str} {x1 x2 : Int} (hln : JLn L rm nd) (h : AP L rm nd A P b ls ρ) (hcap : jw ρ < L 102) (hb : s + n ≤ jtp ρ) (hx1 : x1 = (s : Int)) (hx2 : x2 = (n : Int)) (hq : ∀ x ρ', AP L rm nd A P b ls ρ' → sgr ρ ρ' → Jn ρ' x (sl (ρ.2 101) s n) → jw ρ' ≤ jw ρ + 1 → jtp ρ' = jtp ρ → frW ρ ρ' → Q x ρ') : w_Store_intern L x1 x2 Q ρ := by
  have hS := h.si
  have hj := hS.1.jtp_le
  have hjw := hS.1.jw_le
  refine sp_Store_intern hS.1 hln.1 ⟨by omega, by omega, by omega⟩ (fun _ => by omega) (fun x ρ' hin => ?_)
  rw [show x1.toNat = s by omega, show x2.toNat = n by omega] at hin
  obtain ⟨hg, hJn⟩ := hin.gr hS.1
  obtain ⟨i1, -, -, i4, -, i6⟩ := hin
  have hfr : frW ρ ρ' := ⟨fun o k hk => i4.1 o k hk, fun r hr => funext (fun i => i4.2 r i hr)⟩
  have hjw2 : jw ρ' ≤ jw ρ + 1 := by
    have := i1.jw_le
    rcases i6 with h6 | h6
    · have := h6.2.1; omega
    · have := h6.2.1; omega
  have s1 := SI_pf (o := 4) (k := 16) (x := (b : Int)) i1 (by omega)
  have s2 := SI_pf (o := 2) (k := 2) (x := P) s1.1 (by omega)
  refine hq x ρ' ⟨?_, by rw [hfr.1 4 16 (by omega)]; exact h.2.1, fun k hk => by rw [hfr.2 124 (by omega)]; exact (h.2.2 k hk).gr hg⟩ hg hJn hjw2 (by unfold jtp; rw [hfr.1 1 3 (by omega)]) hfr
  refine h.1.wds hln ⟨fun o k hk => ?_, fun r hr => by show ρ'.2 r = ρ.2 r; exact hfr.2 r hr⟩ s2.1 ((hS.2.trans hg).trans (s1.2.trans s2.2))
  rw [pf_1, pf_1, pf_1, pf_1]
  by_cases y1 : o = 2 ∧ k = 2
  · rw [if_pos y1, if_pos y1]
  · rw [if_neg y1, if_neg y1]
    by_cases y2 : o = 4 ∧ k = 16
    · rw [if_pos y2, if_pos y2]
    · rw [if_neg y2, if_neg y2]; exact hfr.1 o k hk
/-- a name more -/
theorem AP.lst {P x : Int} {b : Nat} {ls : List Str} {s : Str} (hln : JLn L rm nd) (h : AP L rm nd A P b ls ρ) (hx : Jn ρ x s) (hcap : b + ls.length < L 124) (hb : b + ls.length ≤ 200000) (hq : ∀ ρ', AP L rm nd A P b (ls ++ [s]) ρ' → sgr ρ ρ' → jw ρ' = jw ρ → jtp ρ' = jtp ρ → (∀ o k, ¬ (o = 4 ∧ k = 16) → ρ'.1 o k = ρ.1 o k) → (∀ r, r ≠ 124 → ρ'.2 r = ρ.2 r) → Q ρ') : w_Declared_addListed L x Q ρ := by
  have hS := h.si
  unfold w_Declared_addListed
  refine WJ_dir ?_
  dsimp only
  rw [h.2.1, if_pos (by omega), show ((b : Int) + (ls.length : Int)).toNat = b + ls.length by omega]
  refine ⟨⟨by omega, by omega⟩, ⟨by omega, by omega⟩, ?_⟩
  generalize hφ : pf (pr ρ 124 (b + ls.length) x) 4 16 ((b : Int) + (ls.length : Int) + 1) = φ
  have hf : ∀ o k, ¬ (o = 4 ∧ k = 16) → φ.1 o k = ρ.1 o k := fun o k hk => by rw [← hφ, pf_1, if_neg hk, pr_1]
  have hr : ∀ r, r ≠ 124 → φ.2 r = ρ.2 r := fun r hr => by rw [← hφ]; funext i; rw [pf_2, pr_2, if_neg (by omega)]
  obtain ⟨hS2, hg⟩ := SI_of hS.1 (σ' := φ) (hf 1 14 (by omega)) (by rw [hf 1 3 (by omega)]; have := hS.1.1; omega) (fun r _ _ => hr r (by omega)) (fun i _ => by rw [hr 101 (by decide)])
  refine hq φ ⟨?_, by rw [← hφ, pf_eq, List.length_append, List.length_singleton]; omega, fun k hk => ?_⟩ hg (by unfold jw; rw [hf 1 14 (by omega)]) (by unfold jtp; rw [hf 1 3 (by omega)]) hf hr
  · -- the picture has no cell behind b
    have hβ : ∀ o k, (pf (pf φ 4 16 (b : Int)) 2 2 P).1 o k = (pf (pf ρ 4 16 (b : Int)) 2 2 P).1 o k := fun o k => by
      rw [pf_1, pf_1, pf_1, pf_1]
      by_cases y1 : o = 2 ∧ k = 2
      · rw [if_pos y1, if_pos y1]
      · rw [if_neg y1, if_neg y1]
        by_cases y2 : o = 4 ∧ k = 16
        · rw [if_pos y2, if_pos y2]
        · rw [if_neg y2, if_neg y2]; exact hf o k y2
    have hβr : ∀ r, r ≠ 124 → (pf (pf φ 4 16 (b : Int)) 2 2 P).2 r = (pf (pf ρ 4 16 (b : Int)) 2 2 P).2 r := fun r hr' => hr r hr'
    obtain ⟨hZ, hgβ⟩ := h.1.1.out (σ' := pf (pf φ 4 16 (b : Int)) 2 2 P) (fun o k _ => hβ o k) (fun r hr' => hβr r (by omega))
    have hA : ∀ (F : Nat → Nat → Bool) (R : Nat → Bool), R 124 = false → ag F R (pf (pf ρ 4 16 (b : Int)) 2 2 P) (pf (pf φ 4 16 (b : Int)) 2 2 P) := fun F R y => ⟨fun o k _ => hβ o k, fun r hr' => hβr r (by rintro rfl; rw [y] at hr'; cases hr')⟩
    refine h.1.mk' hln hZ hgβ (Or.inl ⟨hA _ _ rfl, rfl, rfl⟩) (Or.inl ⟨hA _ _ rfl, rfl, rfl⟩) (Or.inl ⟨hA _ _ rfl, rfl⟩) (Or.inl ⟨hA _ _ rfl, rfl⟩) (Or.inl ⟨hA _ _ rfl, rfl⟩) (Or.inr ?_) (Or.inl ⟨hA _ _ rfl, rfl⟩) (Or.inl ⟨hA _ _ rfl, rfl, rfl⟩) (Or.inl ⟨hA _ _ rfl, rfl⟩) (Or.inl ⟨hA _ _ rfl, rfl⟩) ⟨by rw [hβ]; exact h.1.2.2.2.2.2.2.2.2.2.2.2.1, by rw [hβ]; exact h.1.2.2.2.2.2.2.2.2.2.2.2.2⟩
    obtain ⟨a1, a2, a3, a4⟩ := h.1.2.2.2.2.2.2.1
    have e16 : (pf (pf ρ 4 16 (b : Int)) 2 2 P).1 4 16 = (b : Int) := by rw [pf_no (by decide), pf_eq]
    refine ⟨by rw [hβ]; exact a1, fun i hi => ?_, a3.gr hgβ hZ.1 hln.1 (hβr 126 (by decide)), by rw [hβ]; exact a4⟩
    obtain ⟨b1, b2, b3, b4, b5, ⟨c, c1, c2, c3⟩, b7⟩ := a2 i hi
    rw [hβr 148 (by decide), hβr 118 (by decide), hβr 119 (by decide), hβr 120 (by decide), hβr 121 (by decide), hβr 122 (by decide), hβr 123 (by decide), hβ]
    refine ⟨b1.gr hgβ, b2, b3, fun z => (b4 z).gr hgβ, b5, ⟨c, c1, c2, fun k hk => ?_⟩, b7⟩
    rw [e16] at c2
    have : (pf (pf φ 4 16 (b : Int)) 2 2 P).2 124 (c + k) = (pf (pf ρ 4 16 (b : Int)) 2 2 P).2 124 (c + k) := by
      show φ.2 124 (c + k) = ρ.2 124 (c + k)
      rw [← hφ, pf_2, pr_2, if_neg (by omega)]
    rw [this]
    exact (c3 k hk).gr hgβ
  · rw [List.length_append, List.length_singleton] at hk
    rw [getD_snoc]
    by_cases c : k < ls.length
    · rw [if_pos c]
      have : φ.2 124 (b + k) = ρ.2 124 (b + k) := by rw [← hφ, pf_2, pr_2, if_neg (by omega)]
      rw [this]
      exact (h.2.2 k c).gr hg
    · rw [if_neg c, if_pos (by omega), ← hφ, pf_2, pr_2, if_pos ⟨rfl, by omega⟩, hφ]
      exact hx.gr hg
end JI17
