/-! ===== the reference: an attribute is added ===== -/
section Kad
variable {L : Nat → Nat} {rm nd o : Nat} {σ ρ τ : IS} {g g' : KG} {a a' A : AS} {bs bs' : List Nat} {Q : IS → Prop} {R : Int → IS → Prop} {x y v w : Int} {s t : Str}
theorem plk_1 (h : okq s) : plk s = [pfx s, lcl s] := by unfold plk; rw [if_pos h]
theorem plk_0 (h : ¬ okq s) : plk s = [] := by unfold plk; rw [if_neg h]
theorem sp_K_prefix (hL : KLn L o rm nd) (h : KZ rm nd o σ g) (hv : Kn (gB g) v s) (hnm : ∀ c ∈ s, isNm c = true) (hcap : okq s → kcS (gB g) (pfx s)) (hq1 : okq s → ∀ w τ, Kn (kpS (gB g) (pfx s)) w (pfx s) → KZ rm nd o τ (kpS (gB g) (pfx s), g.2) → frB σ τ → R w τ) (hq0 : ¬ okq s → R (-1) σ) : w_KDoc_prefix L o v R σ := by
  obtain ⟨i, b, e0, i1, i2, i3, i4, i5, i6⟩ := h.st hv
  have lb := hL.1
  unfold w_KDoc_prefix
  refine sp_K_colon hL h hv hnm (fun hok => ?_) (fun hno z hz => ?_)
  · refine WJ_dir ?_
    obtain ⟨k, hk⟩ : ∃ k : Nat, (clk s s.length).1 = (k : Int) := ⟨(clk s s.length).1.toNat, by have := hok.2.1; omega⟩
    have hkl := hok.2.2.1
    have hp : pfx s = s.take k := by
      unfold pfx
      rw [(prf_1 hok).1, hk]
      rfl
    rw [hk, if_neg (by omega)]
    unfold w_KBook_start
    rw [e0, show Int.toNat (i : Int) = i from rfl, i2]
    refine ⟨⟨by omega, by have := lb.2.2.1; omega⟩, ?_⟩
    refine sp_K_bkP (p := b) (n := k) hL h (by omega) rfl rfl ?_ (hcap hok) (fun w τ h1 h2 h3 => hq1 hok w τ h1 h2 h3)
    rw [hp]
    refine List.ext_getElem? (fun q => ?_)
    rw [List.getElem?_take]
    by_cases c : q < k
    · rw [sl_get c, if_pos c, i5 q (by omega), List.getD_eq_getElem?_getD, List.getElem?_eq_getElem (by omega)]
      rfl
    · rw [if_neg c, List.getElem?_eq_none (by rw [sl_ln]; omega)]
  · refine WJ_dir ?_
    rw [if_pos (by omega)]
    exact hq0 hno
theorem sp_K_local (hL : KLn L o rm nd) (h : KZ rm nd o σ g) (hv : Kn (gB g) v s) (hnm : ∀ c ∈ s, isNm c = true) (hcap : okq s → kcS (gB g) (lcl s)) (hq1 : okq s → ∀ w τ, Kn (kpS (gB g) (lcl s)) w (lcl s) → KZ rm nd o τ (kpS (gB g) (lcl s), g.2) → frB σ τ → R w τ) (hq0 : ¬ okq s → R v σ) : w_KDoc_local L o v R σ := by
  obtain ⟨i, b, e0, i1, i2, i3, i4, i5, i6⟩ := h.st hv
  have lb := hL.1
  unfold w_KDoc_local
  refine sp_K_colon hL h hv hnm (fun hok => ?_) (fun hno z hz => ?_)
  · refine WJ_dir ?_
    obtain ⟨k, hk⟩ : ∃ k : Nat, (clk s s.length).1 = (k : Int) := ⟨(clk s s.length).1.toNat, by have := hok.2.1; omega⟩
    have hkl := hok.2.2.1
    have hp : lcl s = s.drop (k + 1) := by
      rw [(prf_1 hok).2, hk]
      rfl
    rw [hk, if_neg (by omega)]
    unfold w_KBook_start w_KBook_length
    rw [e0, show Int.toNat (i : Int) = i from rfl, i2]
    dsimp only
    rw [i3]
    refine ⟨⟨by omega, by have := lb.2.2.1; omega⟩, ⟨by omega, by omega⟩, ⟨by omega, by omega⟩, ⟨by omega, by have := lb.2.2.2.1; omega⟩, ⟨by omega, by omega⟩, ⟨by omega, by omega⟩, ?_⟩
    refine sp_K_bkP (p := b + k + 1) (n := s.length - k - 1) hL h (by omega) (by omega) (by omega) ?_ (hcap hok) (fun w τ h1 h2 h3 => hq1 hok w τ h1 h2 h3)
    rw [hp]
    refine List.ext_getElem? (fun q => ?_)
    rw [List.getElem?_drop]
    by_cases c : q < s.length - k - 1
    · rw [sl_get c, show b + k + 1 + q = b + (k + 1 + q) by omega, i5 _ (by omega), List.getD_eq_getElem?_getD, List.getElem?_eq_getElem (by omega)]
      rfl
    · rw [List.getElem?_eq_none (by rw [sl_ln]; omega), List.getElem?_eq_none (by omega)]
  · refine WJ_dir ?_
    rw [if_pos (by omega)]
    exact hq0 hno
theorem lcl_0 (h : ¬ okq s) : lcl s = s := by
  by_cases c : (clk s s.length).2 = 0
  · exact (prf_0 c).2
  · exact (prf_n c h).2
theorem nb_small {n : Nat} (h : n ≤ 9) : nb (n : Int) = (n : Int) := by
  have : n = 0 ∨ n = 1 ∨ n = 2 ∨ n = 3 ∨ n = 4 ∨ n = 5 ∨ n = 6 ∨ n = 7 ∨ n = 8 ∨ n = 9 := by omega
  rcases this with rfl | rfl | rfl | rfl | rfl | rfl | rfl | rfl | rfl | rfl <;> decide
set_option maxHeartbeats 2000000 in
theorem sp_K_add {at_ : List Att} {ad : List ADc} {val : Str} {d : Option Nat} (hL : KLn L o rm nd) (h : KVx rm nd o σ g A bs) (hA : KAt o σ (gB g) (gP g) ad at_) (hv : Kn (gB g) v s) (hnm : ∀ c ∈ s, isNm c = true) (hst : Kpc (gP g) x val) (hy : y = (val.length : Int)) (hw : w = (atT ad (s, val, d) : Int)) (ht9 : atT ad (s, val, d) ≤ 9) (hroom : at_.length < L (rfo o 8)) (hcap : kcL (gB g) (plk s)) (hq : ∀ τ, KVx rm nd o τ (kpL (gB g) (plk s), g.2) A bs → KAt o τ (kpL (gB g) (plk s)) (gP g) ad (at_ ++ [(s, val, d)]) → (∀ p k, ¬ ((p = 13 ∧ (k = 1 ∨ k = 6)) ∨ (p = o ∧ k = 14)) → τ.1 p k = σ.1 p k) → (∀ r, ¬ ((211 ≤ r ∧ r ≤ 215) ∨ (224 + 14 * (o - 14) ≤ r ∧ r ≤ 229 + 14 * (o - 14))) → τ.2 r = σ.2 r) → Q τ) : w_KReader_add L v x y w Q σ := by
  have ho := hL.2.1
  have r1 := rf_1 ho
  have r8 := rf_8 ho (k := 8) (by omega) (by omega)
  have r9 := rf_8 ho (k := 9) (by omega) (by omega)
  have r10 := rf_8 ho (k := 10) (by omega) (by omega)
  have r11 := rf_8 ho (k := 11) (by omega) (by omega)
  have r12 := rf_8 ho (k := 12) (by omega) (by omega)
  have r13 := rf_8 ho (k := 13) (by omega) (by omega)
  have l8 := hL.2.2.2.2.2.2.2.2.2.2.2.2.2.2.2.2.2.1
  have l9 := l8.1 9 (by omega) (by omega)
  have l10 := l8.1 10 (by omega) (by omega)
  have l11 := l8.1 11 (by omega) (by omega)
  have l12 := l8.1 12 (by omega) (by omega)
  have l13 := l8.1 13 (by omega) (by omega)
  have l8m := l8.2.2
  obtain ⟨d1, d2⟩ := h.dy ho
  obtain ⟨hA1, hA2⟩ := id hA
  have d2' : dyD (o : Int) := by rw [← d1]; exact d2
  unfold w_KReader_add
  rw [d1, show Int.toNat (o : Int) = o from rfl, hA1, show Int.toNat (at_.length : Int) = at_.length from rfl]
  refine ⟨d2', ⟨by omega, by omega⟩, ⟨by omega, by omega⟩, ⟨by omega, by omega⟩, ⟨by omega, by omega⟩, ?_⟩
  generalize hs1 : pr (pr (pr (pr σ (rfo o 8) at_.length v) (rfo o 9) at_.length x) (rfo o 10) at_.length y) (rfo o 11) at_.length (nb w) = s1
  have s1F : s1.1 = σ.1 := by rw [← hs1]; rfl
  have s1R : ∀ r, ¬ (224 + 14 * (o - 14) ≤ r ∧ r ≤ 227 + 14 * (o - 14)) → s1.2 r = σ.2 r := fun r z => by funext jj; rw [← hs1, pr_2, if_neg (by omega), pr_2, if_neg (by omega), pr_2, if_neg (by omega), pr_2, if_neg (by omega)]
  have s8 : ∀ jj, s1.2 (rfo o 8) jj = if jj = at_.length then v else σ.2 (rfo o 8) jj := fun jj => by
    rw [← hs1, pr_2, if_neg (by omega), pr_2, if_neg (by omega), pr_2, if_neg (by omega), pr_2]
    by_cases c : jj = at_.length
    · rw [if_pos ⟨rfl, c⟩, if_pos c]
    · rw [if_neg (fun z => c z.2), if_neg c]
  have s9 : ∀ jj, s1.2 (rfo o 9) jj = if jj = at_.length then x else σ.2 (rfo o 9) jj := fun jj => by
    rw [← hs1, pr_2, if_neg (by omega), pr_2, if_neg (by omega), pr_2]
    by_cases c : jj = at_.length
    · rw [if_pos ⟨rfl, c⟩, if_pos c]
    · rw [if_neg (fun z => c z.2), if_neg c, pr_2, if_neg (by omega)]
  have s10 : ∀ jj, s1.2 (rfo o 10) jj = if jj = at_.length then y else σ.2 (rfo o 10) jj := fun jj => by
    rw [← hs1, pr_2, if_neg (by omega), pr_2]
    by_cases c : jj = at_.length
    · rw [if_pos ⟨rfl, c⟩, if_pos c]
    · rw [if_neg (fun z => c z.2), if_neg c, pr_2, if_neg (by omega), pr_2, if_neg (by omega)]
  have s11 : ∀ jj, s1.2 (rfo o 11) jj = if jj = at_.length then nb w else σ.2 (rfo o 11) jj := fun jj => by
    rw [← hs1, pr_2]
    by_cases c : jj = at_.length
    · rw [if_pos ⟨rfl, c⟩, if_pos c]
    · rw [if_neg (fun z => c z.2), if_neg c, pr_2, if_neg (by omega), pr_2, if_neg (by omega), pr_2, if_neg (by omega)]
  have hV1 : KVx rm nd o s1 g A bs := h.dep ho (fun pp kk _ => by rw [s1F]) (fun r z => s1R r (by omega))
  -- the end
  have fin_ : ∀ (τ2 : IS) (w1 w2 : Int), KZ rm nd o τ2 (kpL (gB g) (plk s), g.2) → KPx (kpL (gB g) (plk s)) w1 s → Kn (kpL (gB g) (plk s)) w2 (lcl s) → (∀ p k, ¬ (p = 13 ∧ (k = 1 ∨ k = 6)) → τ2.1 p k = σ.1 p k) → (∀ r, ¬ (211 ≤ r ∧ r ≤ 215) → r ≠ rfo o 12 → τ2.2 r = s1.2 r) → (∀ jj, τ2.2 (rfo o 12) jj = if jj = at_.length then w1 else σ.2 (rfo o 12) jj) → Q (pf (pr τ2 (rfo o 13) at_.length w2) o 14 ((at_.length : Int) + 1)) := fun τ2 w1 w2 q1 q2 q3 q4 q5 q6 => by
    generalize hs3 : pf (pr τ2 (rfo o 13) at_.length w2) o 14 ((at_.length : Int) + 1) = s3
    have F3 : ∀ p k, ¬ ((p = 13 ∧ (k = 1 ∨ k = 6)) ∨ (p = o ∧ k = 14)) → s3.1 p k = σ.1 p k := fun p k z => by rw [← hs3, pf_1, if_neg (by omega), pr_1]; exact q4 p k (by omega)
    have R3 : ∀ r, ¬ ((211 ≤ r ∧ r ≤ 215) ∨ (224 + 14 * (o - 14) ≤ r ∧ r ≤ 229 + 14 * (o - 14))) → s3.2 r = σ.2 r := fun r z => by
      have : s3.2 r = τ2.2 r := by funext jj; rw [← hs3, pf_2, pr_2, if_neg (by omega)]
      rw [this, q5 r (by omega) (by omega), s1R r (by omega)]
    have Rk : ∀ r, r ≠ rfo o 13 → s3.2 r = τ2.2 r := fun r z => by funext jj; rw [← hs3, pf_2, pr_2, if_neg (fun y => z y.1)]
    have hkle : kle (gB g) (kpL (gB g) (plk s)) := kpL_pre
    refine hq s3 ⟨?_, ?_, ?_, ?_, ?_⟩ ?_ F3 R3
    · exact q1.dep ho (fun p k z => by rw [← hs3, pf_1, if_neg (by omega), pr_1]) (fun r z => Rk r (by omega))
    · exact h.2.1.dep hkle cle.refl (F3 16 32 (by omega)) (fun r z1 z2 => R3 r (by omega))
    · exact h.2.2.1.dep (fun k z => F3 16 k (by omega)) (R3 _ (by omega))
    · exact h.2.2.2.1.dep hkle (F3 16 20 (by omega)) (F3 16 24 (by omega))
    · rw [F3 16 3 (by omega)]; exact h.2.2.2.2
    · refine ⟨by rw [← hs3, pf_eq, List.length_append, List.length_singleton]; omega, fun i hi => ?_⟩
      rw [List.length_append, List.length_singleton] at hi
      rw [Rk (rfo o 8) (by omega), Rk (rfo o 9) (by omega), Rk (rfo o 10) (by omega), Rk (rfo o 11) (by omega), Rk (rfo o 12) (by omega), q5 (rfo o 8) (by omega) (by omega), q5 (rfo o 9) (by omega) (by omega), q5 (rfo o 10) (by omega) (by omega), q5 (rfo o 11) (by omega) (by omega), q6, s8, s9, s10, s11, getD_snoc]
      have e13 : s3.2 (rfo o 13) i = if i = at_.length then w2 else σ.2 (rfo o 13) i := by
        rw [← hs3, pf_2, pr_2]
        by_cases c : i = at_.length
        · rw [if_pos ⟨rfl, c⟩, if_pos c]
        · rw [if_neg (fun z => c z.2), if_neg c, q5 (rfo o 13) (by omega) (by omega), s1R (rfo o 13) (by omega)]
      rw [e13]
      by_cases c : i = at_.length
      · simp only [if_pos c]
        rw [if_neg (by omega)]
        refine ⟨hv.kpL, hst, hy, ?_, q2, q3⟩
        rw [hw, nb_small ht9]
      · simp only [if_neg c]
        rw [if_pos (by omega)]
        obtain ⟨b1', b2, b3, b4, b5, b6⟩ := hA2 i (by omega)
        exact ⟨b1'.kpL, b2, b3, b4, b5.le hkle, b6.kpL⟩
  by_cases hok : okq s
  · rw [plk_1 hok] at hcap fin_
    refine sp_K_prefix hL hV1.1 hv hnm (fun _ => hcap.1) (fun _ w1 τ1 h1 h2 h3 => ?_) (fun z => absurd hok z)
    have t1F : ∀ p k, ¬ (p = 13 ∧ (k = 1 ∨ k = 6)) → τ1.1 p k = σ.1 p k := fun p k z => by rw [h3.1 p k z, s1F]
    have t1R : ∀ r, ¬ (211 ≤ r ∧ r ≤ 215) → τ1.2 r = s1.2 r := fun r z => funext (fun jj => h3.2 r jj (by omega))
    rw [t1F 16 2 (by omega), d1, show Int.toNat (o : Int) = o from rfl]
    refine ⟨⟨by omega, by omega⟩, d2', ?_⟩
    generalize hs2 : pr τ1 (rfo o 12) at_.length w1 = s2
    have s2F : s2.1 = τ1.1 := by rw [← hs2]; rfl
    have s2R : ∀ r, r ≠ rfo o 12 → s2.2 r = τ1.2 r := fun r z => by funext jj; rw [← hs2, pr_2, if_neg (fun y => z y.1)]
    have hZ2 : KZ rm nd o s2 (kpS (gB g) (pfx s), g.2) := h2.dep ho (fun p k _ => by rw [s2F]) (fun r z => s2R r (by omega))
    refine sp_K_local hL hZ2 hv.kp hnm (fun _ => hcap.2.1) (fun _ w2 τ2 h4 h5 h6 => ?_) (fun z => absurd hok z)
    have t2F : ∀ p k, ¬ (p = 13 ∧ (k = 1 ∨ k = 6)) → τ2.1 p k = σ.1 p k := fun p k z => by rw [h6.1 p k z, s2F]; exact t1F p k z
    have t2R : ∀ r, ¬ (211 ≤ r ∧ r ≤ 215) → τ2.2 r = s2.2 r := fun r z => funext (fun jj => h6.2 r jj (by omega))
    rw [t2F 16 2 (by omega), d1, show Int.toNat (o : Int) = o from rfl, t2F o 14 (by omega), hA1]
    refine ⟨⟨by omega, by omega⟩, d2', ⟨by omega, by omega⟩, fin_ τ2 w1 w2 h5 (Or.inl ⟨hok, h1.kp⟩) h4 t2F (fun r z1 z2 => by rw [t2R r z1, s2R r z2, t1R r z1]) (fun jj => ?_)⟩
    rw [t2R _ (by omega), ← hs2, pr_2]
    by_cases c : jj = at_.length
    · rw [if_pos ⟨rfl, c⟩, if_pos c]
    · rw [if_neg (fun z => c z.2), if_neg c, t1R _ (by omega), s1R _ (by omega)]
  · rw [plk_0 hok] at hcap fin_
    refine sp_K_prefix hL hV1.1 hv hnm (fun z => absurd z hok) (fun z => absurd z hok) (fun _ => ?_)
    rw [s1F, d1, show Int.toNat (o : Int) = o from rfl]
    refine ⟨⟨by omega, by omega⟩, d2', ?_⟩
    generalize hs2 : pr s1 (rfo o 12) at_.length (-1) = s2
    have s2F : s2.1 = s1.1 := by rw [← hs2]; rfl
    have s2R : ∀ r, r ≠ rfo o 12 → s2.2 r = s1.2 r := fun r z => by funext jj; rw [← hs2, pr_2, if_neg (fun y => z y.1)]
    have hZ2 : KZ rm nd o s2 g := hV1.1.dep ho (fun p k _ => by rw [s2F]) (fun r z => s2R r (by omega))
    refine sp_K_local hL hZ2 hv hnm (fun z => absurd z hok) (fun z => absurd z hok) (fun _ => ?_)
    rw [s2F, s1F, d1, show Int.toNat (o : Int) = o from rfl, hA1]
    refine ⟨⟨by omega, by omega⟩, d2', ⟨by omega, by omega⟩, fin_ s2 (-1) v hZ2 (Or.inr ⟨hok, rfl⟩) (by rw [lcl_0 hok]; exact hv) (fun p k _ => by rw [s2F, s1F]) (fun r _ z2 => s2R r z2) (fun jj => ?_)⟩
    rw [← hs2, pr_2]
    by_cases c : jj = at_.length
    · rw [if_pos ⟨rfl, c⟩, if_pos c]
    · rw [if_neg (fun z => c z.2), if_neg c, s1R _ (by omega)]
end Kad
