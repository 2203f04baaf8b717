/-! ===== items of the reference: references, the end of a text ===== -/
section Kre
variable {L : Nat → Nat} {rm nd o : Nat} {σ τ : IS} {g g' : KG} {a a' A : AS} {Q : IS → Prop} {R : Int → IS → Prop} {T : Nat → Int} {x : Int}
theorem RK.n0 {v : Nat} (hL : KLn L o rm nd) (h : RK rm nd o σ g A) : RK rm nd o (pf σ 16 25 (v : Int)) g (sN A 0 v) := by
  have ho := hL.2.1
  have hF : ∀ p k, ¬ (p = 16 ∧ k = 25) → (pf σ 16 25 (v : Int)).1 p k = σ.1 p k := fun p k x => by rw [pf_1, if_neg x]
  have hR : ∀ r : Nat, ¬ (r < 0) → (pf σ 16 25 (v : Int)).2 r = σ.2 r := fun _ _ => rfl
  obtain ⟨n1, n2, n3, n4, n5, n6, n7⟩ := h.2.2.2.1
  exact (RK.mk' ho h kle.refl cle.refl cle.refl (h.1.dep ho (fun p k x => hF p k (by omega)) (fun r x => hR r (by omega))) (Or.inl ⟨fun k x y => hF 16 k (by omega), fun r x y => hR r (by omega), rfl⟩) (Or.inl ⟨hF 16 32 (by omega), fun r x y => hR r (by omega), rfl, rfl⟩) (Or.inr ⟨pf_eq, n2, n3, n4, n5, n6, n7⟩) (Or.inl ⟨hF 16 20 (by omega), hF 16 24 (by omega), rfl⟩) (Or.inl ⟨hF 16 40 (by omega), hF 16 47 (by omega), hF 16 58 (by omega), fun r x => hR r (by omega), rfl⟩) (Or.inl ⟨hF 16 56 (by omega), hF 16 58 (by omega), fun r x y => hR r (by omega), rfl⟩) (Or.inl ⟨hF 16 34 (by omega), hR 187 (by omega), rfl⟩) (Or.inl ⟨hF o 7 (by omega), fun k x y => hR _ (by have := rf_3 ho x y; omega), rfl⟩) (Or.inl ⟨hF 16 64 (by omega), hF 16 66 (by omega), fun r x y => hR r (by omega), hR 181 (by omega), rfl, rfl, rfl⟩) (Or.inl ⟨hF o 14 (by omega), fun k x y => hR _ (by have := rf_8 ho x y; omega), rfl, rfl⟩) (Or.inl ⟨fun k x => hF o k (by omega), hR _ (by have := rf_1 ho; omega), rfl, rfl, rfl⟩) (hF 16 3 (by omega)) (Or.inl ⟨hF 16 18 (by omega), hR 178 (by omega), rfl, rfl, rfl, hF 16 47 (by omega), hF 16 58 (by omega), rfl, rfl⟩))
theorem RK.n1 {v : Nat} (hL : KLn L o rm nd) (h : RK rm nd o σ g A) : RK rm nd o σ g (sN A 1 v) := by
  have ho := hL.2.1
  have hF : ∀ p k : Nat, ¬ (p = 16 ∧ k = 100) → σ.1 p k = σ.1 p k := fun p k x => rfl
  have hR : ∀ r : Nat, ¬ (r < 0) → σ.2 r = σ.2 r := fun _ _ => rfl
  obtain ⟨n1, n2, n3, n4, n5, n6, n7⟩ := h.2.2.2.1
  exact (RK.mk' ho h kle.refl cle.refl cle.refl (h.1.dep ho (fun p k x => hF p k (by omega)) (fun r x => hR r (by omega))) (Or.inl ⟨fun k x y => hF 16 k (by omega), fun r x y => hR r (by omega), rfl⟩) (Or.inl ⟨hF 16 32 (by omega), fun r x y => hR r (by omega), rfl, rfl⟩) (Or.inr ⟨n1, n2, n3, n4, n5, n6, n7⟩) (Or.inl ⟨hF 16 20 (by omega), hF 16 24 (by omega), rfl⟩) (Or.inl ⟨hF 16 40 (by omega), hF 16 47 (by omega), hF 16 58 (by omega), fun r x => hR r (by omega), rfl⟩) (Or.inl ⟨hF 16 56 (by omega), hF 16 58 (by omega), fun r x y => hR r (by omega), rfl⟩) (Or.inl ⟨hF 16 34 (by omega), hR 187 (by omega), rfl⟩) (Or.inl ⟨hF o 7 (by omega), fun k x y => hR _ (by have := rf_3 ho x y; omega), rfl⟩) (Or.inl ⟨hF 16 64 (by omega), hF 16 66 (by omega), fun r x y => hR r (by omega), hR 181 (by omega), rfl, rfl, rfl⟩) (Or.inl ⟨hF o 14 (by omega), fun k x y => hR _ (by have := rf_8 ho x y; omega), rfl, rfl⟩) (Or.inl ⟨fun k x => hF o k (by omega), hR _ (by have := rf_1 ho; omega), rfl, rfl, rfl⟩) (hF 16 3 (by omega)) (Or.inl ⟨hF 16 18 (by omega), hR 178 (by omega), rfl, rfl, rfl, hF 16 47 (by omega), hF 16 58 (by omega), rfl, rfl⟩))
theorem RK.n6 (hL : KLn L o rm nd) (h : RK rm nd o σ g A) : RK rm nd o (pf σ 16 22 1) g (sN A 6 1) := by
  have ho := hL.2.1
  have hF : ∀ p k, ¬ (p = 16 ∧ k = 22) → (pf σ 16 22 1).1 p k = σ.1 p k := fun p k x => by rw [pf_1, if_neg x]
  have hR : ∀ r : Nat, ¬ (r < 0) → (pf σ 16 22 1).2 r = σ.2 r := fun _ _ => rfl
  obtain ⟨n1, n2, n3, n4, n5, n6, n7⟩ := h.2.2.2.1
  exact (RK.mk' ho h kle.refl cle.refl cle.refl (h.1.dep ho (fun p k x => hF p k (by omega)) (fun r x => hR r (by omega))) (Or.inl ⟨fun k x y => hF 16 k (by omega), fun r x y => hR r (by omega), rfl⟩) (Or.inl ⟨hF 16 32 (by omega), fun r x y => hR r (by omega), rfl, rfl⟩) (Or.inr ⟨n1, n2, n3, n4, n5, pf_eq, n7⟩) (Or.inl ⟨hF 16 20 (by omega), hF 16 24 (by omega), rfl⟩) (Or.inl ⟨hF 16 40 (by omega), hF 16 47 (by omega), hF 16 58 (by omega), fun r x => hR r (by omega), rfl⟩) (Or.inl ⟨hF 16 56 (by omega), hF 16 58 (by omega), fun r x y => hR r (by omega), rfl⟩) (Or.inl ⟨hF 16 34 (by omega), hR 187 (by omega), rfl⟩) (Or.inl ⟨hF o 7 (by omega), fun k x y => hR _ (by have := rf_3 ho x y; omega), rfl⟩) (Or.inl ⟨hF 16 64 (by omega), hF 16 66 (by omega), fun r x y => hR r (by omega), hR 181 (by omega), rfl, rfl, rfl⟩) (Or.inl ⟨hF o 14 (by omega), fun k x y => hR _ (by have := rf_8 ho x y; omega), rfl, rfl⟩) (Or.inl ⟨fun k x => hF o k (by omega), hR _ (by have := rf_1 ho; omega), rfl, rfl, rfl⟩) (hF 16 3 (by omega)) (Or.inl ⟨hF 16 18 (by omega), hR 178 (by omega), rfl, rfl, rfl, hF 16 47 (by omega), hF 16 58 (by omega), rfl, rfl⟩))
theorem RK.n3 {v : Nat} (hL : KLn L o rm nd) (h : RK rm nd o σ g A) : RK rm nd o (pf σ 16 26 (v : Int)) g (sN A 3 v) := by
  have ho := hL.2.1
  have hF : ∀ p k, ¬ (p = 16 ∧ k = 26) → (pf σ 16 26 (v : Int)).1 p k = σ.1 p k := fun p k x => by rw [pf_1, if_neg x]
  have hR : ∀ r : Nat, ¬ (r < 0) → (pf σ 16 26 (v : Int)).2 r = σ.2 r := fun _ _ => rfl
  obtain ⟨n1, n2, n3, n4, n5, n6, n7⟩ := h.2.2.2.1
  exact (RK.mk' ho h kle.refl cle.refl cle.refl (h.1.dep ho (fun p k x => hF p k (by omega)) (fun r x => hR r (by omega))) (Or.inl ⟨fun k x y => hF 16 k (by omega), fun r x y => hR r (by omega), rfl⟩) (Or.inl ⟨hF 16 32 (by omega), fun r x y => hR r (by omega), rfl, rfl⟩) (Or.inr ⟨n1, n2, pf_eq, n4, n5, n6, n7⟩) (Or.inl ⟨hF 16 20 (by omega), hF 16 24 (by omega), rfl⟩) (Or.inl ⟨hF 16 40 (by omega), hF 16 47 (by omega), hF 16 58 (by omega), fun r x => hR r (by omega), rfl⟩) (Or.inl ⟨hF 16 56 (by omega), hF 16 58 (by omega), fun r x y => hR r (by omega), rfl⟩) (Or.inl ⟨hF 16 34 (by omega), hR 187 (by omega), rfl⟩) (Or.inl ⟨hF o 7 (by omega), fun k x y => hR _ (by have := rf_3 ho x y; omega), rfl⟩) (Or.inl ⟨hF 16 64 (by omega), hF 16 66 (by omega), fun r x y => hR r (by omega), hR 181 (by omega), rfl, rfl, rfl⟩) (Or.inl ⟨hF o 14 (by omega), fun k x y => hR _ (by have := rf_8 ho x y; omega), rfl, rfl⟩) (Or.inl ⟨fun k x => hF o k (by omega), hR _ (by have := rf_1 ho; omega), rfl, rfl, rfl⟩) (hF 16 3 (by omega)) (Or.inl ⟨hF 16 18 (by omega), hR 178 (by omega), rfl, rfl, rfl, hF 16 47 (by omega), hF 16 58 (by omega), rfl, rfl⟩))
/-- a violation is counted -/
theorem RK.vio {k m : Nat} {v : Int} (hL : KLn L o rm nd) (h : RK rm nd o σ g A) (hv : v = ((gV g k + m : Nat) : Int)) : RK rm nd o (pr σ (rfo o 18) k v) (gB g, gC g, gP g, fun j => gV g j + if j = k then m else 0) A := by
  have ho := hL.2.1
  have r1 := rf_1 ho
  have hF : ∀ p k' : Nat, ¬ (p = 16 ∧ k' = 100) → (pr σ (rfo o 18) k v).1 p k' = σ.1 p k' := fun p k' _ => rfl
  have hR : ∀ r : Nat, ¬ (r = 221 + 14 * (o - 14)) → (pr σ (rfo o 18) k v).2 r = σ.2 r := fun r z => by funext j; rw [pr_2, if_neg (by omega)]
  have hZ : KZ rm nd o (pr σ (rfo o 18) k v) (gB g, gC g, gP g, fun j => gV g j + if j = k then m else 0) := by
    obtain ⟨⟨h1, h2, h3, h4⟩, h5, ⟨h6, h7, h8, h9⟩, ⟨h10, h11⟩, h12, h13⟩ := h.1
    have eb : ∀ s, bstr (pr σ (rfo o 18) k v) s = bstr σ s := fun s => by unfold bstr bst bln; rw [hR 212 (by omega), hR 213 (by omega), hR 214 (by omega)]
    refine ⟨⟨?_, h2, h3, fun i hi => by rw [eb]; exact h4 i hi⟩, h5, ⟨h6, h7, by rw [hR 176 (by omega)]; exact h8, h9⟩, ⟨h10, by rw [hR (rfo o 1) (by omega)]; exact h11⟩, h12, fun j hj => ?_⟩
    · unfold BK at h1 ⊢
      rw [hR 211 (by omega), hR 213 (by omega), hR 214 (by omega), hR 215 (by omega)]
      simp only [eb]
      exact h1
    · show (pr σ (rfo o 18) k v).2 (rfo o 18) j = ((gV g j + if j = k then m else 0 : Nat) : Int)
      rw [pr_2]
      by_cases c : j = k
      · rw [if_pos ⟨rfl, c⟩, if_pos c, c]; exact hv
      · rw [if_neg (fun z => c z.2), if_neg c]; exact h13 j hj
  exact (RK.mk' ho h kle.refl cle.refl cle.refl hZ (Or.inl ⟨fun k x y => hF 16 k (by omega), fun r x y => hR r (by omega), rfl⟩) (Or.inl ⟨hF 16 32 (by omega), fun r x y => hR r (by omega), rfl, rfl⟩) (Or.inl ⟨fun k x => hF 16 k (by omega), hR _ (by have := rf_1 ho; omega), rfl⟩) (Or.inl ⟨hF 16 20 (by omega), hF 16 24 (by omega), rfl⟩) (Or.inl ⟨hF 16 40 (by omega), hF 16 47 (by omega), hF 16 58 (by omega), fun r x => hR r (by omega), rfl⟩) (Or.inl ⟨hF 16 56 (by omega), hF 16 58 (by omega), fun r x y => hR r (by omega), rfl⟩) (Or.inl ⟨hF 16 34 (by omega), hR 187 (by omega), rfl⟩) (Or.inl ⟨hF o 7 (by omega), fun k x y => hR _ (by have := rf_3 ho x y; omega), rfl⟩) (Or.inl ⟨hF 16 64 (by omega), hF 16 66 (by omega), fun r x y => hR r (by omega), hR 181 (by omega), rfl, rfl, rfl⟩) (Or.inl ⟨hF o 14 (by omega), fun k x y => hR _ (by have := rf_8 ho x y; omega), rfl, rfl⟩) (Or.inl ⟨fun k x => hF o k (by omega), hR _ (by have := rf_1 ho; omega), rfl, rfl, rfl⟩) (hF 16 3 (by omega)) (Or.inl ⟨hF 16 18 (by omega), hR 178 (by omega), rfl, rfl, rfl, hF 16 47 (by omega), hF 16 58 (by omega), rfl, rfl⟩))
theorem sp_K_fits {i : Nat} {v : Int} (hL : KLn L o rm nd) (h : RK rm nd o σ g A) (he : (aE A).length ≤ 8300) (hN : aN A 0 ≤ rm) (hi : i < (aE A).length) (hv : v = (i : Int)) (h4 : rm < aN A 0 + ((aE A).getD i ([], false, [])).2.2.length → R 0 (pf σ 16 3 4)) (h10 : ¬ rm < aN A 0 + ((aE A).getD i ([], false, [])).2.2.length → (i + 1) ∈ bsy A → R 0 (pf σ 16 3 10)) (h1 : ¬ rm < aN A 0 + ((aE A).getD i ([], false, [])).2.2.length → ¬ (i + 1) ∈ bsy A → R 1 (pf σ 16 25 ((aN A 0 + ((aE A).getD i ([], false, [])).2.2.length : Nat) : Int))) : w_KReader_fits L v R σ := by
  subst hv
  obtain ⟨e1, e2⟩ := h.2.2.1
  obtain ⟨m1, m2, ⟨pe, q1, q2, -⟩, m4, m5⟩ := e2 i hi
  have hz := h.1.2.2.1.2.1
  have hrm := hL.2.2.1.1
  have l5 := hL.2.2.2.2.2.2.1 185 (by omega) (by omega)
  have l6 := hL.2.2.2.2.2.2.1 186 (by omega) (by omega)
  have n0 : σ.1 16 25 = (aN A 0 : Int) := h.2.2.2.1.1
  have z0 : σ.1 16 0 = (rm : Int) := h.1.2.2.2.2.1.2.1
  unfold w_KReader_fits
  rw [show Int.toNat (i : Int) = i from rfl, n0, z0, m4]
  refine ⟨⟨by omega, by omega⟩, ⟨by omega, by omega⟩, ?_⟩
  by_cases c : rm < aN A 0 + ((aE A).getD i ([], false, [])).2.2.length
  · rw [if_pos (by omega)]
    exact sp_K_fail h.f3 ⟨Or.inl rfl, h4 c⟩
  · rw [if_neg (by omega), m5]
    refine ⟨⟨by omega, by omega⟩, ?_⟩
    by_cases d : (i + 1) ∈ bsy A
    · rw [if_pos d, if_neg (by decide)]
      exact sp_K_fail h.f3 ⟨Or.inl rfl, h10 c d⟩
    · rw [if_neg d, if_pos rfl]
      refine ⟨⟨by omega, by omega⟩, ⟨by omega, by omega⟩, ?_⟩
      exact h1 c d
theorem sp_K_und (hL : KLn L o rm nd) (h : RK rm nd o σ g A) (h6 : aN A 6 ≠ 0 → (aR A).isSome = true) (hV : gV g 22 ≤ 1000000000) (h9 : und A = true → R 0 (pf σ 16 3 9)) (h1 : und A = false → R 1 (pr σ (rfo o 18) 22 ((gV g 22 + 1 : Nat) : Int))) : w_KReader_undeclared L R σ := by
  obtain ⟨n1, n2, n3, n4, n5, n6, n7⟩ := h.2.2.2.1
  have hr : σ.1 16 20 = (if (aR A).isSome = true then 1 else 0) := h.2.2.2.2.1.1
  have l18 : L (rfo o 18) = 23 := hL.2.2.2.2.2.2.2.2.2.2.2.2.2.2.2.2.2.2.2.1
  have v22 : σ.2 (rfo o 18) 22 = (gV g 22 : Int) := h.1.2.2.2.2.2 22 (by decide)
  obtain ⟨d1, d2⟩ := h.dy hL.2.1
  unfold w_KReader_undeclared
  have hu : (¬ σ.1 16 20 = 0 ∧ σ.1 16 21 = 0 ∧ ¬ σ.1 16 22 = 0) ↔ und A = false := by
    unfold und
    rw [hr, n5, n6, Bool.or_eq_false_iff, beq_eq_false_iff_ne, beq_eq_false_iff_ne]
    constructor
    · rintro ⟨x1, x2, x3⟩
      refine ⟨fun z => ?_, fun z => ?_⟩
      · rw [if_pos z] at x2; exact absurd x2 (by decide)
      · rw [if_pos z] at x3; exact x3 rfl
    · rintro ⟨x1, x2⟩
      rw [if_pos (h6 x2), if_neg x1, if_neg x2]
      exact ⟨by decide, rfl, by decide⟩
  by_cases c : und A = false
  · rw [if_pos (hu.mpr c), d1, show Int.toNat (o : Int) = o from rfl, show Int.toNat 22 = 22 from rfl, v22]
    rw [d1] at d2
    refine ⟨d2, ⟨by omega, by omega⟩, ⟨by omega, by omega⟩, ⟨by omega, by omega⟩, ?_⟩
    exact h1 c
  · rw [if_neg (fun z => c (hu.mp z))]
    refine sp_K_fail h.f3 ⟨Or.inl rfl, h9 ?_⟩
    cases hb : und A with
    | true => rfl
    | false => exact absurd hb c
/-- the number of a reference to a character -/
theorem kr_meant {l : List Int} {P j E : Nat} (hK : KT L σ E) (hc : chs σ E) (hE : P + l.length ≤ E) (hS : SHT (gd l) (σ.2 176) l.length P) (hj : rfp (gd l) l.length (some 0) = some j) (h35 : gd l 1 = 35) (hx : x = (P : Int)) (h : R (if isCh (rfN l j) = true then rfN l j else -1) σ) : w_KReader_meant L 176 x R σ := by
  have hjp := rfp_pos (l := l) hj
  have t1 : σ.2 176 (P + 1) = 35 := by rw [hS 1 (by omega)]; exact h35
  have hj' : rfp (σ.2 176) (P + l.length) (some P) = some (P + j) := by
    have := sh_rfp hS (some 0)
    rw [hj] at this
    exact this
  generalize hhx : decide (σ.2 176 (P + 2) = 120) = hex
  have hh : hex = true ↔ σ.2 176 (P + 2) = 120 := by rw [← hhx]; exact decide_eq_true_iff
  generalize hk0 : (if hex = true then P + 3 else P + 2) = k0
  obtain ⟨b1', b2, b3, b4⟩ := rfp_num hj' t1 hex hh k0 hk0.symm
  have hn := (rfN_at (k := P) hS hj t1 hh hk0.symm).1
  refine sp_KReader_meant hK hc P (P + j - 1) hx hex hh k0 hk0.symm (by omega) (by omega) b3 (fun q q1 q2 => ?_) ?_
  · exact sk_all (p := hxP hex) q q1 (by rw [b4]; exact q2)
  · rw [hn]
    exact h
theorem alw_cs {l : List Int} : alw l = -1 ∨ 0 ≤ alw l := by
  unfold alw
  split
  · right; decide
  · split
    · right; decide
    · split
      · right; decide
      · split
        · right; decide
        · split
          · right; decide
          · left; rfl
theorem ent_eq {i k : Nat} {q : Nat × Nat} {t : List Frm} (hF : aF A = (cur A, q) :: t) : ent rm A i k = if rm < aN A 0 + (((aE A).getD i ([], false, [])).2.2).length then .inl 4 else if (i + 1) ∈ bsy A then .inl 10 else .inr (sN (sF (sN A 0 (aN A 0 + (((aE A).getD i ([], false, [])).2.2).length)) ((((aE A).getD i ([], false, [])).2.2, i + 1, (aO A).length) :: ((cur A).drop k, q) :: t)) 7 (if t = [] then aN A 8 - (cur A).length else aN A 7)) := by
  unfold ent
  rw [hF]
  rfl
theorem KC_ent {i k : Nat} {q : Nat × Nat} {t : List Frm} {n y : Nat} (hF : aF A = (cur A, q) :: t) (hC : KC rm g A) (hk : k ≤ (cur A).length) (hc : ¬ rm < aN A 0 + (((aE A).getD i ([], false, [])).2.2).length) : KC rm g (sN (sF (sN A 0 (aN A 0 + (((aE A).getD i ([], false, [])).2.2).length)) ((((aE A).getD i ([], false, [])).2.2, i + 1, n) :: ((cur A).drop k, q) :: t)) 7 y) := by
  obtain ⟨h1, h2, h3, h4⟩ := hC
  have e1 : rem (sN (sF (sN A 0 (aN A 0 + (((aE A).getD i ([], false, [])).2.2).length)) ((((aE A).getD i ([], false, [])).2.2, i + 1, n) :: ((cur A).drop k, q) :: t)) 7 y) = (((aE A).getD i ([], false, [])).2.2).length + (((cur A).length - k) + (t.map (fun f => f.1.length)).sum) := by
    show ((((((aE A).getD i ([], false, [])).2.2, i + 1, n) :: ((cur A).drop k, q) :: t) : List Frm).map (fun f => f.1.length)).sum = _
    rw [List.map_cons, List.map_cons, List.sum_cons, List.sum_cons, List.length_drop]
  have e2 : rem A = (cur A).length + (t.map (fun f => f.1.length)).sum := by
    unfold rem
    rw [hF, List.map_cons, List.sum_cons]
  refine ⟨?_, ?_, ?_, h4⟩
  · rw [e1]
    show _ ≤ aN A 0 + _
    omega
  · rw [e1]
    show _ ≤ aN A 8 + (aN A 0 + _)
    omega
  · show aN A 0 + _ ≤ rm
    omega
set_option maxHeartbeats 2000000 in
theorem qI_ref (hL : KLn L o rm nd) (h : RK rm nd o σ g a) (hG : GK rm nd a) (hC : KC rm g a) (hV : gV g 22 ≤ 1000000000) (hph : aN a 4 = 2) (hs : σ.1 16 15 ≤ 1000000) (hev : ∀ a', iRef rm a = .inr a' → (kNs (aS a')).1 ≤ 120000) (hq : KO rm nd o σ g Q (iRef rm a) [] (fun _ => 0)) : w_KReader_contentReference L Q σ := by
  obtain ⟨p, q, t, hF, h1, h2, hK, hc, hS, hp⟩ := h.at_ hL
  have hK2 := hK.2.2
  have ho := hL.2.1
  have r1 := rf_1 ho
  have hne : aO a ≠ [] := hG.2.2.2.1.2.mp hph
  have hoc := hG.2.2.2.2.1
  have hln : (aL a).length ≤ 16384 := by have := hG.2.2.1; have := hL.2.2.1.2; omega
  have l176 := hL.2.2.2.1
  unfold w_KReader_contentReference
  rw [h1]
  refine kr_ref hK hc hS (some 0) rfl (fun i hi => by cases hi; exact Nat.zero_le _) ?_
  refine sp_K_written rfl h.f3 (fun hn => ?_) (fun k0 hk0 hv => ?_)
  · rw [if_pos rfl]
    exact hq.1 5 (by unfold iRef; rw [mvo_eq_none.mp hn]) _ pf_eq (pf_nk (by decide))
  rw [if_neg (by decide)]
  obtain ⟨k, hk, e1⟩ := mvo_eq_some.mp hk0
  rw [hk] at hv ⊢
  have hkp := rfp_pos (l := cur a) hk
  have hid : iRef rm a = if 0 ≤ rfK (cur a) k then .inr (adv (chr (tch a true) [rfK (cur a) k]) k) else if rfK (cur a) k = -2 then .inl 12 else match eno (aE a) (sl (gd (cur a)) 1 (k - 2)) false with
      | none => if und a = true then .inl 9 else .inr (adv (sN (tch a false) 1 (aN a 1 + 1)) k)
      | some i => ent rm (tch a false) i k := by
    unfold iRef
    rw [hk]
    rfl
  have hremc : (cur a).length ≤ rem a := by
    unfold rem
    rw [hF, List.map_cons, List.sum_cons]
    exact Nat.le_add_right _ _
  refine sp_K_touch hL h hG (fun υ hυ u1 u2 => ?_)
  have hυ16 : υ.1 16 16 = (p : Int) := by rw [u1]; exact h1
  have hυ176 : υ.2 176 = σ.2 176 := u2 176 (by decide)
  have hKυ : KT L υ (p + (cur a).length) := by unfold KT; rw [u1]; exact hK
  have hcυ : chs υ (p + (cur a).length) := by unfold chs; rw [hυ176]; exact hc
  have hSυ : SHT (gd (cur a)) (υ.2 176) (cur a).length p := by rw [hυ176]; exact hS
  rw [hυ16]
  refine ⟨⟨by omega, by omega⟩, ⟨by omega, by omega⟩, ?_⟩
  have hcur : cur (tch a true) = cur a := tch_cur
  -- a character
  have good : ∀ c : Int, 0 ≤ c → rfK (cur a) k = c → w_KReader_spoil L (fun σ42 => dyD (σ42.1 16 2) ∧ w_KDoc_text L (Int.toNat (σ42.1 16 2)) c (fun σ45 => Q (pf σ45 16 16 (enc (mvo p (some k))))) σ42) υ := fun c hc0 hc1 => by
    rw [hc1, if_pos hc0] at hid
    have hev' := hev _ hid
    rw [(adv_other).2.2.2.2.2.2.2.2.1] at hev'
    refine sp_K_spoil hL hυ hoc hne hln (fun ζ hζ z1 z2 => ?_)
    refine sp_K_txl (g := g) (A := tch a true) (l := []) hL (by rw [List.append_nil, chr_nil]; exact hζ) hc0 (KC_tch hC) (by rw [tch_rem]; show 0 < rem a; omega) (by rw [tch_rem, tch_other.2.2.2.2.2.2.2.2.1, tch_other.2.2.1]; exact hG.2.1.1) hev' (fun τ hτ t1 t2 => ?_)
    have hg := hτ.go hL (k := k) (by show k ≤ (cur (tch a true)).length; rw [hcur]; exact hkp.2)
    have e5 : τ.1 16 16 = (p : Int) := by rw [t1 16 16 (by omega), z1]; exact hυ16
    rw [e5] at hg
    have e6 : enc (mvo p (some k)) = (p : Int) + (k : Int) := by show ((p + k : Nat) : Int) = _; omega
    rw [e6]
    have hr3 : rem (adv (chr (tch a true) [c]) k) + k = rem a := by
      rw [rem_adv (by show k ≤ (cur (tch a true)).length; rw [hcur]; exact hkp.2), chr_rem, tch_rem]
    have hN : aN (adv (chr (tch a true) [c]) k) = aN a := by
      rw [(adv_other).2.1]
      exact tch_other.2.2.1
    obtain ⟨c1, c2', c3, c4⟩ := hC
    refine hq.2 _ hid _ _ hg rfl (fun _ => rfl) (fun _ _ => rfl) ⟨?_, ?_, by rw [hN]; exact c3, by rw [hN]; exact c4⟩ (by rw [pf_nk (by decide), t1 16 4 (by omega), z1, u1]) (by rw [pf_nk (by decide), t1 16 15 (by omega), z1, u1]; omega)
    · show (gP g ++ ([] ++ [c])).length + _ ≤ _
      rw [hN, List.nil_append, List.length_append, List.length_singleton]
      omega
    · rw [hN]
      show (gC g).length + _ ≤ _
      omega
  refine WJ_dir ?_
  have e1' : υ.2 176 (Int.toNat ((p : Int) + 1)) = gd (cur a) 1 := by
    rw [show Int.toNat ((p : Int) + 1) = p + 1 by omega]
    exact hSυ 1 (by omega)
  rw [e1']
  by_cases c35 : gd (cur a) 1 = 35
  · rw [if_pos c35]
    refine kr_meant hKυ hcυ (by omega) hSυ hk c35 rfl ?_
    have hrK : rfK (cur a) k = if isCh (rfN (cur a) k) = true then rfN (cur a) k else -2 := by
      unfold rfK
      rw [if_pos c35]
    by_cases ci : isCh (rfN (cur a) k) = true
    · rw [if_pos ci] at hrK ⊢
      have hpos := (isCh_le ci).1
      refine ⟨fun z => absurd z (by omega), ?_⟩
      rw [if_neg (fun z => absurd z.1 (by omega)), if_neg (by omega)]
      exact good _ hpos hrK
    · rw [if_neg ci] at hrK ⊢
      dsimp only
      rw [hυ16]
      refine ⟨fun _ => ⟨⟨by omega, by omega⟩, ⟨by omega, by omega⟩⟩, ?_⟩
      rw [e1', if_pos ⟨by decide, c35⟩]
      refine sp_K_fail hυ.f3 ?_
      exact hq.1 12 (by rw [hid, hrK, if_neg (by decide), if_pos rfl]) _ pf_eq (by rw [pf_nk (by decide), u1])
  · rw [if_neg c35]
    have e7 : enc (mvo p (some k)) - (p : Int) - 2 = ((k - 2 : Nat) : Int) := by show ((p + k : Nat) : Int) - _ - 2 = _; omega
    have e8 : enc (mvo p (some k)) = ((p + k : Nat) : Int) := rfl
    refine ⟨⟨by omega, by omega⟩, ⟨by omega, by omega⟩, ⟨by omega, by omega⟩, ?_⟩
    rw [e7]
    refine sp_KReader_always hKυ (p + 1) (k - 2) (by omega) rfl (by omega) ?_
    have esl : sl (υ.2 176) (p + 1) (k - 2) = sl (gd (cur a)) 1 (k - 2) := sh_sl hSυ (by omega)
    rw [esl]
    have hrK : rfK (cur a) k = alw (sl (gd (cur a)) 1 (k - 2)) := by
      unfold rfK
      rw [if_neg c35]
    rcases alw_cs (l := sl (gd (cur a)) 1 (k - 2)) with ca | ca
    · rw [ca] at hrK ⊢
      dsimp only
      rw [hυ16, e1', e7]
      refine ⟨fun _ => ⟨⟨by omega, by omega⟩, ⟨by omega, by omega⟩⟩, ?_⟩
      rw [if_neg (fun z => c35 z.2), if_pos (by decide)]
      rw [hrK, if_neg (by decide), if_neg (by decide)] at hid
      refine ⟨(hυ.dy ho).2, ⟨by omega, by omega⟩, ⟨by omega, by omega⟩, ⟨by omega, by omega⟩, ?_⟩
      have hEt : aE (tch a false) = aE a := tch_other.2.1
      have hNt : aN (tch a false) = aN a := tch_other.2.2.1
      have hct : cur (tch a false) = cur a := tch_cur
      have hFt : aF (tch a false) = (cur (tch a false), q) :: t := by rw [tch_other.1, hct]; exact hF
      have heL := hG.2.2.2.2.2.2.2.1.1
      refine sp_K_bf (p := p + 1) (n := k - 2) hL hυ ⟨by omega, by omega⟩ (by omega) rfl esl (fun v hvf => ?_)
      refine sp_K_entityOf (b := false) hL hυ (by rw [hEt]; exact heL) hvf rfl ?_
      rw [hEt]
      cases hen : eno (aE a) (sl (gd (cur a)) 1 (k - 2)) false with
      | none =>
        rw [hen] at hid
        rw [if_pos (show enc none < 0 by decide)]
        have hu0 : und (tch a false) = und a := by unfold und; rw [hNt]
        refine sp_K_und hL hυ (by rw [hNt, tch_other.2.2.2.1]; exact hG.2.2.2.2.2.2.1) hV (fun hu => ?_) (fun hu => ?_)
        · refine WJ_dir ?_
          rw [if_pos rfl]
          rw [hu0] at hu
          exact hq.1 9 (by rw [hid]; exact if_pos hu) _ pf_eq (by rw [pf_nk (by decide), u1])
        · refine WJ_dir ?_
          rw [if_neg (by decide)]
          rw [hu0] at hu
          have hid' : iRef rm a = .inr (adv (sN (tch a false) 1 (aN a 1 + 1)) k) := by rw [hid]; exact if_neg (by rw [hu]; decide)
          have hv1 := (hυ.vio (k := 22) (m := 1) hL rfl).n1 (v := aN a 1 + 1) hL
          have hg := hv1.go hL (k := k) (by show k ≤ (cur (tch a false)).length; rw [hct]; exact hkp.2)
          have e5 : (pr υ (rfo o 18) 22 ((gV g 22 + 1 : Nat) : Int)).1 16 16 = (p : Int) := by rw [pr_1]; exact hυ16
          rw [e5] at hg
          have e6 : enc (mvo p (some k)) = (p : Int) + (k : Int) := by show ((p + k : Nat) : Int) = _; omega
          rw [e6]
          have hr3 : rem (adv (sN (tch a false) 1 (aN a 1 + 1)) k) + k = rem a := by
            rw [rem_adv (by show k ≤ (cur (tch a false)).length; rw [hct]; exact hkp.2)]
            show rem (tch a false) = rem a
            exact tch_rem
          have hN0 : aN (adv (sN (tch a false) 1 (aN a 1 + 1)) k) 0 = aN a 0 := by
            rw [(adv_other).2.1]
            show aN (tch a false) 0 = _
            rw [hNt]
          have hN8 : aN (adv (sN (tch a false) 1 (aN a 1 + 1)) k) 8 = aN a 8 := by
            rw [(adv_other).2.1]
            show aN (tch a false) 8 = _
            rw [hNt]
          have hN1 : aN (adv (sN (tch a false) 1 (aN a 1 + 1)) k) 1 = aN a 1 + 1 := by
            rw [(adv_other).2.1]
            rfl
          obtain ⟨c1, c2', c3, c4⟩ := hC
          refine hq.2 _ hid' _ _ hg rfl (fun _ => rfl) (fun j hj => ?_) ⟨?_, ?_, by rw [hN0]; exact c3, ?_⟩ (by rw [pf_nk (by decide), pr_1, u1]) (by rw [pf_nk (by decide), pr_1, u1]; omega)
          · show gV g j + (if j = 22 then 1 else 0) = gV g j + 0
            rw [if_neg hj]
          · rw [hN0]
            show (gP g).length + _ ≤ _
            omega
          · rw [hN0, hN8]
            show (gC g).length + _ ≤ _
            omega
          · rw [hN1]
            show gV g 22 + 1 = _
            omega
      | some i =>
        rw [hen] at hid
        have hi : i < (aE a).length := eno_lt hen
        have hid2 : iRef rm a = ent rm (tch a false) i k := hid
        rw [ent_eq hFt] at hid2
        rw [if_neg (show ¬ enc (some i) < 0 by show ¬ ((i : Nat) : Int) < 0; omega)]
        refine sp_K_fits (A := tch a false) hL hυ (by rw [hEt]; exact heL) (by rw [hNt]; exact hC.2.2.1) (by rw [hEt]; exact hi) rfl (fun f1 => ?_) (fun f1 f2 => ?_) (fun f1 f2 => ?_)
        · refine WJ_dir ?_
          rw [if_pos rfl]
          exact hq.1 4 (by rw [hid2, if_pos f1]) _ pf_eq (by rw [pf_nk (by decide), u1])
        · refine WJ_dir ?_
          rw [if_pos rfl]
          exact hq.1 10 (by rw [hid2, if_neg f1, if_pos f2]) _ pf_eq (by rw [pf_nk (by decide), u1])
        · refine WJ_dir ?_
          rw [if_neg (by decide)]
          rw [if_neg f1, if_neg f2] at hid2
          have hn0 := hυ.n0 (v := aN (tch a false) 0 + (((aE (tch a false)).getD i ([], false, [])).2.2).length) hL
          have hGO : GO (aE (tch a false)) (aF (tch a false)) := by rw [hEt, tch_other.1]; exact hG.2.2.2.2.2.2.2.2.1
          refine sp_K_goThrough (A := sN (tch a false) 0 (aN (tch a false) 0 + (((aE (tch a false)).getD i ([], false, [])).2.2).length)) (i := i) (k := k) hL hn0 hGO (by show (aE (tch a false)).length ≤ _; rw [hEt]; exact heL) (by show i < (aE (tch a false)).length; rw [hEt]; exact hi) rfl hFt (by show k ≤ (cur (tch a false)).length; rw [hct]; exact hkp.2) ?_ ?_ (fun τ hτ t1 t2 => ?_)
          · rw [pf_nk (by decide), hυ16]
            show ((p + k : Nat) : Int) = _
            omega
          · rw [pf_nk (by decide), u1]
            exact hs
          · refine hq.2 _ hid2 τ g hτ rfl (fun _ => rfl) (fun _ _ => rfl) (KC_ent hFt (KC_tch hC) (by rw [hct]; exact hkp.2) f1) (by rw [t1, pf_nk (by decide), u1]) (by rw [t2, pf_nk (by decide), u1]; omega)
    · dsimp only
      rw [hυ16, e1']
      refine ⟨fun z => absurd z (by omega), ?_⟩
      rw [if_neg (fun z => absurd z.1 (by omega)), if_neg (by omega)]
      exact good _ ca hrK
end Kre
