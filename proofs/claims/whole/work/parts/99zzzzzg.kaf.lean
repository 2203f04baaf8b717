/-! ===== the reference: declared attributes, equal values ===== -/
section Kaf
variable {L : Nat → Nat} {rm nd o : Nat} {σ ρ τ : IS} {g g' : KG} {a a' A : AS} {bs bs' : List Nat} {Q : IS → Prop} {R : Int → IS → Prop} {x y z v w : Int} {s t el : Str}
theorem sp_K_attributeOf {ad : List ADc} (hL : KLn L o rm nd) (hn : (gB g).Nodup) (hA : KAd σ (gB g) (gP g) ad) (hdl : ad.length ≤ 8300) (hv : Kn (gB g) v el) (hw : Kn (gB g) w s) (hq : R (enc (adf ad el s)) σ) : w_KReader_attributeOf L v w R σ := by
  obtain ⟨e1, e2⟩ := hA
  have l9 := hL.2.2.2.2.2.2.2.2.2.2.1
  have l2 := l9 199 (by omega) (by omega)
  have l3 := l9 200 (by omega) (by omega)
  unfold w_KReader_attributeOf
  refine WL_ind (fun k ρ => ρ = σ ∧ ∃ n : Nat, k = (n : Int) ∧ n ≤ ad.length ∧ ∀ j, j < n → (fun x : ADc => x.1 == el && x.2.1 == s) (ad.getD j adD) = false) (fun k _ => (σ.1 16 56 - k).toNat) ?_ 0 σ ⟨rfl, 0, rfl, Nat.zero_le _, fun j hj => absurd hj (Nat.not_lt_zero j)⟩
  rintro k ρ ⟨rfl, n, rfl, hn1, hn2⟩ K hI
  have hF := fidx (p := fun x : ADc => x.1 == el && x.2.1 == s) (d := adD) hn1 hn2
  refine WJ_dir ?_
  by_cases c : n < ad.length
  · obtain ⟨m1, m2, -⟩ := e2 n c
    rw [if_pos (by omega), show Int.toNat (n : Int) = n from rfl]
    refine ⟨⟨by omega, by omega⟩, fun _ => ⟨by omega, by omega⟩, ?_⟩
    have i1 := Kn.eqI hn m1 hv
    have i2 := Kn.eqI hn m2 hw
    by_cases c2 : (ad.getD n adD).1 = el ∧ (ad.getD n adD).2.1 = s
    · rw [if_neg (fun z => z.elim (fun z => z (i1.mpr c2.1)) (fun z => z (i2.mpr c2.2)))]
      dsimp only
      rw [if_pos (by omega)]
      have := hF.1 c (by show (_ == _ && _ == _) = true; rw [c2.1, c2.2]; simp)
      unfold adf at hq
      rw [this] at hq
      exact hq
    · rw [if_pos (Classical.byContradiction (fun z => c2 ⟨i1.mp (Classical.byContradiction (fun y => z (Or.inl y))), i2.mp (Classical.byContradiction (fun y => z (Or.inr y)))⟩))]
      refine ⟨⟨by omega, by omega⟩, hI _ _ ⟨rfl, n + 1, by omega, by omega, fun j hj => ?_⟩ (by omega)⟩
      by_cases cj : j = n
      · rw [cj]
        show (_ == _ && _ == _) = false
        rw [Bool.and_eq_false_iff]
        by_cases c3 : (ad.getD n adD).1 = el
        · right
          exact beq_eq_false_iff_ne.mpr (fun z => c2 ⟨c3, z⟩)
        · left
          exact beq_eq_false_iff_ne.mpr c3
      · exact hn2 j (by omega)
  · rw [if_neg (by omega)]
    dsimp only
    rw [if_neg (by omega)]
    have := hF.2 (by omega)
    unfold adf at hq
    rw [this] at hq
    exact hq
theorem sp_K_same {l1 l2 : Str} (hL : KLn L o rm nd) (h : KZ rm nd o σ g) (hpl : (gP g).length ≤ L (rfo o 1)) (h1 : Kpc (gP g) x l1) (h2 : Kpc (gP g) z l2) (hy : y = (l1.length : Int)) (hw : w = (l2.length : Int)) (hq : R (b1 (decide (l1 = l2))) σ) : w_KDoc_same L o x y z w R σ := by
  subst hy hw
  obtain ⟨p, p1, p2, p3⟩ := h1.at_
  obtain ⟨q, q1, q2, q3⟩ := h2.at_
  subst p1 q1
  have hb := hL.2.2.2.2.2.2.2.2.2.2.2.2.2.2.2.2.1
  unfold w_KDoc_same
  by_cases c : l1.length = l2.length
  · rw [if_pos (by omega)]
    refine WL_ind (fun k ρ => ρ = σ ∧ ∃ n : Nat, k = (n : Int) ∧ n ≤ l1.length ∧ ∀ j, j < n → l1.getD j 0 = l2.getD j 0) (fun k _ => ((l1.length : Int) - k).toNat) ?_ 0 σ ⟨rfl, 0, rfl, Nat.zero_le _, fun j hj => absurd hj (Nat.not_lt_zero j)⟩
    rintro k ρ ⟨rfl, n, rfl, n1, n2⟩ K hI
    try dsimp only
    refine ⟨fun _ => ⟨⟨by omega, by omega⟩, ⟨by omega, by omega⟩, ⟨by omega, by omega⟩, ⟨by omega, by omega⟩⟩, ?_⟩
    rw [show Int.toNat ((p : Int) + (n : Int)) = p + n by omega, show Int.toNat ((q : Int) + (n : Int)) = q + n by omega]
    by_cases cn : n < l1.length
    · have e1 : ρ.2 (rfo o 1) (p + n) = l1.getD n 0 := by rw [h.2.2.2.1.2 (p + n) (by omega)]; exact p3 n cn
      have e2 : ρ.2 (rfo o 1) (q + n) = l2.getD n 0 := by rw [h.2.2.2.1.2 (q + n) (by omega)]; exact q3 n (by omega)
      rw [e1, e2]
      by_cases ce : l1.getD n 0 = l2.getD n 0
      · rw [if_pos ⟨by omega, ce⟩]
        refine ⟨⟨by omega, by omega⟩, hI _ _ ⟨rfl, n + 1, by omega, by omega, fun j hj => ?_⟩ (by omega)⟩
        by_cases cj : j = n
        · rw [cj]; exact ce
        · exact n2 j (by omega)
      · rw [if_neg (fun y => ce y.2), if_neg (by omega)]
        rw [decide_eq_false (fun y => ce (by rw [y]))] at hq
        exact hq
    · rw [if_neg (fun y => cn (by omega)), if_pos (by omega)]
      rw [decide_eq_true (List.ext_getElem? (fun j => by
        by_cases cj : j < l1.length
        · have := n2 j (by omega)
          rw [List.getD_eq_getElem?_getD, List.getD_eq_getElem?_getD, List.getElem?_eq_getElem cj, List.getElem?_eq_getElem (by omega)] at this
          rw [List.getElem?_eq_getElem cj, List.getElem?_eq_getElem (by omega)]
          exact congrArg some this
        · rw [List.getElem?_eq_none (by omega), List.getElem?_eq_none (by omega)]))] at hq
      exact hq
  · rw [if_neg (by omega)]
    rw [decide_eq_false (fun y => c (by rw [y]))] at hq
    exact hq
/-- what an attribute of a tag violates -/
def tgz (ad : List ADc) (z : Att) (k : Nat) : Nat := match z.2.2 with
  | none => if k = 7 then 1 else 0
  | some d => if k = 8 then (if asW (ad.getD d adD).2.2.1 (ad.getD d adD).2.2.2.2.2 z.2.1 = false then 1 else 0) else if k = 10 then (if (ad.getD d adD).2.2.2.1 = 3 ∧ (ad.getD d adD).2.2.2.2.1 ≠ z.2.1 then 1 else 0) else 0
/-- what a tag's attributes leave as it was -/
def FG (o : Nat) (σ ρ : IS) : Prop := (∀ pp kk, ¬ ((pp = 13 ∧ (kk = 1 ∨ kk = 6)) ∨ (pp = 16 ∧ kk = 25) ∨ (pp = o ∧ (kk = 2 ∨ kk = 14))) → ρ.1 pp kk = σ.1 pp kk) ∧ ∀ r, ¬ (r = 223 + 14 * (o - 14) ∨ r = 221 + 14 * (o - 14) ∨ r = 186 ∨ (208 ≤ r ∧ r ≤ 210) ∨ (211 ≤ r ∧ r ≤ 215) ∨ (224 + 14 * (o - 14) ≤ r ∧ r ≤ 229 + 14 * (o - 14))) → ρ.2 r = σ.2 r
theorem FG.trans (h1 : FG o σ ρ) (h2 : FG o ρ τ) : FG o σ τ := ⟨fun p k x => (h2.1 p k x).trans (h1.1 p k x), fun r x => (h2.2 r x).trans (h1.2 r x)⟩
theorem FG.refl : FG o σ σ := ⟨fun _ _ _ => rfl, fun _ _ => rfl⟩
theorem FD.fg (ho : o = 14 ∨ o = 15) (h : FD o σ ρ) : FG o σ ρ := by
  have r1 := rf_1 ho
  exact ⟨fun pp kk z => h.1 pp kk (by omega), fun r z => h.2 r (by omega)⟩
end Kaf
