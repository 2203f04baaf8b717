/-! ===== the reference: values ===== -/
theorem WL_ind2 {S : Type} {F : (S → IS → Prop) → S → IS → Prop} (I : Nat → S → IS → Prop) (h : ∀ n s σ, I n s σ → ∀ K : S → IS → Prop, (∀ n' s' σ', I n' s' σ' → n' < n → K s' σ') → F K s σ) (n : Nat) (s : S) (σ : IS) (hI : I n s σ) : WL F s σ := by
  have key : ∀ N n s σ, I n s σ → n < N → itF F N s σ := by
    intro N
    induction N with
    | zero => intro n s σ _ h0; omega
    | succ N ih =>
      intro n s σ hI hn
      exact h n s σ hI _ (fun n' s' σ' hI' hm => ih n' s' σ' hI' (by omega))
  exact ⟨n + 1, key _ n s σ hI (by omega)⟩
theorem pf_back {σ : IS} {o k : Nat} {x : Int} : pf (pf σ o k x) o k (σ.1 o k) = σ := by
  refine Prod.ext ?_ rfl
  funext p j
  rw [pf_1]
  by_cases c : p = o ∧ j = k
  · rw [if_pos c, c.1, c.2]
  · rw [if_neg c, pf_1, if_neg c]
/-- what the reader of values looks at -/
def KVx (rm nd o : Nat) (σ : IS) (g : KG) (A : AS) (bs : List Nat) : Prop := KZ rm nd o σ g ∧ KEn σ (gB g) (gC g) (aE A) bs ∧ KNu o σ (aN A) ∧ KRo σ (gB g) (aR A) ∧ σ.1 16 3 = 0
section Kvx
variable {L : Nat → Nat} {rm nd o : Nat} {σ τ : IS} {g g' : KG} {a a' A : AS} {bs bs' : List Nat} {Q : IS → Prop} {R : Int → IS → Prop} {T : Nat → Int} {x y v w : Int} {s : Str} {e : Nat}
theorem RK.vx (h : RK rm nd o σ g a) : KVx rm nd o σ g a (bsy a) := ⟨h.1, h.2.2.1, h.2.2.2.1, h.2.2.2.2.1, h.f3⟩
theorem KVx.dep (ho : o = 14 ∨ o = 15) (h : KVx rm nd o σ g A bs) (hf : ∀ p k, (p = 13 ∧ (k = 1 ∨ k = 6)) ∨ (p = 16 ∧ (k = 0 ∨ k = 1 ∨ k = 2 ∨ k = 3 ∨ k = 6 ∨ k = 19 ∨ k = 20 ∨ k = 21 ∨ k = 22 ∨ k = 24 ∨ k = 25 ∨ k = 26 ∨ k = 32)) ∨ (p = o ∧ k = 2) → τ.1 p k = σ.1 p k) (hr : ∀ r, r = 176 ∨ (182 ≤ r ∧ r ≤ 186) ∨ (211 ≤ r ∧ r ≤ 215) ∨ r = 223 + 14 * (o - 14) ∨ r = 221 + 14 * (o - 14) ∨ r = 222 + 14 * (o - 14) → τ.2 r = σ.2 r) : KVx rm nd o τ g A bs := by
  have r1 := rf_1 ho
  obtain ⟨h1, h2, h3, h4, h5⟩ := h
  exact ⟨h1.dep ho (fun p k x => hf p k (by omega)) (fun r x => hr r (by omega)), h2.dep kle.refl cle.refl (hf 16 32 (by omega)) (fun r x y => hr r (by omega)), h3.dep (fun k x => hf 16 k (by omega)) (hr _ (by omega)), h4.dep kle.refl (hf 16 20 (by omega)) (hf 16 24 (by omega)), by rw [hf 16 3 (by omega)]; exact h5⟩
theorem KVx.dy (ho : o = 14 ∨ o = 15) (h : KVx rm nd o σ g A bs) : σ.1 16 2 = (o : Int) ∧ dyD (σ.1 16 2) := by
  have e : σ.1 16 2 = (o : Int) := h.1.2.2.2.2.1.1
  refine ⟨e, ?_⟩
  show σ.1 16 2 = 14 ∨ σ.1 16 2 = 15
  omega
theorem sp_Z_bf {r p n : Nat} (hL : KLn L o rm nd) (h : KZ rm nd o σ g) (hp : p + n ≤ L r ∧ L r ≤ 262144) (hx : x = (p : Int)) (hy : y = (n : Int)) (hs : sl (σ.2 r) p n = s) (hq : ∀ v, Kf (gB g) v s → R v σ) : w_KBook_find L r x y R σ := by
  subst hx hy
  obtain ⟨⟨b1', b2, b3, b4⟩, -⟩ := id h
  refine sp_KBook_find b1' hL.1 ⟨by omega, by omega, by omega, by omega⟩ (fun q hq1 hq2 => ?_) (fun hn => ?_)
  · have hq2' : bstr σ q = s := by rw [← hs]; exact hq2
    have hi : q < (gB g).length := by omega
    exact hq _ (Or.inl (Kn.of hi (by rw [← b4 q hi]; exact hq2')))
  · refine hq _ (Or.inr ⟨rfl, fun z => ?_⟩)
    obtain ⟨j, j1, j2⟩ := mem_gd z
    refine hn j (by omega) (((b4 j j1).trans j2).trans ?_)
    rw [← hs]; rfl
theorem sp_V_entityOf {b : Bool} (hL : KLn L o rm nd) (h : KVx rm nd o σ g A bs) (he : (aE A).length ≤ 8300) (hv : Kf (gB g) v s) (hw : w = b1 b) (hq : R (enc (eno (aE A) s b)) σ) : w_KReader_entityOf L v w R σ := by
  obtain ⟨e1, e2⟩ := h.2.1
  have l2 := hL.2.2.2.2.2.2.1 182 (by omega) (by omega)
  have l3 := hL.2.2.2.2.2.2.1 183 (by omega) (by omega)
  have hn := h.1.2.1
  unfold w_KReader_entityOf
  refine WL_ind (fun k ρ => ρ = σ ∧ ∃ n : Nat, k = (n : Int) ∧ n ≤ (aE A).length ∧ ∀ j, j < n → (fun x : Ent => x.1 == s && x.2.1 == b) ((aE A).getD j ([], false, [])) = false) (fun k _ => (σ.1 16 32 - k).toNat) ?_ 0 σ ⟨rfl, 0, rfl, Nat.zero_le _, fun j hj => absurd hj (Nat.not_lt_zero j)⟩
  rintro k ρ ⟨rfl, n, rfl, hn1, hn2⟩ K hI
  have hF := fidx (p := fun x : Ent => x.1 == s && x.2.1 == b) (d := ([], false, [])) hn1 hn2
  refine WJ_dir ?_
  by_cases c : n < (aE A).length
  · obtain ⟨m1, m2, -⟩ := e2 n c
    rw [if_pos (by omega), show Int.toNat (n : Int) = n from rfl]
    refine ⟨⟨by omega, by omega⟩, fun _ => ⟨by omega, by omega⟩, ?_⟩
    have i1 := Kf.iff hn hv m1
    have i2 : ρ.2 183 n = w ↔ ((aE A).getD n ([], false, [])).2.1 = b := by
      rw [m2, hw]
      cases ((aE A).getD n ([], false, [])).2.1 <;> cases b <;> simp [b1]
    by_cases c2 : ((aE A).getD n ([], false, [])).1 = s ∧ ((aE A).getD n ([], false, [])).2.1 = b
    · rw [if_neg (fun z => z.elim (fun z => z (i1.mpr c2.1)) (fun z => z (i2.mpr c2.2)))]
      dsimp only
      rw [if_pos (by omega)]
      have := hF.1 c (by show (_ == _ && _ == _) = true; rw [c2.1, c2.2]; simp)
      unfold eno at hq
      rw [this] at hq
      exact hq
    · rw [if_pos (Classical.byContradiction (fun z => c2 ⟨i1.mp (Classical.byContradiction (fun y => z (Or.inl y))), i2.mp (Classical.byContradiction (fun y => z (Or.inr y)))⟩))]
      refine ⟨⟨by omega, by omega⟩, hI _ _ ⟨rfl, n + 1, by omega, by omega, fun j hj => ?_⟩ (by omega)⟩
      by_cases cj : j = n
      · rw [cj]
        show (_ == _ && _ == _) = false
        rw [Bool.and_eq_false_iff]
        by_cases c3 : ((aE A).getD n ([], false, [])).1 = s
        · right
          exact beq_eq_false_iff_ne.mpr (fun z => c2 ⟨c3, z⟩)
        · left
          exact beq_eq_false_iff_ne.mpr c3
      · exact hn2 j (by omega)
  · rw [if_neg (by omega)]
    dsimp only
    rw [if_neg (by omega)]
    have := hF.2 (by omega)
    unfold eno at hq
    rw [this] at hq
    exact hq
theorem sp_V_und (hL : KLn L o rm nd) (h : KVx rm nd o σ g A bs) (h6 : aN A 6 ≠ 0 → (aR A).isSome = true) (hV : gV g 22 ≤ 1000000000) (h9 : und A = true → R 0 (pf σ 16 3 9)) (h1 : und A = false → R 1 (pr σ (rfo o 18) 22 ((gV g 22 + 1 : Nat) : Int))) : w_KReader_undeclared L R σ := by
  obtain ⟨n1, n2, n3, n4, n5, n6, n7⟩ := h.2.2.1
  have hr : σ.1 16 20 = (if (aR A).isSome = true then 1 else 0) := h.2.2.2.1.1
  have l18 : L (rfo o 18) = 23 := hL.2.2.2.2.2.2.2.2.2.2.2.2.2.2.2.2.2.2.2.1
  have v22 : σ.2 (rfo o 18) 22 = (gV g 22 : Int) := h.1.2.2.2.2.2 22 (by decide)
  obtain ⟨d1, d2⟩ := h.dy hL.2.1
  unfold w_KReader_undeclared
  have hu : (¬ σ.1 16 20 = 0 ∧ σ.1 16 21 = 0 ∧ ¬ σ.1 16 22 = 0) ↔ und A = false := by
    unfold und
    rw [hr, n5, n6, Bool.or_eq_false_iff, beq_eq_false_iff_ne, beq_eq_false_iff_ne]
    constructor
    · rintro ⟨x1, x2, x3⟩
      refine ⟨fun z => ?_, fun z => ?_⟩
      · rw [if_pos z] at x2; exact absurd x2 (by decide)
      · rw [if_pos z] at x3; exact x3 rfl
    · rintro ⟨x1, x2⟩
      rw [if_pos (h6 x2), if_neg x1, if_neg x2]
      exact ⟨by decide, rfl, by decide⟩
  by_cases c : und A = false
  · rw [if_pos (hu.mpr c), d1, show Int.toNat (o : Int) = o from rfl, show Int.toNat 22 = 22 from rfl, v22]
    rw [d1] at d2
    refine ⟨d2, ⟨by omega, by omega⟩, ⟨by omega, by omega⟩, ⟨by omega, by omega⟩, ?_⟩
    exact h1 c
  · rw [if_neg (fun z => c (hu.mp z))]
    refine sp_K_fail h.2.2.2.2 ⟨Or.inl rfl, h9 ?_⟩
    cases hb : und A with
    | true => rfl
    | false => exact absurd hb c
theorem sp_V_fits {i : Nat} (hL : KLn L o rm nd) (h : KVx rm nd o σ g A bs) (he : (aE A).length ≤ 8300) (hN : aN A 0 ≤ rm) (hi : i < (aE A).length) (hv : v = (i : Int)) (h4 : rm < aN A 0 + ((aE A).getD i ([], false, [])).2.2.length → R 0 (pf σ 16 3 4)) (h10 : ¬ rm < aN A 0 + ((aE A).getD i ([], false, [])).2.2.length → (i + 1) ∈ bs → R 0 (pf σ 16 3 10)) (h1 : ¬ rm < aN A 0 + ((aE A).getD i ([], false, [])).2.2.length → ¬ (i + 1) ∈ bs → R 1 (pf σ 16 25 ((aN A 0 + ((aE A).getD i ([], false, [])).2.2.length : Nat) : Int))) : w_KReader_fits L v R σ := by
  subst hv
  obtain ⟨e1, e2⟩ := h.2.1
  obtain ⟨m1, m2, ⟨pe, q1, q2, -⟩, m4, m5⟩ := e2 i hi
  have hz := h.1.2.2.1.2.1
  have hrm := hL.2.2.1.1
  have l5 := hL.2.2.2.2.2.2.1 185 (by omega) (by omega)
  have l6 := hL.2.2.2.2.2.2.1 186 (by omega) (by omega)
  have n0 : σ.1 16 25 = (aN A 0 : Int) := h.2.2.1.1
  have z0 : σ.1 16 0 = (rm : Int) := h.1.2.2.2.2.1.2.1
  unfold w_KReader_fits
  rw [show Int.toNat (i : Int) = i from rfl, n0, z0, m4]
  refine ⟨⟨by omega, by omega⟩, ⟨by omega, by omega⟩, ?_⟩
  by_cases c : rm < aN A 0 + ((aE A).getD i ([], false, [])).2.2.length
  · rw [if_pos (by omega)]
    exact sp_K_fail h.2.2.2.2 ⟨Or.inl rfl, h4 c⟩
  · rw [if_neg (by omega), m5]
    refine ⟨⟨by omega, by omega⟩, ?_⟩
    by_cases d : (i + 1) ∈ bs
    · rw [if_pos d, if_neg (by decide)]
      exact sp_K_fail h.2.2.2.2 ⟨Or.inl rfl, h10 c d⟩
    · rw [if_neg d, if_pos rfl]
      refine ⟨⟨by omega, by omega⟩, ⟨by omega, by omega⟩, ?_⟩
      exact h1 c d
theorem KVx.add {c : Int} (ho : o = 14 ∨ o = 15) (h : KVx rm nd o σ g A bs) : KVx rm nd o (pf (pr σ (rfo o 1) (gP g).length c) o 2 (((gP g).length : Int) + 1)) (gB g, gC g, gP g ++ [c], gV g) A bs := by
  have r1 := rf_1 ho
  have hu : σ.1 o 2 = ((gP g).length : Int) := h.1.2.2.2.1.1
  have hF : ∀ p k, ¬ (p = o ∧ k = 2) → (pf (pr σ (rfo o 1) (gP g).length c) o 2 (((gP g).length : Int) + 1)).1 p k = σ.1 p k := fun p k x => by rw [pf_1, if_neg x, pr_1]
  have hR : ∀ r : Nat, ¬ (r = 223 + 14 * (o - 14)) → (pf (pr σ (rfo o 1) (gP g).length c) o 2 (((gP g).length : Int) + 1)).2 r = σ.2 r := fun r z => by funext j; rw [pf_2, pr_2, if_neg (by omega)]
  obtain ⟨h1, h2, h3, h4, h5⟩ := h
  refine ⟨h1.pool ho (fun p k x => hF p k (by omega)) (fun r x => hR r (by omega)) (by rw [pf_eq, hu]) (fun j => ?_), h2.dep kle.refl cle.refl (hF 16 32 (by omega)) (fun r x y => hR r (by omega)), h3.dep (fun k x => hF 16 k (by omega)) (hR _ (by omega)), h4.dep kle.refl (hF 16 20 (by omega)) (hF 16 24 (by omega)), by rw [hF 16 3 (by omega)]; exact h5⟩
  rw [pf_2, pr_2, hu]
  by_cases c : j = (gP g).length
  · rw [if_pos ⟨rfl, c⟩, if_pos (by omega)]
  · rw [if_neg (fun z => c z.2), if_neg (by omega)]
theorem KVx.n0 {m : Nat} (ho : o = 14 ∨ o = 15) (h : KVx rm nd o σ g A bs) : KVx rm nd o (pf σ 16 25 (m : Int)) g (sN A 0 m) bs := by
  have hF : ∀ p k, ¬ (p = 16 ∧ k = 25) → (pf σ 16 25 (m : Int)).1 p k = σ.1 p k := fun p k x => by rw [pf_1, if_neg x]
  obtain ⟨h1, h2, h3, h4, h5⟩ := h
  obtain ⟨n1, n2, n3, n4, n5, n6, n7⟩ := h3
  exact ⟨h1.dep ho (fun p k x => hF p k (by omega)) (fun r x => rfl), h2.dep kle.refl cle.refl (hF 16 32 (by omega)) (fun r x y => rfl), ⟨pf_eq, n2, n3, n4, n5, n6, n7⟩, h4.dep kle.refl (hF 16 20 (by omega)) (hF 16 24 (by omega)), by rw [hF 16 3 (by omega)]; exact h5⟩
theorem KVx.n1 {m : Nat} (h : KVx rm nd o σ g A bs) : KVx rm nd o σ g (sN A 1 m) bs := by
  obtain ⟨h1, h2, h3, h4, h5⟩ := h
  obtain ⟨n1, n2, n3, n4, n5, n6, n7⟩ := h3
  exact ⟨h1, h2, ⟨n1, n2, n3, n4, n5, n6, n7⟩, h4, h5⟩
theorem KVx.vio {k m : Nat} (ho : o = 14 ∨ o = 15) (h : KVx rm nd o σ g A bs) (hv : v = ((gV g k + m : Nat) : Int)) : KVx rm nd o (pr σ (rfo o 18) k v) (gB g, gC g, gP g, fun j => gV g j + if j = k then m else 0) A bs := by
  have r1 := rf_1 ho
  have hR : ∀ r : Nat, ¬ (r = 221 + 14 * (o - 14)) → (pr σ (rfo o 18) k v).2 r = σ.2 r := fun r z => by funext j; rw [pr_2, if_neg (by omega)]
  obtain ⟨h0, h2', h3', h4', h5'⟩ := h
  refine ⟨?_, h2'.dep kle.refl cle.refl rfl (fun r x y => hR r (by omega)), h3'.dep (fun k x => rfl) (hR _ (by omega)), h4'.dep kle.refl rfl rfl, h5'⟩
  obtain ⟨⟨h1, h2, h3, h4⟩, h5, ⟨h6, h7, h8, h9⟩, ⟨h10, h11⟩, h12, h13⟩ := h0
  have eb : ∀ s, bstr (pr σ (rfo o 18) k v) s = bstr σ s := fun s => by unfold bstr bst bln; rw [hR 212 (by omega), hR 213 (by omega), hR 214 (by omega)]
  refine ⟨⟨?_, h2, h3, fun i hi => by rw [eb]; exact h4 i hi⟩, h5, ⟨h6, h7, by rw [hR 176 (by omega)]; exact h8, h9⟩, ⟨h10, by rw [hR (rfo o 1) (by omega)]; exact h11⟩, h12, fun j hj => ?_⟩
  · unfold BK at h1 ⊢
    rw [hR 211 (by omega), hR 213 (by omega), hR 214 (by omega), hR 215 (by omega)]
    simp only [eb]
    exact h1
  · show (pr σ (rfo o 18) k v).2 (rfo o 18) j = ((gV g j + if j = k then m else 0 : Nat) : Int)
    rw [pr_2]
    by_cases c : j = k
    · rw [if_pos ⟨rfl, c⟩, if_pos c, c]; exact hv
    · rw [if_neg (fun z => c z.2), if_neg c]; exact h13 j hj
theorem KVx.bz {i : Nat} (ho : o = 14 ∨ o = 15) (h : KVx rm nd o σ g A bs) (hb : ∀ j, j < (aE A).length → (if j = i then x else if (j + 1) ∈ bs then (1 : Int) else 0) = if (j + 1) ∈ bs' then 1 else 0) : KVx rm nd o (pr σ 186 i x) g A bs' := by
  have hR : ∀ r : Nat, ¬ (r = 186) → (pr σ 186 i x).2 r = σ.2 r := fun r z => by funext j; rw [pr_2, if_neg (fun y => z y.1)]
  have r1 := rf_1 ho
  obtain ⟨h1, h2, h3, h4, h5⟩ := h
  refine ⟨h1.dep ho (fun p k x => rfl) (fun r x => hR r (by omega)), KEn.bs h2 rfl (fun r x y => hR r (by omega)) (fun j hj => ?_), h3.dep (fun k x => rfl) (hR _ (by omega)), h4.dep kle.refl rfl rfl, h5⟩
  rw [pr_2, ← hb j hj]
  by_cases c : j = i
  · rw [if_pos ⟨rfl, c⟩, if_pos c]
  · rw [if_neg (fun z => c z.2), if_neg c]
    exact (h2.2 j hj).2.2.2.2
end Kvx
