/-! ===== the reference goes on ===== -/
section Kgo
variable {L : Nat → Nat} {rm nd o : Nat} {σ τ : IS} {g g' : KG} {a a' : AS} {Q : IS → Prop} {R : Int → IS → Prop}
/-- the picture, piece by piece: as it was, or anew -/
theorem RK.mk' (ho : o = 14 ∨ o = 15) (h : RK rm nd o σ g a) (hk : kle (gB g) (gB g')) (hc : cle (gC g) (gC g')) (hp : cle (gP g) (gP g')) (hZ : KZ rm nd o τ g')
    (kF : ((∀ k, 14 ≤ k → k ≤ 17 → τ.1 16 k = σ.1 16 k) ∧ (∀ r, 177 ≤ r → r ≤ 181 → τ.2 r = σ.2 r) ∧ aF a' = aF a) ∨ KFr τ (gC g') (aF a'))
    (kE : (τ.1 16 32 = σ.1 16 32 ∧ (∀ r, 182 ≤ r → r ≤ 186 → τ.2 r = σ.2 r) ∧ aE a' = aE a ∧ bsy a' = bsy a) ∨ KEn τ (gB g') (gC g') (aE a') (bsy a'))
    (kN : ((∀ k, k = 19 ∨ k = 21 ∨ k = 22 ∨ k = 25 ∨ k = 26 → τ.1 16 k = σ.1 16 k) ∧ τ.2 (rfo o 19) = σ.2 (rfo o 19) ∧ aN a' = aN a) ∨ KNu o τ (aN a'))
    (kR : (τ.1 16 20 = σ.1 16 20 ∧ τ.1 16 24 = σ.1 16 24 ∧ aR a' = aR a) ∨ KRo τ (gB g') (aR a'))
    (kD : (τ.1 16 40 = σ.1 16 40 ∧ τ.1 16 47 = σ.1 16 47 ∧ τ.1 16 58 = σ.1 16 58 ∧ (∀ r, (189 ≤ r ∧ r ≤ 198) ∨ r = 207 → τ.2 r = σ.2 r) ∧ aD a' = aD a) ∨ KEd τ (gB g') (aD a'))
    (kA : (τ.1 16 56 = σ.1 16 56 ∧ τ.1 16 58 = σ.1 16 58 ∧ (∀ r, 199 ≤ r → r ≤ 207 → τ.2 r = σ.2 r) ∧ aA a' = aA a) ∨ KAd τ (gB g') (gP g') (aA a'))
    (kT : (τ.1 16 34 = σ.1 16 34 ∧ τ.2 187 = σ.2 187 ∧ aT a' = aT a) ∨ KNt τ (gB g') (aT a'))
    (kL : (τ.1 o 7 = σ.1 o 7 ∧ (∀ k, 3 ≤ k → k ≤ 6 → τ.2 (rfo o k) = σ.2 (rfo o k)) ∧ aL a' = aL a) ∨ KEl o τ (gB g') (aL a'))
    (kO : (τ.1 16 64 = σ.1 16 64 ∧ τ.1 16 66 = σ.1 16 66 ∧ (∀ r, 166 ≤ r → r ≤ 171 → τ.2 r = σ.2 r) ∧ τ.2 181 = σ.2 181 ∧ aF a' = aF a ∧ aL a' = aL a ∧ aO a' = aO a) ∨ KOp τ (gB g') (aF a') (aL a') (aO a'))
    (kB : (τ.1 o 14 = σ.1 o 14 ∧ (∀ k, 8 ≤ k → k ≤ 13 → τ.2 (rfo o k) = σ.2 (rfo o k)) ∧ aA a' = aA a ∧ aB a' = aB a) ∨ KAt o τ (gB g') (gP g') (aA a') (aB a'))
    (kS : ((∀ k, k = 16 ∨ k = 17 ∨ k = 20 → τ.1 o k = σ.1 o k) ∧ τ.2 (rfo o 15) = σ.2 (rfo o 15) ∧ aS a' = aS a ∧ gP g' = gP g ∧ (aL a').length = (aL a).length) ∨ KSt o τ (gB g') (gP g') (aS a') (aL a').length)
    (k3 : τ.1 16 3 = σ.1 16 3) (kP : (τ.1 16 18 = σ.1 16 18 ∧ τ.2 178 = σ.2 178 ∧ (aF a').length = (aF a).length ∧ aN a' 7 = aN a 7 ∧ aN a' 8 = aN a 8 ∧ τ.1 16 47 = σ.1 16 47 ∧ τ.1 16 58 = σ.1 16 58 ∧ aD a' = aD a ∧ aA a' = aA a) ∨ KPl τ a') : RK rm nd o τ g' a' := by
  obtain ⟨h0, h1, h2, h3, h4, h5, h6, h7, h8, h9, h10, h11, h12, h13⟩ := h
  refine ⟨hZ, ?_, ?_, ?_, ?_, ?_, ?_, ?_, ?_, ?_, ?_, ?_, k3.trans h12, ?_⟩
  · rcases kF with ⟨x, y, z⟩ | x
    · rw [z]; exact h1.dep hc x y
    · exact x
  · rcases kE with ⟨x, y, z, w⟩ | x
    · rw [z, w]; exact h2.dep hk hc x y
    · exact x
  · rcases kN with ⟨x, y, z⟩ | x
    · rw [z]; exact h3.dep x y
    · exact x
  · rcases kR with ⟨x, y, z⟩ | x
    · rw [z]; exact h4.dep hk x y
    · exact x
  · rcases kD with ⟨x, y, z, w, v⟩ | x
    · rw [v]; exact h5.dep hk x (by omega) (by omega) (fun r a b => w r (by omega)) (fun r a b i _ => by rw [w r (by omega)]) (fun i _ => by rw [w 207 (by omega)]) (Or.inl y)
    · exact x
  · rcases kA with ⟨x, y, z, w⟩ | x
    · rw [w]; exact h6.dep hk hp x (by omega) (fun r a b => z r a (by omega)) (fun i _ => by rw [z 207 (by omega) (by omega)])
    · exact x
  · rcases kT with ⟨x, y, z⟩ | x
    · rw [z]; exact h7.dep hk x y
    · exact x
  · rcases kL with ⟨x, y, z⟩ | x
    · rw [z]; exact h8.dep hk x y
    · exact x
  · rcases kO with ⟨x, y, z, w, u, v, t⟩ | x
    · rw [u, v, t]; exact h9.dep hk x y z w
    · exact x
  · rcases kB with ⟨x, y, z, w⟩ | x
    · rw [z, w]; exact h10.dep hk hp x y
    · exact x
  · rcases kS with ⟨x, y, z, w, v⟩ | x
    · rw [z, w, v]; exact h11.dep hk x y
    · exact x
  · rcases kP with ⟨x, y, z, w, v, x1, x2, x3, x4⟩ | x
    · unfold KPl at h13 ⊢
      rw [x, y, z, w, v, x1, x2, x3, x4]
      exact h13
    · exact x
theorem RK.f3 (h : RK rm nd o σ g a) : σ.1 16 3 = 0 := h.2.2.2.2.2.2.2.2.2.2.2.2.1
theorem RK.pl (h : RK rm nd o σ g a) : KPl σ a := h.2.2.2.2.2.2.2.2.2.2.2.2.2
/-- where the reader stands -/
theorem RK.at_ (hL : KLn L o rm nd) (h : RK rm nd o σ g a) : ∃ (p : Nat) (q : Nat × Nat) (t : List Frm), aF a = (cur a, q) :: t ∧ σ.1 16 16 = (p : Int) ∧ σ.1 16 17 = ((p + (cur a).length : Nat) : Int) ∧ KT L σ (p + (cur a).length) ∧ chs σ (p + (cur a).length) ∧ SHT (gd (cur a)) (σ.2 176) (cur a).length p ∧ p + (cur a).length ≤ (gC g).length := by
  obtain ⟨⟨-, -, ⟨z1, z2, z3, z4⟩, -⟩, ⟨f1, f2, ⟨f3, f4⟩, -⟩, -⟩ := h
  cases hf : aF a with
  | nil => rw [hf] at f2; exact absurd f2 (Nat.lt_irrefl 0)
  | cons f t =>
    obtain ⟨l, q⟩ := f
    have hc : cur a = l := by unfold cur; rw [hf]
    rw [hf, List.length_cons, show t.length + 1 - 1 = t.length by omega, lvl_top] at f3 f4
    obtain ⟨p, p1, p2, p3⟩ := f3.at_
    have p2' : p + l.length ≤ (gC g).length := p2
    have f4' : σ.1 16 17 = σ.1 16 16 + (l.length : Int) := f4
    rw [hc]
    refine ⟨p, q, t, rfl, p1, by omega, ⟨by omega, hL.2.2.2.1, by omega⟩, fun i hi => ?_, fun k hk => ?_, p2'⟩
    · rw [z3 i (by omega)]
      refine z4 _ ?_
      rw [List.getD_eq_getElem?_getD, List.getElem?_eq_getElem (by omega)]
      exact List.getElem_mem _
    · rw [z3 (p + k) (by omega)]
      exact p3 k hk
theorem KFr.adv {l : List Int} {q : Nat × Nat} {t : List Frm} {k : Nat} {cs : List Int} (h : KFr σ cs ((l, q) :: t)) (hk : k ≤ l.length) (hf : ∀ j, j = 14 ∨ j = 15 ∨ j = 17 → τ.1 16 j = σ.1 16 j) (hr : ∀ r, 177 ≤ r → r ≤ 181 → τ.2 r = σ.2 r) (hp : τ.1 16 16 = σ.1 16 16 + (k : Int)) : KFr τ cs ((l.drop k, q) :: t) := by
  unfold KFr at h ⊢
  rw [List.length_cons, show t.length + 1 - 1 = t.length by omega, lvl_top] at h
  rw [List.length_cons, show t.length + 1 - 1 = t.length by omega, lvl_top, hf 14 (by omega), hf 15 (by omega), hf 17 (by omega), hp, hr 177 (by omega) (by omega), hr 178 (by omega) (by omega), hr 179 (by omega) (by omega), hr 180 (by omega) (by omega), hr 181 (by omega) (by omega)]
  obtain ⟨h1, h2, ⟨h3, h4⟩, h5, h6, h7⟩ := h
  have h3' : Kpc cs (σ.1 16 16) l := h3
  have h4' : σ.1 16 17 = σ.1 16 16 + (l.length : Int) := h4
  refine ⟨h1, h2, ⟨h3'.drop hk, ?_⟩, h5, fun i hi => ?_, fun i hi => ?_⟩
  · show σ.1 16 17 = σ.1 16 16 + (k : Int) + ((l.drop k).length : Int)
    rw [List.length_drop]; omega
  · have := h6 i hi
    by_cases c : i = t.length
    · rw [c, lvl_top] at this ⊢
      exact this
    · rw [lvl_cons (by omega)] at this ⊢
      exact this
  · have := h7 i hi
    rw [lvl_cons (by omega)] at this ⊢
    exact this
/-- the reader alone went on -/
theorem RK.go {k : Nat} (hL : KLn L o rm nd) (h : RK rm nd o σ g a) (hk : k ≤ (cur a).length) : RK rm nd o (pf σ 16 16 (σ.1 16 16 + (k : Int))) g (adv a k) := by
  have ho := hL.2.1
  obtain ⟨p, q, t, hF', -⟩ := h.at_ hL
  have hF : ∀ p k', ¬ (p = 16 ∧ k' = 16) → (pf σ 16 16 (σ.1 16 16 + (k : Int))).1 p k' = σ.1 p k' := fun p k' x => by rw [pf_1, if_neg x]
  have hR : ∀ r : Nat, ¬ (r < 0) → (pf σ 16 16 (σ.1 16 16 + (k : Int))).2 r = σ.2 r := fun _ _ => rfl
  rw [adv_F hF']
  have hfr := h.2.1
  rw [hF'] at hfr
  have hop := h.2.2.2.2.2.2.2.2.2.1
  refine (RK.mk' ho h kle.refl cle.refl cle.refl (h.1.dep ho (fun p k x => hF p k (by omega)) (fun r x => hR r (by omega))) (Or.inr ?_) (Or.inl ⟨hF 16 32 (by omega), fun r x y => hR r (by omega), rfl, ?_⟩) (Or.inl ⟨fun k x => hF 16 k (by omega), hR _ (by have := rf_1 ho; omega), rfl⟩) (Or.inl ⟨hF 16 20 (by omega), hF 16 24 (by omega), rfl⟩) (Or.inl ⟨hF 16 40 (by omega), hF 16 47 (by omega), hF 16 58 (by omega), fun r x => hR r (by omega), rfl⟩) (Or.inl ⟨hF 16 56 (by omega), hF 16 58 (by omega), fun r x y => hR r (by omega), rfl⟩) (Or.inl ⟨hF 16 34 (by omega), hR 187 (by omega), rfl⟩) (Or.inl ⟨hF o 7 (by omega), fun k x y => hR _ (by have := rf_3 ho x y; omega), rfl⟩) (Or.inr ?_) (Or.inl ⟨hF o 14 (by omega), fun k x y => hR _ (by have := rf_8 ho x y; omega), rfl, rfl⟩) (Or.inl ⟨fun k x => hF o k (by omega), hR _ (by have := rf_1 ho; omega), rfl, rfl, rfl⟩) (hF 16 3 (by omega)) (Or.inl ⟨hF 16 18 (by omega), hR 178 (by omega), by rw [hF']; rfl, rfl, rfl, hF 16 47 (by omega), hF 16 58 (by omega), rfl, rfl⟩))
  · exact hfr.adv hk (fun j x => hF 16 j (by omega)) (fun r _ _ => rfl) pf_eq
  · show ((((cur a).drop k, q) :: t).map (fun f => f.2.1)) = bsy a
    unfold bsy
    rw [hF']
    rfl
  · show KOp _ (gB g) (((cur a).drop k, q) :: t) (aL a) (aO a)
    rw [hF'] at hop
    obtain ⟨h1, h2, h3⟩ := hop
    refine ⟨h1, fun k' hk' => ?_, h3⟩
    obtain ⟨a1, a2, a3, j, b1', b2, b3, b4⟩ := h2 k' hk'
    have lv : ∀ i, (lvl (((cur a).drop k, q) :: t) i).2 = (lvl ((cur a, q) :: t) i).2 := fun i => by
      unfold lvl
      rw [List.length_cons, List.length_cons]
      cases hz : t.length + 1 - 1 - i with
      | zero => rfl
      | succ m => rfl
    refine ⟨a1, a2, a3, j, b1', b2, by rw [lv]; exact b3, fun i c1 c2 => by rw [lv]; exact b4 i c1 c2⟩
theorem sp_K_fail {f : Int} (h3 : σ.1 16 3 = 0) (hq : R 0 (pf σ 16 3 f)) : w_KReader_fail L f R σ := by
  unfold w_KReader_fail
  refine WJ_dir ?_
  rw [if_pos h3]
  exact hq
theorem sp_K_written {x : Option Nat} {v : Int} (hv : v = enc x) (h3 : σ.1 16 3 = 0) (h0 : x = none → R 0 (pf σ 16 3 5)) (h1 : ∀ k, x = some k → v = (k : Int) → R 1 σ) : w_KReader_written L v R σ := by
  unfold w_KReader_written
  refine WJ_dir ?_
  refine WJ_dir ?_
  cases x with
  | none =>
    rw [hv, if_pos (show enc none < 0 by decide)]
    refine sp_K_fail h3 ?_
    rw [if_pos rfl]
    exact ⟨Or.inl rfl, h0 rfl⟩
  | some k =>
    have e : enc (some k) = (k : Int) := rfl
    rw [e] at hv
    rw [if_neg (by omega)]
    exact ⟨Or.inr rfl, h1 k rfl hv⟩
/-- room in the pool and among the characters; entities that are not declared -/
def KC (rm : Nat) (g : KG) (a : AS) : Prop := (gP g).length + rem a ≤ aN a 0 ∧ (gC g).length + rem a ≤ aN a 8 + aN a 0 ∧ aN a 0 ≤ rm ∧ gV g 22 = aN a 1
/-- what an item leaves, as the pure machine says: strings that are kept, violations that are counted -/
def KO (rm nd o : Nat) (σ : IS) (g : KG) (Q : IS → Prop) (r : Nat ⊕ AS) (nm : List Str) (dv : Nat → Nat) : Prop := (∀ f, r = .inl f → ∀ σ', σ'.1 16 3 = (f : Int) → σ'.1 16 4 = σ.1 16 4 → Q σ') ∧ ∀ a', r = .inr a' → ∀ σ' g', RK rm nd o σ' g' a' → gB g' = kpL (gB g) nm → (aE a' = [] → gC g' = gC g) → (∀ k, k ≠ 22 → gV g' k = gV g k + dv k) → KC rm g' a' → σ'.1 16 4 = σ.1 16 4 → σ'.1 16 15 ≤ σ.1 16 15 + 1 → Q σ'
end Kgo
