/-! ===== items of the class: a declared attribute is kept ===== -/
section JI16
variable {L : Nat → Nat} {rm nd : Nat} {σ τ : IS} {a : AS} {Q : IS → Prop}
theorem fnd_app {ad : List ADc} {x : ADc} {s : Str} {j : Nat} (hj : j ≤ ad.length) : fnd (ad ++ [x]) s j = if fnd ad s j = none then (if x.1 = s then some ad.length else none) else fnd ad s j := by
  have hg : ∀ k, k < ad.length → (ad ++ [x]).getD k adD = ad.getD k adD := fun k hk => by rw [getD_snoc, if_pos hk]
  have hg2 : (ad ++ [x]).getD ad.length adD = x := by rw [getD_snoc, if_neg (by omega), if_pos rfl]
  have hl : (ad ++ [x]).length = ad.length + 1 := by rw [List.length_append]; rfl
  cases h : fnd ad s j with
  | none =>
    rw [if_pos rfl]
    have hn := fnd_none h
    by_cases c : x.1 = s
    · rw [if_pos c]
      refine fnd_mk hj (by omega) (by rw [hg2]; exact c) (fun k k1 k2 => by rw [hg k k2]; exact hn k k1 k2)
    · rw [if_neg c]
      refine fnd_mk0 (fun k k1 k2 => ?_)
      by_cases c2 : k < ad.length
      · rw [hg k c2]; exact hn k k1 c2
      · rw [show k = ad.length by omega, hg2]; exact c
  | some i =>
    rw [if_neg (by intro z; cases z)]
    obtain ⟨f1, f2, f3, f4⟩ := fnd_some h
    exact fnd_mk f1 (by omega) (by rw [hg i f2]; exact f3) (fun k k1 k2 => by rw [hg k (by omega)]; exact f4 k k1 k2)
set_option maxHeartbeats 2000000 in
theorem sp_addAttribute {x y v : Int} {el nm vl : Str} {ty dk b : Nat} {ls : List Str} (hln : JLn L rm nd) (h : RJ L rm nd (pf σ 4 16 (b : Int)) a) (hn : (aA a).length ≤ rm / 8) (hx : Jn σ x el) (hy : Jn σ y nm) (h16 : σ.1 4 16 = (b : Int) + (ls.length : Int)) (hb : b + ls.length ≤ 200000) (hls : ∀ k, k < ls.length → Jn σ (σ.2 124 (b + k)) (ls.getD k [])) (hv : 3 ≤ dk → Jn σ v vl)
    (hq : ∀ σ', RJ L rm nd σ' (sA a (if (adf (aA a) el nm).isSome = true then aA a else aA a ++ [(el, nm, ty, dk, vl, ls)])) → (∀ o k, ¬ (o = 4 ∧ (k = 12 ∨ k = 14 ∨ k = 16)) → σ'.1 o k = σ.1 o k) → σ'.1 4 16 ≤ σ.1 4 16 ∧ 0 ≤ σ'.1 4 16 → sgr σ σ' → Q σ') : w_Declared_addAttribute L x y ((ty : Int) + 10) (jhw dk) v (b : Int) Q σ := by
  have hrm := hln.2.1
  generalize hβ : pf σ 4 16 (b : Int) = β at *
  have hβf : ∀ o k, ¬ (o = 4 ∧ k = 16) → β.1 o k = σ.1 o k := fun o k hk => by rw [← hβ, pf_1, if_neg hk]
  have hβr : β.2 = σ.2 := by rw [← hβ]; rfl
  have hβ16 : β.1 4 16 = (b : Int) := by rw [← hβ, pf_eq]
  have hZβ := h.1
  obtain ⟨hZ, hgβσ⟩ := hZβ.out (σ' := σ) (fun o k hk => (hβf o k (by omega)).symm) (fun r _ => by rw [hβr])
  obtain ⟨-, hgσβ⟩ := hZ.out (σ' := β) (fun o k hk => hβf o k (by omega)) (fun r _ => by rw [hβr])
  have hAd := h.2.2.2.2.2.2.1
  obtain ⟨a1, a2, a3, a4⟩ := id hAd
  have hxr := hx.rng hZ.1
  have hL126 : L 126 = L 102 := hln.2.2.2.2.2.1.2.2.2.1
  have hL148 : L 148 = rm / 8 + 2 := hln.2.2.2.2.2.2.2.1.2
  have hLr := fun r h1 h2 => hln.2.2.2.2.2.2.2.1.1 r h1 h2
  have hL118 := hLr 118 (by omega) (by omega)
  have hL119 := hLr 119 (by omega) (by omega)
  have hL120 := hLr 120 (by omega) (by omega)
  have hL121 := hLr 121 (by omega) (by omega)
  have hL122 := hLr 122 (by omega) (by omega)
  have hL123 := hLr 123 (by omega) (by omega)
  have hAσ : JAd L σ (aA a) := by
    refine ⟨by rw [← hβf 4 12 (by omega)]; exact a1, fun i hi => ?_, ?_, by omega⟩
    · obtain ⟨b1, b2, b3, b4, b5, ⟨c, c1, c2, c3⟩, b7⟩ := a2 i hi
      rw [hβr] at b1 b2 b3 b4 b5 c1 b7 c3
      exact ⟨b1.gr hgβσ, b2, b3, fun z => (b4 z).gr hgβσ, b5, ⟨c, c1, by omega, fun k hk => (c3 k hk).gr hgβσ⟩, b7⟩
    · exact a3.gr hgβσ hZ.1 hln.1 (by rw [hβr])
  have h412 : σ.1 4 12 = ((aA a).length : Int) := hAσ.1
  unfold w_Declared_addAttribute
  refine sp_fnd hln hZ hAσ hn hx hy (fun i z hi => ?_) (fun hno l hl => ?_)
  · rw [if_neg (by rintro ⟨z1, -⟩; omega)]
    have hR := (h.f414 (x := z) hln)
    have e1 : pf (pf σ 4 14 z) 4 16 (b : Int) = pf β 4 14 z := by rw [← hβ]; exact pf_comm (by omega)
    rw [e1]
    refine hq _ ?_ (fun o k hk => by rw [pf_1, if_neg (by omega)]; exact hβf o k (by omega)) (by rw [pf_nk (by decide), hβ16]; omega) (hgσβ.trans hR.2)
    rw [hi]
    exact hR.1
  · rw [h412, if_pos ⟨rfl, by omega⟩]
    have e14 : (pf σ 4 14 (en1 l - 1)).1 4 14 = en1 l - 1 := pf_eq
    have e16 : (pf σ 4 14 (en1 l - 1)).1 4 16 = (b : Int) + (ls.length : Int) := by rw [pf_nk (by decide)]; exact h16
    rw [e14, e16, show Int.toNat ((aA a).length : Int) = (aA a).length by omega, show (b : Int) + (ls.length : Int) - (b : Int) = (ls.length : Int) by omega]
    refine ⟨⟨by omega, by omega⟩, ⟨by omega, by omega⟩, ⟨by omega, by omega⟩, ⟨by omega, by omega⟩, ⟨by omega, by omega⟩, ⟨by omega, by omega⟩, ⟨by omega, by omega⟩, ⟨by omega, by omega⟩, ?_⟩
    generalize hN : (aA a).length = N at *
    generalize hφ : pr (pr (pr (pr (pr (pr (pr (pf σ 4 14 (en1 l - 1)) 148 N y) 118 N ((ty : Int) + 10)) 119 N (jhw dk)) 120 N v) 121 N (b : Int)) 122 N (ls.length : Int)) 123 N (-1) = φ
    have hφf : ∀ o k, ¬ (o = 4 ∧ k = 14) → φ.1 o k = σ.1 o k := fun o k hk => by rw [← hφ]; simp only [pr_1]; rw [pf_1, if_neg hk]
    have hφr : ∀ r i, ¬ ((r = 148 ∨ (118 ≤ r ∧ r ≤ 123)) ∧ i = N) → φ.2 r i = σ.2 r i := fun r i hk => by
      rw [← hφ, pr_2, if_neg (by omega), pr_2, if_neg (by omega), pr_2, if_neg (by omega), pr_2, if_neg (by omega), pr_2, if_neg (by omega), pr_2, if_neg (by omega), pr_2, if_neg (by omega), pf_2]
    have hnew : φ.2 148 N = y ∧ φ.2 118 N = (ty : Int) + 10 ∧ φ.2 119 N = jhw dk ∧ φ.2 120 N = v ∧ φ.2 121 N = (b : Int) ∧ φ.2 122 N = (ls.length : Int) ∧ φ.2 123 N = -1 := by
      rw [← hφ]
      simp [pr_2]
    -- whatever of the two
    have hfin : ∀ χ : IS, (∀ o k, χ.1 o k = φ.1 o k) → (∀ r i, r ≠ 126 → r ≠ 123 → χ.2 r i = φ.2 r i) → (∀ i, i < N → χ.2 123 i + 1 = en1 (adX (aA a ++ [(el, nm, ty, dk, vl, ls)]) i)) → χ.2 123 N = -1 → WM L χ 126 (fun s => en1 (adE (aA a ++ [(el, nm, ty, dk, vl, ls)]) s)) → inR (χ.1 4 12 + 1) ∧ Q (pf χ 4 12 (χ.1 4 12 + 1)) := by
      intro χ x1 x2 x3 x4 x5
      have e12 : χ.1 4 12 = (N : Int) := by rw [x1, hφf 4 12 (by omega)]; exact h412
      rw [e12]
      refine ⟨⟨by omega, by omega⟩, ?_⟩
      generalize hψ : pf χ 4 12 ((N : Int) + 1) = ψ
      have hψf : ∀ o k, ¬ (o = 4 ∧ (k = 12 ∨ k = 14)) → ψ.1 o k = σ.1 o k := fun o k hk => by rw [← hψ, pf_1, if_neg (by omega), x1, hφf o k (by omega)]
      have hψχ : ψ.2 = χ.2 := by rw [← hψ]; rfl
      have hψr : ∀ r i, ¬ ((r = 148 ∨ (118 ≤ r ∧ r ≤ 122)) ∧ i = N) → r ≠ 126 → r ≠ 123 → ψ.2 r i = σ.2 r i := fun r i hk h1 h2 => by rw [hψχ, x2 r i h1 h2, hφr r i (by omega)]
      have hψrr : ∀ r, ¬ (r = 148 ∨ (118 ≤ r ∧ r ≤ 123) ∨ r = 126) → ψ.2 r = σ.2 r := fun r hr => funext (fun i => hψr r i (by omega) (by omega) (by omega))
      obtain ⟨hZψ, hgψ⟩ := hZ.out (σ' := ψ) (fun o k hk => hψf o k (by omega)) (fun r hr => hψrr r (by omega))
      obtain ⟨hZψ', hgβψ⟩ := hZβ.out (σ' := ψ) (fun o k hk => by rw [hβf o k (by omega)]; exact hψf o k (by omega)) (fun r hr => by rw [hβr]; exact hψrr r (by omega))
      have hA : ∀ (F : Nat → Nat → Bool) (R : Nat → Bool), (∀ o k, F o k = true → ¬ (o = 4 ∧ (k = 12 ∨ k = 14 ∨ k = 16))) → (∀ r, R r = true → ¬ (r = 148 ∨ (118 ≤ r ∧ r ≤ 123) ∨ r = 126)) → ag F R β ψ := fun F R y1 y2 => ⟨fun o k hk => by have := y1 o k hk; rw [hβf o k (by omega)]; exact hψf o k (by omega), fun r hr => by rw [hβr]; exact hψrr r (y2 r hr)⟩
      refine hq ψ ?_ (fun o k hk => hψf o k (by omega)) (by rw [hψf 4 16 (by omega), h16]; omega) hgψ
      rw [hno]
      show RJ L rm nd ψ (sA a (aA a ++ [(el, nm, ty, dk, vl, ls)]))
      refine h.mk' hln hZψ' hgβψ (Or.inl ⟨hA _ _ (fun o k hk => by simp [fFr] at hk; omega) (fun r hr => by simp [rFr] at hr; omega), rfl, rfl⟩) (Or.inl ⟨hA _ _ (fun o k hk => by simp [fEn] at hk; omega) (fun r hr => by simp [rEn] at hr; omega), rfl, rfl⟩) (Or.inl ⟨hA _ _ (fun o k hk => by simp [fNu] at hk; omega) (fun r hr => by simp [rNo] at hr), rfl⟩) (Or.inl ⟨hA _ _ (fun o k hk => by simp [fRo] at hk; omega) (fun r hr => by simp [rNo] at hr), rfl⟩) (Or.inl ⟨hA _ _ (fun o k hk => by simp [fEd] at hk; omega) (fun r hr => by simp [rEd] at hr; omega), rfl⟩) (Or.inr ?_) (Or.inl ⟨hA _ _ (fun o k hk => by simp [fNt] at hk; omega) (fun r hr => by simp [rNt] at hr; omega), rfl⟩) (Or.inl ⟨hA _ _ (fun o k hk => by simp [fEl] at hk; omega) (fun r hr => by simp [rEl] at hr; omega), rfl, rfl⟩) (Or.inl ⟨hA _ _ (fun o k hk => by simp [fAt] at hk; omega) (fun r hr => by simp [rAt] at hr; omega), rfl⟩) (Or.inl ⟨hA _ _ (fun o k hk => by simp [fSt] at hk; omega) (fun r hr => by simp [rSt] at hr; omega), rfl⟩) ⟨by rw [hψf 2 4 (by omega), ← hβf 2 4 (by omega)]; exact h.2.2.2.2.2.2.2.2.2.2.2.1, by rw [hψf 2 6 (by omega), ← hβf 2 6 (by omega)]; exact h.2.2.2.2.2.2.2.2.2.2.2.2⟩
      show JAd L ψ (aA a ++ [(el, nm, ty, dk, vl, ls)])
      have hψ16 : ψ.1 4 16 = (b : Int) + (ls.length : Int) := by rw [hψf 4 16 (by omega)]; exact h16
      refine ⟨by rw [← hψ, pf_eq, List.length_append, hN]; rfl, fun i hi => ?_, ?_, by rw [hψ16]; omega⟩
      · rw [List.length_append, hN] at hi
        have hi' : i < N + 1 := hi
        rw [getD_snoc, hN]
        by_cases ci : i < N
        · rw [if_pos ci]
          obtain ⟨b1, b2, b3, b4, b5, ⟨c, c1, c2, c3⟩, b7⟩ := hAσ.2.1 i (by omega)
          obtain ⟨-, -, -, -, -, ⟨c', c1', c2', -⟩, -⟩ := a2 i (by omega)
          rw [hβr] at c1'
          rw [hψr 148 i (by omega) (by decide) (by decide), hψr 118 i (by omega) (by decide) (by decide), hψr 119 i (by omega) (by decide) (by decide), hψr 120 i (by omega) (by decide) (by decide), hψr 121 i (by omega) (by decide) (by decide), hψr 122 i (by omega) (by decide) (by decide), hψrr 124 (by omega)]
          exact ⟨b1.gr hgψ, b2, b3, fun z => (b4 z).gr hgψ, b5, ⟨c, c1, by rw [hψ16]; omega, fun k hk => (c3 k hk).gr hgψ⟩, by rw [hψχ]; exact x3 i ci⟩
        · have ci2 : i = N := by omega
          rw [if_neg ci, if_pos ci2, ci2]
          obtain ⟨n1, n2, n3, n4, n5, n6, n7⟩ := hnew
          rw [hψχ, x2 148 N (by decide) (by decide), x2 118 N (by decide) (by decide), x2 119 N (by decide) (by decide), x2 120 N (by decide) (by decide), x2 121 N (by decide) (by decide), x2 122 N (by decide) (by decide), n1, n2, n3, n4, n5, n6, x4]
          refine ⟨hy.gr hgψ, rfl, rfl, fun z => (hv z).gr hgψ, rfl, ⟨b, rfl, (by rw [hψ16]; exact Int.le_refl _), fun k hk => ?_⟩, ?_⟩
          · have : χ.2 124 = σ.2 124 := by rw [← hψχ]; exact hψrr 124 (by omega)
            rw [this]
            exact (hls k hk).gr hgψ
          · have : adX (aA a ++ [(el, nm, ty, dk, vl, ls)]) N = none := by
              rw [adX_fnd]
              refine fnd_mk0 (fun k k1 k2 => ?_)
              rw [List.length_append, hN] at k2
              have : k < N + 1 := k2
              omega
            rw [this]
            rfl
      · exact x5.gr (by obtain ⟨-, z⟩ := (hZ.out (σ' := χ) (fun o k hk => by rw [x1, hφf o k (by omega)]) (fun r hr => funext (fun i => by rw [x2 r i (by omega) (by omega), hφr r i (by omega)]))).1.out (σ' := ψ) (fun o k hk => by rw [← hψ, pf_1, if_neg (by omega)]) (fun r _ => by rw [hψχ]); exact z) hZψ.1 hln.1 (by rw [hψχ])
    -- whom the new one follows
    have hSφ := hZ.out (σ' := φ) (fun o k hk => hφf o k (by omega)) (fun r hr => funext (fun i => hφr r i (by omega)))
    have hWφ := hAσ.2.2.1.gr hSφ.2 hSφ.1.1 hln.1 (funext (fun i => hφr 126 i (by omega)))
    have hwx : wst φ x.toNat = el := ((hx.gr hSφ.2).rng hSφ.1.1).2.2.2.2
    have hjφ : jw φ = jw σ := by unfold jw; rw [hφf 1 14 (by omega)]
    have hadX : ∀ i, i < N → adX (aA a ++ [(el, nm, ty, dk, vl, ls)]) i = if adX (aA a) i = none ∧ ((aA a).getD i adD).1 = el then some N else adX (aA a) i := by
      intro i hi
      rw [adX_fnd, adX_fnd, getD_snoc, hN, if_pos hi, fnd_app (by omega), hN]
      by_cases c1 : fnd (aA a) ((aA a).getD i adD).1 (i + 1) = none
      · rw [if_pos c1]
        by_cases c2 : ((aA a).getD i adD).1 = el
        · rw [if_pos c2.symm, if_pos ⟨c1, c2⟩]
        · rw [if_neg (fun z => c2 z.symm), if_neg (fun z => c2 z.2), c1]
      · rw [if_neg c1, if_neg (fun z => c1 z.1)]
    have hadE : ∀ s, en1 (adE (aA a ++ [(el, nm, ty, dk, vl, ls)]) s) = if adE (aA a) s = none ∧ s = el then (N : Int) + 1 else en1 (adE (aA a) s) := by
      intro s
      rw [adE_fnd, adE_fnd, fnd_app (Nat.zero_le _), hN]
      by_cases c1 : fnd (aA a) s 0 = none
      · rw [if_pos c1]
        by_cases c2 : s = el
        · rw [if_pos c2.symm, if_pos ⟨c1, c2⟩]; rfl
        · rw [if_neg (fun z => c2 z.symm), if_neg (fun z => c2 z.2), c1]
      · rw [if_neg c1, if_neg (fun z => c1 z.1)]
    unfold WJ
    dsimp only
    cases l with
    | none =>
      rw [if_pos (by rfl)]
      refine ⟨⟨by omega, by omega⟩, ⟨by omega, by omega⟩, ?_⟩
      have hnon := hl.2 rfl
      refine hfin _ (fun _ _ => rfl) (fun r i h1 _ => by rw [pr_2, if_neg (fun z => h1 z.1)]) (fun i hi => ?_) (by rw [pr_2, if_neg (by omega)]; exact hnew.2.2.2.2.2.2) ?_
      · rw [pr_2, if_neg (by omega), hφr 123 i (by omega), hadX i hi, if_neg (fun z => hnon i (by omega) z.2)]
        exact (hAσ.2.1 i (by omega)).2.2.2.2.2.2
      · refine (hWφ.set (x := (N : Int) + 1) hSφ.1.1 (by omega) (by rw [hjφ]; exact hxr.2.2.2.1)).cong (fun s => ?_)
        rw [hwx, hadE]
        by_cases c : s = el
        · rw [if_pos c, if_pos ⟨by rw [c, adE_fnd]; exact fnd_mk0 (fun k _ k2 => hnon k (by omega)), c⟩]
        · rw [if_neg c, if_neg (fun z => c z.2)]
    | some p =>
      obtain ⟨l1, l2, l3⟩ := hl.1 p rfl
      have ep : en1 (some p) - 1 = (p : Int) := by show (p : Int) + 1 - 1 = _; omega
      rw [ep, if_neg (by omega), show Int.toNat (p : Int) = p by omega]
      refine ⟨⟨by omega, by omega⟩, ?_⟩
      refine hfin _ (fun _ _ => rfl) (fun r i _ h2 => by rw [pr_2, if_neg (fun z => h2 z.1)]) (fun i hi => ?_) (by rw [pr_2, if_neg (by omega)]; exact hnew.2.2.2.2.2.2) ?_
      · rw [pr_2, hadX i hi]
        by_cases c : i = p
        · rw [if_pos ⟨rfl, c⟩, if_pos]
          · rfl
          · rw [c, adX_fnd, l2]
            exact ⟨fnd_mk0 (fun k k1 k2 => l3 k (by omega) (by omega)), rfl⟩
        · rw [if_neg (fun z => c z.2), hφr 123 i (by omega), if_neg]
          · exact (hAσ.2.1 i (by omega)).2.2.2.2.2.2
          · rintro ⟨z1, z2⟩
            rw [adX_fnd, z2] at z1
            rcases Nat.lt_or_ge i p with z3 | z3
            · exact fnd_none z1 p (by omega) (by omega) l2
            · exact l3 i (by omega) (by omega) z2
      · have hW2 : WM L (pr φ 123 p (N : Int)) 126 (fun s => en1 (adE (aA a) s)) := by
          have hS2 := SI_pr (r := 123) (i := p) (x := (N : Int)) hSφ.1.1 (by omega)
          exact hWφ.gr hS2.2 hS2.1 hln.1 (funext (fun i => by rw [pr_2, if_neg (by omega)]))
        refine hW2.cong (fun s => ?_)
        rw [hadE, if_neg]
        rintro ⟨z1, z2⟩
        rw [adE_fnd, z2] at z1
        exact fnd_none z1 p (by omega) (by omega) l2
end JI16
