/-! ===== items of the reference: a declared element ===== -/
/-- what a declaration keeps -/
def nmEl (a : AS) : List Str := nmX (gd (cur a)) (cur a).length (elc (gd (cur a)) (cur a).length 0) ++ (match spc (gd (cur a)) (cur a).length (some 9), elk (gd (cur a)) (cur a).length 0, elc (gd (cur a)) (cur a).length 0 with
  | some s, some _, some c => (match nmg (gd (cur a)) (cur a).length true (some s) with
    | none => []
    | some n => sl (gd (cur a)) s (n - s) :: (if cnK (gd (cur a)) (cur a).length c = 3 then bnm (gd (cur a)) ((mdl (gd (cur a)) (cur a).length c).getD (0, 0, 0)).1 (((mdl (gd (cur a)) (cur a).length c).getD (0, 0, 0)).1 + 1) c else []))
  | _, _, _ => [])
/-- what one declaration of an element violates -/
def dvX (ed : List EDc) (x : EDc) (k : Nat) : Nat := if k = 2 then (if (edf ed x.1).isSome = true then 1 else 0) else if k = 3 then (if x.2.1 = 2 then rpk (mxN x) (mxN x).length else 0) else if k = 4 then (if x.2.1 = 3 ∧ dtm (mvE x).2 (mvE x).1 (mvE x).2.length = false then 1 else 0) else 0
def dvE (a : AS) (k : Nat) : Nat := match spc (gd (cur a)) (cur a).length (some 9), elk (gd (cur a)) (cur a).length 0, elc (gd (cur a)) (cur a).length 0 with
  | some s, some kk, some c => (match nmg (gd (cur a)) (cur a).length true (some s) with
    | none => 0
    | some n => dvX (aD a) (sl (gd (cur a)) s (n - s), cnK (gd (cur a)) (cur a).length c, sl (gd (cur a)) c (kk - c)) k)
  | _, _, _ => 0
/-- how many nodes a declaration makes for a while -/
def elB (a : AS) : Nat := match elk (gd (cur a)) (cur a).length 0, elc (gd (cur a)) (cur a).length 0 with
  | some kk, some c => if cnK (gd (cur a)) (cur a).length c = 3 then (bldN ([], 3, sl (gd (cur a)) c (kk - c))).length else 0
  | _, _ => 0
section Kee
variable {L : Nat → Nat} {rm nd o : Nat} {σ ρ τ : IS} {g g' g2 : KG} {a : AS} {Q : IS → Prop} {R : Int → IS → Prop} {bk bk' : List Str} {ed : List EDc} {x : EDc} {v : Int}
theorem KZ.vio {k m : Nat} (ho : o = 14 ∨ o = 15) (h : KZ rm nd o σ g) (hv : v = ((gV g k + m : Nat) : Int)) : KZ rm nd o (pr σ (rfo o 18) k v) (gB g, gC g, gP g, fun j => gV g j + if j = k then m else 0) := by
  have r1 := rf_1 ho
  have hR : ∀ r : Nat, ¬ (r = 221 + 14 * (o - 14)) → (pr σ (rfo o 18) k v).2 r = σ.2 r := fun r z => by funext j; rw [pr_2, if_neg (by omega)]
  obtain ⟨⟨h1, h2, h3, h4⟩, h5, ⟨h6, h7, h8, h9⟩, ⟨h10, h11⟩, h12, h13⟩ := h
  have eb : ∀ s, bstr (pr σ (rfo o 18) k v) s = bstr σ s := fun s => by unfold bstr bst bln; rw [hR 212 (by omega), hR 213 (by omega), hR 214 (by omega)]
  refine ⟨⟨?_, h2, h3, fun i hi => by rw [eb]; exact h4 i hi⟩, h5, ⟨h6, h7, by rw [hR 176 (by omega)]; exact h8, h9⟩, ⟨h10, by rw [hR (rfo o 1) (by omega)]; exact h11⟩, h12, fun j hj => ?_⟩
  · unfold BK at h1 ⊢
    rw [hR 211 (by omega), hR 213 (by omega), hR 214 (by omega), hR 215 (by omega)]
    simp only [eb]
    exact h1
  · show (pr σ (rfo o 18) k v).2 (rfo o 18) j = ((gV g j + if j = k then m else 0 : Nat) : Int)
    rw [pr_2]
    by_cases c : j = k
    · rw [if_pos ⟨rfl, c⟩, if_pos c, c]; exact hv
    · rw [if_neg (fun z => c z.2), if_neg c]; exact h13 j hj
theorem KEd.snoc (h : KEd σ bk ed) (hk : kle bk bk') (hx : ¬ x.1 ∈ (fE ed).map (fun y => y.1)) (h40 : τ.1 16 40 = σ.1 16 40 + 1) (h47 : σ.1 16 47 ≤ τ.1 16 47) (h58 : σ.1 16 58 ≤ τ.1 16 58) (hr : ∀ r, 189 ≤ r → r ≤ 192 → ∀ i, i < (fE ed).length → τ.2 r i = σ.2 r i) (hn : ∀ r, 193 ≤ r → r ≤ 198 → ∀ i : Nat, (i : Int) < σ.1 16 47 → τ.2 r i = σ.2 r i) (hl : ∀ i : Nat, (i : Int) < σ.1 16 58 → τ.2 207 i = σ.2 207 i) (hx47 : τ.1 16 47 = σ.1 16 47 ∨ ∀ i : Nat, (i : Int) = σ.1 16 47 → τ.2 198 i = -1)
    (n1 : Kn bk' (τ.2 189 (fE ed).length) x.1) (n2 : τ.2 190 (fE ed).length = (x.2.1 : Int) + 1) (n3 : x.2.1 = 2 → KLs τ bk' (τ.2 191 (fE ed).length) (mxN x) ∧ τ.2 192 (fE ed).length = ((mxN x).length : Int)) (n4 : x.2.1 = 3 → ∃ n0 : Nat, τ.2 191 (fE ed).length = (n0 : Int) ∧ (n0 : Int) + ((bldN x).length : Int) ≤ τ.1 16 47 ∧ KTr τ bk' n0 (bldN x) ∧ ((n0 : Int) + ((bldN x).length : Int) = τ.1 16 47 ∨ τ.2 198 (n0 + (bldN x).length) = -1)) (n5 : x.2.1 ≠ 2 → τ.2 192 (fE ed).length = 0) : KEd τ bk' (ed ++ [x]) := by
  obtain ⟨h1, h2, h3, h4⟩ := h
  unfold KEd
  rw [fE_app, if_neg hx]
  refine ⟨by rw [h40, h1, List.length_append, List.length_singleton]; omega, fun i hi => ?_, by omega, by omega⟩
  rw [List.length_append, List.length_singleton] at hi
  by_cases ci : i = (fE ed).length
  · have hg : (fE ed ++ [x]).getD i ([], 0, []) = x := by rw [ci, getD_snoc, if_neg (Nat.lt_irrefl _), if_pos rfl]
    rw [hg, ci]
    exact ⟨n1, n2, n3, n4, n5⟩
  · have hi' : i < (fE ed).length := by omega
    have hg : (fE ed ++ [x]).getD i ([], 0, []) = (fE ed).getD i ([], 0, []) := by rw [getD_snoc, if_pos hi']
    rw [hg, hr 189 (by omega) (by omega) i hi', hr 190 (by omega) (by omega) i hi', hr 191 (by omega) (by omega) i hi', hr 192 (by omega) (by omega) i hi']
    obtain ⟨k1, k2, k3, k4, k5⟩ := h2 i hi'
    refine ⟨k1.le hk, k2, fun z => ⟨(k3 z).1.dep hk h58 hl, (k3 z).2⟩, fun z => ?_, k5⟩
    obtain ⟨n0, m1, m2, m3, m4⟩ := k4 z
    refine ⟨n0, m1, by omega, m3.dep hk (fun r a b j hj => hn r a b j (by omega)), ?_⟩
    by_cases c : (n0 : Int) + ((bldN ((fE ed).getD i ([], 0, []))).length : Int) = σ.1 16 47
    · rcases hx47 with y | y
      · exact Or.inl (c.trans y.symm)
      · exact Or.inr (y (n0 + (bldN ((fE ed).getD i ([], 0, []))).length) (by omega))
    · refine Or.inr ?_
      have e := hn 198 (by omega) (by omega) (n0 + (bldN ((fE ed).getD i ([], 0, []))).length) (by omega)
      rw [e]
      exact m4.resolve_left c
theorem nNd_s : nNd (ed ++ [x]) = nNd ed + (if x.1 ∈ (fE ed).map (fun y => y.1) then 0 else if x.2.1 = 3 then (bldN x).length else 0) := by
  unfold nNd
  rw [fE_app]
  by_cases c : x.1 ∈ (fE ed).map (fun y => y.1)
  · rw [if_pos c, if_pos c, Nat.add_zero]
  · rw [if_neg c, if_neg c, List.map_append, List.sum_append]
    simp
theorem nLs_s {ad : List ADc} : nLs (ed ++ [x]) ad = nLs ed ad + (if x.1 ∈ (fE ed).map (fun y => y.1) then 0 else if x.2.1 = 2 then (mxN x).length else 0) := by
  unfold nLs
  rw [fE_app]
  by_cases c : x.1 ∈ (fE ed).map (fun y => y.1)
  · rw [if_pos c, if_pos c, Nat.add_zero]
  · rw [if_neg c, if_neg c, List.map_append, List.sum_append]
    simp
    omega
/-- what a declaration of an element has changed so far -/
def EVk (rm nd o : Nat) (σ : IS) (g : KG) (b n0 : Nat) (ρ : IS) (g2 : KG) (nm : List Str) (V : Nat → Nat) : Prop := KZ rm nd o ρ g2 ∧ gB g2 = kpL (gB g) nm ∧ (gC g2 = gC g ∧ gP g2 = gP g) ∧ (∀ k, gV g2 k = gV g k + V k) ∧ (∀ pp kk, ¬ ((pp = 13 ∧ (kk = 1 ∨ kk = 6)) ∨ (pp = 16 ∧ (kk = 47 ∨ kk = 58 ∨ kk = 73 ∨ kk = 76 ∨ kk = 77))) → ρ.1 pp kk = σ.1 pp kk) ∧ (∀ r, ¬ ((172 ≤ r ∧ r ≤ 175) ∨ (193 ≤ r ∧ r ≤ 198) ∨ r = 207 ∨ (211 ≤ r ∧ r ≤ 215) ∨ r = 221 + 14 * (o - 14)) → ρ.2 r = σ.2 r) ∧ (∀ i, i < b → ρ.2 207 i = σ.2 207 i) ∧ ∀ r j, 193 ≤ r → r ≤ 198 → j < n0 → ρ.2 r j = σ.2 r j
set_option maxHeartbeats 4000000 in
/-- the declaration is kept, or forgotten -/
theorem RK.eld {b n0 : Nat} {nm : List Str} {V : Nat → Nat} {v33 : Int} {X : IS} {lst : List Str} (hL : KLn L o rm nd) (h : RK rm nd o σ g a) (hb : σ.1 16 58 = (b : Int)) (hn0 : σ.1 16 47 = (n0 : Int)) (hE : EVk rm nd o σ g b n0 ρ g2 nm V) (hv : Kn (gB g2) v33 x.1) (hls : KLq ρ (gB g2) b lst) (hlst : lst = if x.2.1 = 2 then mxN x else []) (htr : x.2.1 = 3 → ρ.1 16 47 = ((n0 + (bldN x).length : Nat) : Int) ∧ KTr ρ (gB g2) n0 (bldN x) ∧ ρ.2 198 n0 = -1 ∧ 0 < (bldN x).length) (htn : x.2.1 ≠ 3 → ρ.1 16 47 = (n0 : Int))
    (hX : (¬ x.1 ∈ (fE (aD a)).map (fun y => y.1) ∧ X = pf (pr (pr (pr (pr ρ 189 (fE (aD a)).length v33) 190 (fE (aD a)).length ((x.2.1 : Int) + 1)) 191 (fE (aD a)).length (if x.2.1 = 3 then (n0 : Int) else (b : Int))) 192 (fE (aD a)).length (lst.length : Int)) 16 40 (((fE (aD a)).length : Int) + 1)) ∨ (x.1 ∈ (fE (aD a)).map (fun y => y.1) ∧ X = pf (pf ρ 16 47 (n0 : Int)) 16 58 (b : Int))) : RK rm nd o X g2 (sD a (aD a ++ [x])) := by
  have ho := hL.2.1
  have r1 := rf_1 ho
  obtain ⟨hZ, e1, ⟨e2, e3⟩, e4, F, RR, R7, RL⟩ := id hE
  have hEd : KEd σ (gB g) (aD a) := h.2.2.2.2.2.1
  have hAd : KAd σ (gB g) (gP g) (aA a) := h.2.2.2.2.2.2.1
  have hkle : kle (gB g) (gB g2) := by rw [e1]; exact kpL_pre
  have hpl := h.pl
  have hll : ρ.1 16 58 = ((b + lst.length : Nat) : Int) := hls.1
  rcases hX with ⟨hx, rfl⟩ | ⟨hx, rfl⟩
  · have hF : ∀ pp kk, ¬ ((pp = 13 ∧ (kk = 1 ∨ kk = 6)) ∨ (pp = 16 ∧ (kk = 47 ∨ kk = 58 ∨ kk = 73 ∨ kk = 76 ∨ kk = 77 ∨ kk = 40))) → (pf (pr (pr (pr (pr ρ 189 (fE (aD a)).length v33) 190 (fE (aD a)).length ((x.2.1 : Int) + 1)) 191 (fE (aD a)).length (if x.2.1 = 3 then (n0 : Int) else (b : Int))) 192 (fE (aD a)).length (lst.length : Int)) 16 40 (((fE (aD a)).length : Int) + 1)).1 pp kk = σ.1 pp kk := fun pp kk z => by rw [pf_1, if_neg (by omega), pr_1, pr_1, pr_1, pr_1]; exact F pp kk (by omega)
    have hR : ∀ r, ¬ ((172 ≤ r ∧ r ≤ 175) ∨ (189 ≤ r ∧ r ≤ 198) ∨ r = 207 ∨ (211 ≤ r ∧ r ≤ 215) ∨ r = 221 + 14 * (o - 14)) → (pf (pr (pr (pr (pr ρ 189 (fE (aD a)).length v33) 190 (fE (aD a)).length ((x.2.1 : Int) + 1)) 191 (fE (aD a)).length (if x.2.1 = 3 then (n0 : Int) else (b : Int))) 192 (fE (aD a)).length (lst.length : Int)) 16 40 (((fE (aD a)).length : Int) + 1)).2 r = σ.2 r := fun r z => by rw [pfr, prn (by omega), prn (by omega), prn (by omega), prn (by omega)]; exact RR r (by omega)
    have X40 : (pf (pr (pr (pr (pr ρ 189 (fE (aD a)).length v33) 190 (fE (aD a)).length ((x.2.1 : Int) + 1)) 191 (fE (aD a)).length (if x.2.1 = 3 then (n0 : Int) else (b : Int))) 192 (fE (aD a)).length (lst.length : Int)) 16 40 (((fE (aD a)).length : Int) + 1)).1 16 40 = ((fE (aD a)).length : Int) + 1 := pf_eq
    have XF : ∀ pp kk, ¬ (pp = 16 ∧ kk = 40) → (pf (pr (pr (pr (pr ρ 189 (fE (aD a)).length v33) 190 (fE (aD a)).length ((x.2.1 : Int) + 1)) 191 (fE (aD a)).length (if x.2.1 = 3 then (n0 : Int) else (b : Int))) 192 (fE (aD a)).length (lst.length : Int)) 16 40 (((fE (aD a)).length : Int) + 1)).1 pp kk = ρ.1 pp kk := fun pp kk z => by rw [pf_1, if_neg z, pr_1, pr_1, pr_1, pr_1]
    have XR : ∀ r, ¬ (189 ≤ r ∧ r ≤ 192) → (pf (pr (pr (pr (pr ρ 189 (fE (aD a)).length v33) 190 (fE (aD a)).length ((x.2.1 : Int) + 1)) 191 (fE (aD a)).length (if x.2.1 = 3 then (n0 : Int) else (b : Int))) 192 (fE (aD a)).length (lst.length : Int)) 16 40 (((fE (aD a)).length : Int) + 1)).2 r = ρ.2 r := fun r z => by rw [pfr, prn (by omega), prn (by omega), prn (by omega), prn (by omega)]
    have X89 : ∀ j, (pf (pr (pr (pr (pr ρ 189 (fE (aD a)).length v33) 190 (fE (aD a)).length ((x.2.1 : Int) + 1)) 191 (fE (aD a)).length (if x.2.1 = 3 then (n0 : Int) else (b : Int))) 192 (fE (aD a)).length (lst.length : Int)) 16 40 (((fE (aD a)).length : Int) + 1)).2 189 j = if j = (fE (aD a)).length then v33 else ρ.2 189 j := fun j => by rw [pfr, prn (by decide), prn (by decide), prn (by decide), prr]
    have X90 : ∀ j, (pf (pr (pr (pr (pr ρ 189 (fE (aD a)).length v33) 190 (fE (aD a)).length ((x.2.1 : Int) + 1)) 191 (fE (aD a)).length (if x.2.1 = 3 then (n0 : Int) else (b : Int))) 192 (fE (aD a)).length (lst.length : Int)) 16 40 (((fE (aD a)).length : Int) + 1)).2 190 j = if j = (fE (aD a)).length then (x.2.1 : Int) + 1 else ρ.2 190 j := fun j => by rw [pfr, prn (by decide), prn (by decide), prr, prn (by decide)]
    have X91 : ∀ j, (pf (pr (pr (pr (pr ρ 189 (fE (aD a)).length v33) 190 (fE (aD a)).length ((x.2.1 : Int) + 1)) 191 (fE (aD a)).length (if x.2.1 = 3 then (n0 : Int) else (b : Int))) 192 (fE (aD a)).length (lst.length : Int)) 16 40 (((fE (aD a)).length : Int) + 1)).2 191 j = if j = (fE (aD a)).length then (if x.2.1 = 3 then (n0 : Int) else (b : Int)) else ρ.2 191 j := fun j => by rw [pfr, prn (by decide), prr, prn (by decide), prn (by decide)]
    have X92 : ∀ j, (pf (pr (pr (pr (pr ρ 189 (fE (aD a)).length v33) 190 (fE (aD a)).length ((x.2.1 : Int) + 1)) 191 (fE (aD a)).length (if x.2.1 = 3 then (n0 : Int) else (b : Int))) 192 (fE (aD a)).length (lst.length : Int)) 16 40 (((fE (aD a)).length : Int) + 1)).2 192 j = if j = (fE (aD a)).length then (lst.length : Int) else ρ.2 192 j := fun j => by rw [pfr, prr, prn (by decide), prn (by decide), prn (by decide)]
    generalize pf (pr (pr (pr (pr ρ 189 (fE (aD a)).length v33) 190 (fE (aD a)).length ((x.2.1 : Int) + 1)) 191 (fE (aD a)).length (if x.2.1 = 3 then (n0 : Int) else (b : Int))) 192 (fE (aD a)).length (lst.length : Int)) 16 40 (((fE (aD a)).length : Int) + 1) = X at *
    have x58 : X.1 16 58 = ((b + lst.length : Nat) : Int) := by rw [XF 16 58 (by omega)]; exact hll
    have x47 : (n0 : Int) ≤ X.1 16 47 := by
      rw [XF 16 47 (by omega)]
      by_cases c3 : x.2.1 = 3
      · rw [(htr c3).1]; omega
      · rw [htn c3]; exact Int.le_refl _
    have g207 : ∀ i : Nat, (i : Int) < σ.1 16 58 → X.2 207 i = σ.2 207 i := fun i hi => by rw [XR 207 (by omega)]; exact R7 i (by omega)
    refine (RK.mk' ho h hkle (by rw [e2]; exact cle.refl) (by rw [e3]; exact cle.refl) (hZ.dep ho (fun p k z => XF p k (by omega)) (fun r z => XR r (by omega))) (Or.inl ⟨fun k x y => hF 16 k (by omega), fun r x y => hR r (by omega), rfl⟩) (Or.inl ⟨hF 16 32 (by omega), fun r x y => hR r (by omega), rfl, rfl⟩) (Or.inl ⟨fun k x => hF 16 k (by omega), hR _ (by have := rf_1 ho; omega), rfl⟩) (Or.inl ⟨hF 16 20 (by omega), hF 16 24 (by omega), rfl⟩) (Or.inr ?_) (Or.inr ?_) (Or.inl ⟨hF 16 34 (by omega), hR 187 (by omega), rfl⟩) (Or.inl ⟨hF o 7 (by omega), fun k x y => hR _ (by have := rf_3 ho x y; omega), rfl⟩) (Or.inl ⟨hF 16 64 (by omega), hF 16 66 (by omega), fun r x y => hR r (by omega), hR 181 (by omega), rfl, rfl, rfl⟩) (Or.inl ⟨hF o 14 (by omega), fun k x y => hR _ (by have := rf_8 ho x y; omega), rfl, rfl⟩) (Or.inl ⟨fun k x => hF o k (by omega), hR _ (by have := rf_1 ho; omega), rfl, e3, rfl⟩) (hF 16 3 (by omega)) (Or.inr ?_))
    · show KEd X (gB g2) (aD a ++ [x])
      refine hEd.snoc hkle hx (by rw [X40, hEd.1]) (by rw [hn0]; exact x47) (by rw [hb, x58]; omega) (fun r z1 z2 i hi => ?_) (fun r z1 z2 i hi => by rw [XR r (by omega)]; exact RL r i z1 z2 (by omega)) g207 ?_ (by rw [X89, if_pos rfl]; exact hv) (by rw [X90, if_pos rfl]) (fun c2 => ?_) (fun c3 => ?_) (fun c2 => ?_)
      · have h4 : r = 189 ∨ r = 190 ∨ r = 191 ∨ r = 192 := by omega
        rcases h4 with y | y | y | y
        · rw [y, X89, if_neg (by omega), RR 189 (by omega)]
        · rw [y, X90, if_neg (by omega), RR 190 (by omega)]
        · rw [y, X91, if_neg (by omega), RR 191 (by omega)]
        · rw [y, X92, if_neg (by omega), RR 192 (by omega)]
      · by_cases c3 : x.2.1 = 3
        · refine Or.inr (fun i hi => ?_)
          rw [XR 198 (by omega), show i = n0 by omega]
          exact (htr c3).2.2.1
        · exact Or.inl (by rw [XF 16 47 (by omega), htn c3, hn0])
      · rw [if_pos c2] at hlst
        rw [X91, X92, if_pos rfl, if_pos rfl, if_neg (by omega), ← hlst]
        refine ⟨⟨b, rfl, by rw [x58]; omega, fun k hk => ?_⟩, rfl⟩
        rw [XR 207 (by omega)]
        exact hls.2 k hk
      · obtain ⟨t1, t2, t3, t4⟩ := htr c3
        refine ⟨n0, by rw [X91, if_pos rfl, if_pos c3], by rw [XF 16 47 (by omega), t1]; omega, t2.rows (fun r z1 z2 => XR r (by omega)), Or.inl (by rw [XF 16 47 (by omega), t1]; omega)⟩
      · rw [X92, if_pos rfl, hlst, if_neg c2]
        rfl
    · show KAd X (gB g2) (gP g2) (aA a)
      rw [e3]
      exact hAd.dep hkle cle.refl (hF 16 56 (by omega)) (by rw [hb, x58]; omega) (fun r z1 z2 => hR r (by omega)) g207
    · refine ⟨by rw [hR 178 (by omega)]; exact hpl.1, fun z => by rw [hF 16 18 (by omega)]; exact hpl.2.1 z, ?_, ?_⟩
      · show X.1 16 47 = (nNd (aD a ++ [x]) : Int)
        have := hpl.2.2.1
        rw [XF 16 47 (by omega), nNd_s, if_neg hx]
        by_cases c3 : x.2.1 = 3
        · rw [if_pos c3, (htr c3).1]; omega
        · rw [if_neg c3, htn c3]; omega
      · show X.1 16 58 = (nLs (aD a ++ [x]) (aA a) : Int)
        have := hpl.2.2.2
        rw [x58, nLs_s, if_neg hx, hlst]
        by_cases c2 : x.2.1 = 2
        · rw [if_pos c2, if_pos c2]; omega
        · rw [if_neg c2, if_neg c2, List.length_nil]; omega
  · have hF : ∀ pp kk, ¬ ((pp = 13 ∧ (kk = 1 ∨ kk = 6)) ∨ (pp = 16 ∧ (kk = 73 ∨ kk = 76 ∨ kk = 77))) → (pf (pf ρ 16 47 (n0 : Int)) 16 58 (b : Int)).1 pp kk = σ.1 pp kk := fun pp kk z => by
      rw [pf_1]
      by_cases c1 : pp = 16 ∧ kk = 58
      · rw [if_pos c1, c1.1, c1.2, hb]
      · rw [if_neg c1, pf_1]
        by_cases c2 : pp = 16 ∧ kk = 47
        · rw [if_pos c2, c2.1, c2.2, hn0]
        · rw [if_neg c2]; exact F pp kk (by omega)
    have hR : ∀ r, ¬ ((172 ≤ r ∧ r ≤ 175) ∨ (193 ≤ r ∧ r ≤ 198) ∨ r = 207 ∨ (211 ≤ r ∧ r ≤ 215) ∨ r = 221 + 14 * (o - 14)) → (pf (pf ρ 16 47 (n0 : Int)) 16 58 (b : Int)).2 r = σ.2 r := fun r z => by rw [pfr, pfr]; exact RR r z
    have XF : ∀ pp kk, ¬ (pp = 16 ∧ (kk = 47 ∨ kk = 58)) → (pf (pf ρ 16 47 (n0 : Int)) 16 58 (b : Int)).1 pp kk = ρ.1 pp kk := fun pp kk z => by rw [pf_1, if_neg (by omega), pf_1, if_neg (by omega)]
    have XR : (pf (pf ρ 16 47 (n0 : Int)) 16 58 (b : Int)).2 = ρ.2 := rfl
    generalize pf (pf ρ 16 47 (n0 : Int)) 16 58 (b : Int) = X at *
    have g207 : ∀ i : Nat, (i : Int) < σ.1 16 58 → X.2 207 i = σ.2 207 i := fun i hi => by rw [XR]; exact R7 i (by omega)
    refine (RK.mk' ho h hkle (by rw [e2]; exact cle.refl) (by rw [e3]; exact cle.refl) (hZ.dep ho (fun p k z => XF p k (by omega)) (fun r z => by rw [XR])) (Or.inl ⟨fun k x y => hF 16 k (by omega), fun r x y => hR r (by omega), rfl⟩) (Or.inl ⟨hF 16 32 (by omega), fun r x y => hR r (by omega), rfl, rfl⟩) (Or.inl ⟨fun k x => hF 16 k (by omega), hR _ (by have := rf_1 ho; omega), rfl⟩) (Or.inl ⟨hF 16 20 (by omega), hF 16 24 (by omega), rfl⟩) (Or.inr ?_) (Or.inr ?_) (Or.inl ⟨hF 16 34 (by omega), hR 187 (by omega), rfl⟩) (Or.inl ⟨hF o 7 (by omega), fun k x y => hR _ (by have := rf_3 ho x y; omega), rfl⟩) (Or.inl ⟨hF 16 64 (by omega), hF 16 66 (by omega), fun r x y => hR r (by omega), hR 181 (by omega), rfl, rfl, rfl⟩) (Or.inl ⟨hF o 14 (by omega), fun k x y => hR _ (by have := rf_8 ho x y; omega), rfl, rfl⟩) (Or.inl ⟨fun k x => hF o k (by omega), hR _ (by have := rf_1 ho; omega), rfl, e3, rfl⟩) (hF 16 3 (by omega)) (Or.inr ?_))
    · have hk2 : KEd X (gB g2) (aD a) := hEd.dep hkle (hF 16 40 (by omega)) (by rw [hF 16 47 (by omega)]; exact Int.le_refl _) (by rw [hF 16 58 (by omega)]; exact Int.le_refl _) (fun r z1 z2 => hR r (by omega)) (fun r z1 z2 i hi => by rw [XR]; exact RL r i z1 z2 (by omega)) g207 (Or.inl (hF 16 47 (by omega)))
      show KEd X (gB g2) (aD a ++ [x])
      unfold KEd at hk2 ⊢
      rw [fE_app, if_pos hx]
      exact hk2
    · show KAd X (gB g2) (gP g2) (aA a)
      rw [e3]
      exact hAd.dep hkle cle.refl (hF 16 56 (by omega)) (by rw [hF 16 58 (by omega)]; exact Int.le_refl _) (fun r z1 z2 => hR r (by omega)) g207
    · refine ⟨by rw [hR 178 (by omega)]; exact hpl.1, fun z => by rw [hF 16 18 (by omega)]; exact hpl.2.1 z, ?_, ?_⟩
      · show X.1 16 47 = (nNd (aD a ++ [x]) : Int)
        rw [hF 16 47 (by omega), nNd_s, if_pos hx, Nat.add_zero]
        exact hpl.2.2.1
      · show X.1 16 58 = (nLs (aD a ++ [x]) (aA a) : Int)
        rw [hF 16 58 (by omega), nLs_s, if_pos hx, Nat.add_zero]
        exact hpl.2.2.2
end Kee
