/-! ===== the reference: events and texts ===== -/
section Kev
variable {L : Nat → Nat} {rm nd o : Nat} {σ τ : IS} {g g' : KG} {a a' : AS} {Q : IS → Prop} {R : Int → IS → Prop} {bk : List Str} {pl : List Int} {ρ : Nat → Int}
theorem kns_app : ∀ {G H : List KEv}, kns (G ++ H) = kns G + kns H
  | [], _ => (Nat.zero_add _).symm
  | .inl true :: r, H => by show kns (r ++ H) + 1 = kns r + 1 + kns H; rw [kns_app]; omega
  | .inl false :: r, H => by show kns (r ++ H) = kns r + kns H; rw [kns_app]
  | .inr _ :: r, H => by show kns (r ++ H) = kns r + kns H; rw [kns_app]
theorem kfl_app : ∀ {G H : List KEv} {m : Nat}, kfl (G ++ H) m = kfl G m ++ kfl H (m + kns G)
  | [], _, _ => rfl
  | .inl true :: r, H, m => by
    show _ :: kfl (r ++ H) (m + 1) = _ :: (kfl r (m + 1) ++ kfl H (m + (kns r + 1)))
    rw [kfl_app, show m + 1 + kns r = m + (kns r + 1) by omega]
  | .inl false :: r, H, m => by
    show _ :: kfl (r ++ H) m = _ :: (kfl r m ++ kfl H (m + kns r))
    rw [kfl_app]
  | .inr (.inl l) :: r, H, m => by
    show _ ++ kfl (r ++ H) m = (_ ++ kfl r m) ++ kfl H (m + kns r)
    rw [kfl_app, List.append_assoc]
  | .inr (.inr q) :: r, H, m => by
    show _ :: kfl (r ++ H) m = _ :: (kfl r m ++ kfl H (m + kns r))
    rw [kfl_app]
theorem kel_app : ∀ {G H : List KEv}, kel (G ++ H) = kel G + kel H
  | [], _ => (Nat.zero_add _).symm
  | .inl _ :: r, H => by show 1 + kel (r ++ H) = 1 + kel r + kel H; rw [kel_app, Nat.add_assoc]
  | .inr (.inl _) :: r, H => by show 3 + kel (r ++ H) = 3 + kel r + kel H; rw [kel_app, Nat.add_assoc]
  | .inr (.inr _) :: r, H => by show 4 + kel (r ++ H) = 4 + kel r + kel H; rw [kel_app, Nat.add_assoc]
theorem kev_app : ∀ {G H : List KEv} {i : Nat}, kev ρ bk pl (G ++ H) i ↔ kev ρ bk pl G i ∧ kev ρ bk pl H (i + kel G)
  | [], _, _ => ⟨fun h => ⟨trivial, h⟩, fun h => h.2⟩
  | .inl b :: r, H, i => by
    show (_ ∧ kev ρ bk pl (r ++ H) (i + 1)) ↔ (_ ∧ kev ρ bk pl r (i + 1)) ∧ kev ρ bk pl H (i + (1 + kel r))
    rw [kev_app, and_assoc, show i + 1 + kel r = i + (1 + kel r) by omega]
  | .inr (.inl l) :: r, H, i => by
    show (_ ∧ _ ∧ _ ∧ kev ρ bk pl (r ++ H) (i + 3)) ↔ (_ ∧ _ ∧ _ ∧ kev ρ bk pl r (i + 3)) ∧ kev ρ bk pl H (i + (3 + kel r))
    rw [kev_app, and_assoc, and_assoc, and_assoc, show i + 3 + kel r = i + (3 + kel r) by omega]
  | .inr (.inr q) :: r, H, i => by
    show (_ ∧ _ ∧ _ ∧ _ ∧ kev ρ bk pl (r ++ H) (i + 4)) ↔ (_ ∧ _ ∧ _ ∧ _ ∧ kev ρ bk pl r (i + 4)) ∧ kev ρ bk pl H (i + (4 + kel r))
    rw [kev_app, and_assoc, and_assoc, and_assoc, and_assoc, show i + 4 + kel r = i + (4 + kel r) by omega]
theorem kNs_s {st : List Evt} {v : Evt} : kNs (st ++ [v]) = kN2 (kNs st) v := by unfold kNs; rw [List.foldl_append]; rfl
/-- a letter of text -/
theorem KSt.txt {c : Int} {st : List Evt} {ne : Nat} (ho : o = 14 ∨ o = 15) (hc : 0 ≤ c) (h : KSt o σ bk pl st ne) (hu : σ.1 o 2 = (pl.length : Int)) :
    (σ.1 o 17 = -1 → ∀ τ : IS, τ.1 o 16 = σ.1 o 16 + 3 → τ.1 o 17 = σ.1 o 16 + 1 → τ.1 o 20 = σ.1 o 20 + 1 → (∀ j, τ.2 (rfo o 15) j = if (j : Int) = σ.1 o 16 then 2 else if (j : Int) = σ.1 o 16 + 1 then σ.1 o 2 else if (j : Int) = σ.1 o 16 + 2 then 1 else σ.2 (rfo o 15) j) → KSt o τ bk (pl ++ [c]) (st ++ [.inl c]) ne) ∧
    (σ.1 o 17 ≠ -1 → 0 ≤ σ.1 o 17 ∧ σ.1 o 17 + 2 ≤ σ.1 o 16 ∧ ∀ τ : IS, τ.1 o 16 = σ.1 o 16 → τ.1 o 17 = σ.1 o 17 → τ.1 o 20 = σ.1 o 20 + 1 → (∀ j, τ.2 (rfo o 15) j = if (j : Int) = σ.1 o 17 + 1 then σ.2 (rfo o 15) j + 1 else σ.2 (rfo o 15) j) → KSt o τ bk (pl ++ [c]) (st ++ [.inl c]) ne) := by
  obtain ⟨G, ⟨h1, h1'⟩, h2, h3, h4, ⟨h5, h5'⟩, h6⟩ := h
  have hcle : cle pl (pl ++ [c]) := ⟨[c], rfl⟩
  have hlt : ltr (st ++ [.inl c]) = ltr st + 1 := by
    rw [ltr_app]
    show ltr st + (0 + if 0 ≤ c then 1 else 0) = _
    rw [if_pos hc]
  have hlast : ∀ l : Str, ∀ G' : List KEv, (G' ++ [.inr (.inl l)] : List KEv).getLast? = some (.inr (.inl l)) := fun l G' => by simp
  constructor
  · intro h17 τ t16 t17 t20 tr
    have h6' : ∀ l, G.getLast? ≠ some (.inr (.inl l)) := by
      rcases h6 with y | ⟨G', l, y1, y2, -⟩
      · exact y.2
      · omega
    refine ⟨G ++ [.inr (.inl [c])], ⟨?_, by rw [kns_app, h1']; rfl⟩, ?_, ?_, fun l hl => ?_, ⟨?_, ?_⟩, Or.inr ⟨G, [c], rfl, by rw [t17, h3]; omega, ?_⟩⟩
    · rw [kfl_app, h1]; rfl
    · rw [kev_app]
      refine ⟨kev.dep kle.refl hcle G 0 (fun j _ hj => ?_) h2, ?_⟩
      · rw [tr, if_neg (by omega), if_neg (by omega), if_neg (by omega)]
      · rw [Nat.zero_add]
        refine ⟨?_, ?_, ?_, trivial⟩
        · rw [tr, if_pos (by omega)]
        · rw [tr, if_neg (by omega), if_pos (by omega)]
          refine Kpc.mk' (p := pl.length) hu (by rw [List.length_append, List.length_singleton]; exact Nat.le_refl _) (fun j hj => ?_)
          rw [List.length_singleton] at hj
          rw [show j = 0 by omega, Nat.add_zero, List.getD_eq_getElem?_getD, List.getElem?_append_right (Nat.le_refl _), Nat.sub_self]
          rfl
        · rw [tr, if_neg (by omega), if_neg (by omega), if_pos (by omega)]
          rfl
    · rw [t16, h3, kel_app]; rfl
    · rcases List.mem_append.mp hl with y | y
      · exact h4 l y
      · rw [List.mem_singleton] at y
        have : l = [c] := Sum.inl.inj (Sum.inr.inj y)
        rw [this]; exact ⟨List.cons_ne_nil _ _, fun d hd => by rw [List.mem_singleton.mp hd]; exact hc⟩
    · rw [t20, h5, hlt]; omega
    · rw [kNs_s, h5', t17, kel_app]
      show (if 0 ≤ c then ((if decide (0 ≤ σ.1 o 17) = true then kel G else kel G + 3), true) else _) = _
      rw [if_pos hc, decide_eq_false (by omega), if_neg (by decide), decide_eq_true (by omega)]
      rfl
    · rw [tr, if_neg (by omega), if_pos (by omega), hu, List.length_append, List.length_singleton]; rfl
  · intro h17
    rcases h6 with y | ⟨G', l, y1, y2, y3⟩
    · exact absurd y.1 h17
    have hkl : kel G = kel G' + 3 := by rw [y1, kel_app]; rfl
    refine ⟨by omega, by omega, fun τ t16 t17 t20 tr => ?_⟩
    rw [y1, kev_app, Nat.zero_add] at h2
    obtain ⟨k1, k2, k3, k4, -⟩ := h2
    refine ⟨G' ++ [.inr (.inl (l ++ [c]))], ⟨?_, by rw [y1, kns_app] at h1'; rw [kns_app]; exact h1'⟩, ?_, ?_, fun l' hl => ?_, ⟨?_, ?_⟩, Or.inr ⟨G', l ++ [c], rfl, by rw [t17]; exact y2, ?_⟩⟩
    · rw [y1, kfl_app] at h1
      rw [kfl_app, ← h1, List.append_assoc]
      congr 1
      show (l ++ [c]).map _ ++ [] = (l.map _ ++ []) ++ [_]
      rw [List.map_append, List.append_nil, List.append_nil]
      rfl
    · rw [kev_app, Nat.zero_add]
      refine ⟨kev.dep kle.refl hcle G' 0 (fun j _ hj => ?_) k1, ?_, ?_, ?_, trivial⟩
      · rw [tr, if_neg (by omega)]
      · rw [tr, if_neg (by omega)]; exact k2
      · rw [tr, if_neg (by omega)]
        obtain ⟨p, p1, p2, p3⟩ := k3.at_
        have hpl : p + l.length = pl.length := by omega
        refine Kpc.mk' p1 (by rw [List.length_append, List.length_append]; omega) (fun j hj => ?_)
        rw [List.length_append, List.length_singleton] at hj
        by_cases z : j < l.length
        · rw [getD_app_l (by omega), getD_app_l z]
          exact p3 j z
        · have : j = l.length := by omega
          rw [this, List.getD_eq_getElem?_getD, List.getD_eq_getElem?_getD, List.getElem?_append_right (by omega), List.getElem?_append_right (by omega), hpl, Nat.sub_self, Nat.sub_self]
      · rw [tr, if_pos (by omega), k4, List.length_append, List.length_singleton]
        omega
    · rw [t16, h3, hkl, kel_app]; rfl
    · rcases List.mem_append.mp hl with y | y
      · exact h4 l' (by rw [y1]; exact List.mem_append_left _ y)
      · rw [List.mem_singleton] at y
        have : l' = l ++ [c] := Sum.inl.inj (Sum.inr.inj y)
        rw [this]
        refine ⟨by simp, fun d hd => ?_⟩
        rcases List.mem_append.mp hd with z | z
        · exact (h4 l (by rw [y1]; exact List.mem_append_right _ List.mem_cons_self)).2 d z
        · rw [List.mem_singleton.mp z]; exact hc
    · rw [t20, h5, hlt]; omega
    · rw [kNs_s, h5', t17, kel_app]
      show (if 0 ≤ c then ((if decide (0 ≤ σ.1 o 17) = true then kel G else kel G + 3), true) else _) = _
      rw [if_pos hc, decide_eq_true (by omega), if_pos rfl, hkl]
      rfl
    · rw [tr, if_neg (by omega), List.length_append, List.length_append, List.length_singleton]
      omega
theorem KZ.pool {c : Int} (ho : o = 14 ∨ o = 15) (h : KZ rm nd o σ g) (hf : ∀ p k, (p = 13 ∧ (k = 1 ∨ k = 6)) ∨ (p = 16 ∧ (k = 0 ∨ k = 1 ∨ k = 2 ∨ k = 6)) → τ.1 p k = σ.1 p k) (hr : ∀ r, r = 176 ∨ (211 ≤ r ∧ r ≤ 215) ∨ r = 221 + 14 * (o - 14) → τ.2 r = σ.2 r) (h2 : τ.1 o 2 = σ.1 o 2 + 1) (hp : ∀ j, τ.2 (rfo o 1) j = if (j : Int) = σ.1 o 2 then c else σ.2 (rfo o 1) j) : KZ rm nd o τ (gB g, gC g, gP g ++ [c], gV g) := by
  obtain ⟨⟨h1, hb2, h3, h4⟩, h5, ⟨h6, h7, h8, h9⟩, ⟨h10, h11⟩, h12, h13⟩ := h
  have r1 := rf_1 ho
  have eb : ∀ s, bstr τ s = bstr σ s := fun s => by unfold bstr bst bln; rw [hr 212 (by omega), hr 213 (by omega), hr 214 (by omega)]
  refine ⟨⟨?_, by rw [hf 13 6 (by omega)]; exact hb2, by rw [hf 13 1 (by omega)]; exact h3, fun i hi => by rw [eb]; exact h4 i hi⟩, h5, ⟨by rw [hf 16 6 (by omega)]; exact h6, h7, by rw [hr 176 (by omega)]; exact h8, h9⟩, ⟨?_, fun i hi => ?_⟩, ?_, by rw [hr (rfo o 18) (by omega)]; exact h13⟩
  · unfold BK at h1 ⊢
    rw [hf 13 1 (by omega), hf 13 6 (by omega), hr 211 (by omega), hr 213 (by omega), hr 214 (by omega), hr 215 (by omega)]
    simp only [eb]
    exact h1
  · show τ.1 o 2 = ((gP g ++ [c]).length : Int)
    rw [h2, h10, List.length_append, List.length_singleton]; omega
  · have hi' : i < (gP g ++ [c]).length := hi
    rw [List.length_append, List.length_singleton] at hi'
    show τ.2 (rfo o 1) i = (gP g ++ [c]).getD i 0
    rw [hp]
    by_cases y : i = (gP g).length
    · rw [if_pos (by omega), y, List.getD_eq_getElem?_getD, List.getElem?_append_right (Nat.le_refl _), Nat.sub_self]
      rfl
    · rw [if_neg (by omega), getD_app_l (by omega)]
      exact h11 i (by omega)
  · rw [hf 16 2 (by omega), hf 16 0 (by omega), hf 16 1 (by omega)]
    exact h12
set_option maxHeartbeats 1000000 in
theorem sp_K_text {c : Int} (hL : KLn L o rm nd) (h : RK rm nd o σ g a) (hc : 0 ≤ c) (hp : (gP g).length < L (rfo o 1)) (hev : (kNs (aS a ++ [.inl c])).1 ≤ 120000) (hlt : ltr (aS a) ≤ 1000000) (hq : ∀ τ, RK rm nd o τ (gB g, gC g, gP g ++ [c], gV g) (chr a [c]) → (∀ p k, p ≠ o → τ.1 p k = σ.1 p k) → (∀ r, r ≠ rfo o 1 → r ≠ rfo o 15 → τ.2 r = σ.2 r) → Q τ) : w_KDoc_text L o c Q σ := by
  have ho := hL.2.1
  have r1 := rf_1 ho
  have hl15 : L (rfo o 15) = 120000 := hL.2.2.2.2.2.2.2.2.2.2.2.2.2.2.2.2.2.2.1
  have hl1 : L (rfo o 1) ≤ 262144 := hL.2.2.2.2.2.2.2.2.2.2.2.2.2.2.2.2.1.2
  have hst : KSt o σ (gB g) (gP g) (aS a) (aL a).length := h.2.2.2.2.2.2.2.2.2.2.2.1
  have hu : σ.1 o 2 = ((gP g).length : Int) := h.1.2.2.2.1.1
  have ht := KSt.txt (c := c) ho hc hst hu
  obtain ⟨G, ⟨k1, -⟩, k2, k3, k4, ⟨k5, k5'⟩, k6⟩ := id hst
  have hN : (kNs (aS a ++ [.inl c])).1 = if decide (0 ≤ σ.1 o 17) = true then kel G else kel G + 3 := by
    rw [kNs_s, k5']
    show (if 0 ≤ c then ((if decide (0 ≤ σ.1 o 17) = true then kel G else kel G + 3), true) else _).1 = _
    rw [if_pos hc]
  rw [hN] at hev
  have hcl : cle (gP g) (gP g ++ [c]) := ⟨[c], rfl⟩
  have fin_ : ∀ τ : IS, (∀ p k, ¬ (p = o ∧ (k = 2 ∨ k = 16 ∨ k = 17 ∨ k = 20)) → τ.1 p k = σ.1 p k) → (∀ r, ¬ (r = 223 + 14 * (o - 14) ∨ r = 220 + 14 * (o - 14)) → τ.2 r = σ.2 r) → τ.1 o 2 = σ.1 o 2 + 1 → (∀ j, τ.2 (rfo o 1) j = if (j : Int) = σ.1 o 2 then c else σ.2 (rfo o 1) j) → KSt o τ (gB g) (gP g ++ [c]) (aS a ++ [.inl c]) (aL a).length → Q τ := fun τ hF hR e2 ep es => by
    clear k6 ht hN hev
    refine hq τ ?_ (fun p k x => hF p k (by omega)) (fun r x y => hR r (by omega))
    exact (RK.mk' ho h kle.refl cle.refl hcl (KZ.pool ho h.1 (fun p k x => hF p k (by omega)) (fun r x => hR r (by omega)) e2 ep) (Or.inl ⟨fun k x y => hF 16 k (by omega), fun r x y => hR r (by omega), rfl⟩) (Or.inl ⟨hF 16 32 (by omega), fun r x y => hR r (by omega), rfl, rfl⟩) (Or.inl ⟨fun k x => hF 16 k (by omega), hR _ (by have := rf_1 ho; omega), rfl⟩) (Or.inl ⟨hF 16 20 (by omega), hF 16 24 (by omega), rfl⟩) (Or.inl ⟨hF 16 40 (by omega), hF 16 47 (by omega), hF 16 58 (by omega), fun r x => hR r (by omega), rfl⟩) (Or.inl ⟨hF 16 56 (by omega), hF 16 58 (by omega), fun r x y => hR r (by omega), rfl⟩) (Or.inl ⟨hF 16 34 (by omega), hR 187 (by omega), rfl⟩) (Or.inl ⟨hF o 7 (by omega), fun k x y => hR _ (by have := rf_3 ho x y; omega), rfl⟩) (Or.inl ⟨hF 16 64 (by omega), hF 16 66 (by omega), fun r x y => hR r (by omega), hR 181 (by omega), rfl, rfl, rfl⟩) (Or.inl ⟨hF o 14 (by omega), fun k x y => hR _ (by have := rf_8 ho x y; omega), rfl, rfl⟩) (Or.inr es) (hF 16 3 (by omega)) (Or.inl ⟨hF 16 18 (by omega), hR 178 (by omega), rfl, rfl, rfl, hF 16 47 (by omega), hF 16 58 (by omega), rfl, rfl⟩))
  unfold w_KDoc_text
  refine ⟨⟨by omega, by omega⟩, WJ_dir ?_⟩
  by_cases c1 : σ.1 o 17 = -1
  · rw [decide_eq_false (by omega), if_neg (by decide)] at hev
    rw [if_pos (by omega)]
    unfold w_KDoc_event
    rw [pf_nk (by decide), k3, show Int.toNat (kel G : Int) = kel G from rfl]
    refine ⟨⟨by omega, by omega⟩, ⟨by omega, by omega⟩, ?_⟩
    generalize hs0 : pf (pf (pr (pf σ o 20 (σ.1 o 20 + 1)) (rfo o 15) (kel G) 2) o 16 ((kel G : Int) + 1)) o 17 (-1) = s0
    have s16 : s0.1 o 16 = ((kel G + 1 : Nat) : Int) := by rw [← hs0, pf_nk (by decide), pf_eq]; omega
    have s2 : s0.1 o 2 = ((gP g).length : Int) := by rw [← hs0, pf_nk (by decide), pf_nk (by decide), pr_1, pf_nk (by decide)]; exact hu
    rw [s16, show Int.toNat ((kel G + 1 : Nat) : Int) = kel G + 1 from rfl, show ((kel G + 1 : Nat) : Int) + 1 = ((kel G + 2 : Nat) : Int) by omega, show Int.toNat ((kel G + 2 : Nat) : Int) = kel G + 2 from rfl, s2]
    refine ⟨⟨by omega, by omega⟩, ⟨by omega, by omega⟩, ⟨by omega, by omega⟩, ⟨by omega, by omega⟩, ?_⟩
    unfold w_KDoc_add
    generalize hs1 : pf (pr (pr (pf s0 o 17 ((kel G + 1 : Nat) : Int)) (rfo o 15) (kel G + 1) ((gP g).length : Int)) (rfo o 15) (kel G + 2) 0) o 16 (((kel G + 1 : Nat) : Int) + 2) = s1
    have q2 : s1.1 o 2 = ((gP g).length : Int) := by rw [← hs1, pf_nk (by decide), pr_1, pr_1, pf_nk (by decide)]; exact s2
    have q17 : s1.1 o 17 = ((kel G + 1 : Nat) : Int) := by rw [← hs1, pf_nk (by decide), pr_1, pr_1, pf_eq]
    have q16 : s1.1 o 16 = (kel G : Int) + 3 := by rw [← hs1, pf_eq]; omega
    have q20 : s1.1 o 20 = σ.1 o 20 + 1 := by rw [← hs1, pf_nk (by decide), pr_1, pr_1, pf_nk (by decide), ← hs0, pf_nk (by decide), pf_nk (by decide), pr_1, pf_eq]
    have qF : ∀ p k, ¬ (p = o ∧ (k = 2 ∨ k = 16 ∨ k = 17 ∨ k = 20)) → s1.1 p k = σ.1 p k := fun p k x => by
      rw [← hs1, pf_1, if_neg (by omega), pr_1, pr_1, pf_1, if_neg (by omega), ← hs0, pf_1, if_neg (by omega), pf_1, if_neg (by omega), pr_1, pf_1, if_neg (by omega)]
    have qR : ∀ r, r ≠ rfo o 15 → s1.2 r = σ.2 r := fun r x => by
      funext j
      rw [← hs1, pf_2, pr_2, if_neg (fun z => x z.1), pr_2, if_neg (fun z => x z.1), pf_2, ← hs0, pf_2, pf_2, pr_2, if_neg (fun z => x z.1), pf_2]
    have qE : ∀ j, s1.2 (rfo o 15) j = if j = kel G + 2 then 0 else if j = kel G + 1 then ((gP g).length : Int) else if j = kel G then 2 else σ.2 (rfo o 15) j := fun j => by
      rw [← hs1, pf_2, pr_2]
      by_cases y : j = kel G + 2
      · rw [if_pos ⟨rfl, y⟩, if_pos y]
      · rw [if_neg (fun z => y z.2), if_neg y, pr_2]
        by_cases y' : j = kel G + 1
        · rw [if_pos ⟨rfl, y'⟩, if_pos y']
        · rw [if_neg (fun z => y' z.2), if_neg y', pf_2, ← hs0, pf_2, pf_2, pr_2]
          by_cases y2 : j = kel G
          · rw [if_pos ⟨rfl, y2⟩, if_pos y2]
          · rw [if_neg (fun z => y2 z.2), if_neg y2, pf_2]
    rw [q2, show Int.toNat ((gP g).length : Int) = (gP g).length from rfl]
    refine ⟨⟨by omega, by omega⟩, ⟨by omega, by omega⟩, ?_⟩
    generalize hs2 : pf (pr s1 (rfo o 1) (gP g).length c) o 2 (((gP g).length : Int) + 1) = s2'
    have u17 : s2'.1 o 17 = ((kel G + 1 : Nat) : Int) := by rw [← hs2, pf_nk (by decide), pr_1]; exact q17
    have uE : s2'.2 (rfo o 15) = s1.2 (rfo o 15) := by funext j; rw [← hs2, pf_2, pr_2, if_neg (by omega)]
    rw [u17, show ((kel G + 1 : Nat) : Int) + 1 = ((kel G + 2 : Nat) : Int) by omega, show Int.toNat ((kel G + 2 : Nat) : Int) = kel G + 2 from rfl, uE, qE, if_pos rfl]
    refine ⟨⟨by omega, by omega⟩, ⟨by omega, by omega⟩, ⟨by omega, by omega⟩, ⟨by omega, by omega⟩, ?_⟩
    refine fin_ _ (fun p k x => ?_) (fun r x => ?_) ?_ (fun j => ?_) ((ht.1 c1) _ ?_ ?_ ?_ (fun j => ?_))
    · rw [pr_1, ← hs2, pf_1, if_neg (by omega), pr_1]; exact qF p k x
    · funext j
      rw [pr_2, if_neg (by omega), ← hs2, pf_2, pr_2, if_neg (by omega), qR r (by omega)]
    · rw [pr_1, ← hs2, pf_eq, hu]
    · rw [pr_2, if_neg (by omega), ← hs2, pf_2, pr_2, hu]
      by_cases y : j = (gP g).length
      · rw [if_pos ⟨rfl, y⟩, if_pos (by omega)]
      · rw [if_neg (fun z => y z.2), if_neg (by omega), qR _ (by omega)]
    · rw [pr_1, ← hs2, pf_nk (by decide), pr_1, q16, k3]
    · rw [pr_1, u17, k3]; omega
    · rw [pr_1, ← hs2, pf_nk (by decide), pr_1, q20]
    · rw [pr_2, uE, qE, k3, hu]
      by_cases y : j = kel G + 2
      · rw [if_pos ⟨rfl, y⟩, if_neg (by omega), if_neg (by omega), if_pos (by omega)]; rfl
      · rw [if_neg (fun z => y z.2), if_neg y]
        by_cases y' : j = kel G + 1
        · rw [if_pos y', if_neg (by omega), if_pos (by omega)]
        · rw [if_neg y']
          by_cases y2 : j = kel G
          · rw [if_pos y2, if_pos (by omega)]
          · rw [if_neg y2, if_neg (by omega), if_neg (by omega), if_neg (by omega)]
  · obtain ⟨b1', b2, b3⟩ := ht.2 c1
    rw [decide_eq_true (by omega), if_pos rfl] at hev
    rw [if_neg (by omega)]
    unfold w_KDoc_add
    dsimp only
    rw [pf_nk (by decide), hu, show Int.toNat ((gP g).length : Int) = (gP g).length from rfl]
    refine ⟨⟨by omega, by omega⟩, ⟨by omega, by omega⟩, ?_⟩
    generalize hs2 : pf (pr (pf σ o 20 (σ.1 o 20 + 1)) (rfo o 1) (gP g).length c) o 2 (((gP g).length : Int) + 1) = s2'
    have u17 : s2'.1 o 17 = σ.1 o 17 := by rw [← hs2, pf_nk (by decide), pr_1, pf_nk (by decide)]
    have uE : s2'.2 (rfo o 15) = σ.2 (rfo o 15) := by funext j; rw [← hs2, pf_2, pr_2, if_neg (by omega), pf_2]
    rw [u17, uE]
    obtain ⟨n17, hn17⟩ : ∃ n : Nat, σ.1 o 17 + 1 = (n : Int) := ⟨(σ.1 o 17 + 1).toNat, by omega⟩
    rw [hn17, show Int.toNat (n17 : Int) = n17 from rfl]
    have hval : 0 ≤ σ.2 (rfo o 15) n17 ∧ σ.2 (rfo o 15) n17 ≤ 262144 := by
      rcases k6 with y | ⟨G', l, y1, y2, y3⟩
      · exact absurd y.1 c1
      · rw [y1, kev_app, Nat.zero_add] at k2
        obtain ⟨-, -, z3, z4, -⟩ := k2
        obtain ⟨pp, p1, p2, -⟩ := z3
        rw [show n17 = kel G' + 2 by omega, z4]
        omega
    refine ⟨⟨by omega, by omega⟩, ⟨by omega, by omega⟩, ⟨by omega, by omega⟩, ⟨by omega, by omega⟩, ?_⟩
    refine fin_ _ (fun p k x => ?_) (fun r x => ?_) ?_ (fun j => ?_) (b3 _ ?_ ?_ ?_ (fun j => ?_))
    · rw [pr_1, ← hs2, pf_1, if_neg (by omega), pr_1, pf_1, if_neg (by omega)]
    · funext j
      rw [pr_2, if_neg (by omega), ← hs2, pf_2, pr_2, if_neg (by omega), pf_2]
    · rw [pr_1, ← hs2, pf_eq, hu]
    · rw [pr_2, if_neg (by omega), ← hs2, pf_2, pr_2, hu]
      by_cases y : j = (gP g).length
      · rw [if_pos ⟨rfl, y⟩, if_pos (by omega)]
      · rw [if_neg (fun z => y z.2), if_neg (by omega), pf_2]
    · rw [pr_1, ← hs2, pf_nk (by decide), pr_1, pf_nk (by decide)]
    · rw [pr_1, u17]
    · rw [pr_1, ← hs2, pf_nk (by decide), pr_1, pf_eq]
    · rw [pr_2, uE]
      by_cases y : j = n17
      · rw [if_pos ⟨rfl, y⟩, if_pos (by omega), y]
      · rw [if_neg (fun z => y z.2), if_neg (by omega)]
end Kev
