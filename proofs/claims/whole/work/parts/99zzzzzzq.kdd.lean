/-! ===== the reference: an attribute is declared ===== -/
/-- what the value of a default is read to -/
def dvR (rm : Nat) (A : AS) (bs : List Nat) (T : Nat → Int) (vf : Option (Nat × Nat)) : Nat ⊕ (Nat × Nat × List Int) := match vf with
  | none => .inr (aN A 0, aN A 1, [])
  | some z => vrn rm (aE A) bs (und A) (2 * rm + 3) ([(sl T (z.1 + 1) (z.2 - 1 - (z.1 + 1)), 0)], aN A 0, aN A 1, [])
/-- how long what stands in its literal is -/
def dvL (vf : Option (Nat × Nat)) : Nat := match vf with
  | none => 0
  | some z => z.2 - 1 - (z.1 + 1)
/-- what a new declaration of an attribute violates -/
def dvD (ad : List ADc) (x : ADc) (k : Nat) : Nat := if k = 13 then (if x.2.2.1 = 1 ∧ (List.range ad.length).any (fun j => (ad.getD j adD).1 == x.1 && (ad.getD j adD).2.2.1 == 1) = true then 1 else 0) else if k = 14 then (if x.2.2.1 = 1 ∧ 3 ≤ x.2.2.2.1 then 1 else 0) else if k = 15 then (if 3 ≤ x.2.2.2.1 ∧ asW x.2.2.1 x.2.2.2.2.2 x.2.2.2.2.1 = false then 1 else 0) else if k = 17 then (if x.2.2.1 = 8 ∧ (List.range ad.length).any (fun j => (ad.getD j adD).1 == x.1 && (ad.getD j adD).2.2.1 == 8) = true then 1 else 0) else if k = 19 then rpk x.2.2.2.2.2 x.2.2.2.2.2.length else 0
/-- what a declaration of an attribute may change -/
def FDa (o : Nat) (σ ρ : IS) : Prop := (∀ pp kk, ¬ ((pp = 16 ∧ (kk = 25 ∨ kk = 56 ∨ kk = 58)) ∨ (pp = o ∧ kk = 2)) → ρ.1 pp kk = σ.1 pp kk) ∧ ∀ r, ¬ (r = rfo o 1 ∨ r = rfo o 18 ∨ r = 186 ∨ (199 ≤ r ∧ r ≤ 206) ∨ (208 ≤ r ∧ r ≤ 210)) → ρ.2 r = σ.2 r
section Kdd
variable {L : Nat → Nat} {rm nd o : Nat} {σ ρ τ : IS} {g g' : KG} {a a' A : AS} {bs bs' : List Nat} {Q : IS → Prop} {R : Int → IS → Prop} {T : Nat → Int} {x y z v w : Int} {s el nm : Str} {e : Nat}
theorem nrt_nilK {t : Nat} : nrt t [] = [] := by
  unfold nrt
  split <;> rfl
/-- one declared attribute more -/
theorem KAd.snoc {ad : List ADc} {X : ADc} {bk : List Str} {pl : List Int} (h : KAd σ bk pl ad) (h56 : τ.1 16 56 = σ.1 16 56 + 1) (h58 : τ.1 16 58 = σ.1 16 58) (h207 : τ.2 207 = σ.2 207) (hr : ∀ r, 199 ≤ r → r ≤ 206 → ∀ i, i < ad.length → τ.2 r i = σ.2 r i)
    (n1 : Kn bk (τ.2 199 ad.length) X.1) (n2 : Kn bk (τ.2 200 ad.length) X.2.1) (n3 : τ.2 201 ad.length = (X.2.2.1 : Int)) (n4 : τ.2 202 ad.length = (X.2.2.2.1 : Int)) (n5 : 3 ≤ X.2.2.2.1 → Kpc pl (τ.2 203 ad.length) X.2.2.2.2.1 ∧ τ.2 204 ad.length = (X.2.2.2.2.1.length : Int)) (n6 : KLs τ bk (τ.2 205 ad.length) X.2.2.2.2.2) (n7 : τ.2 206 ad.length = (X.2.2.2.2.2.length : Int)) : KAd τ bk pl (ad ++ [X]) := by
  refine ⟨by rw [h56, h.1, List.length_append, List.length_singleton]; omega, fun i hi => ?_⟩
  rw [List.length_append, List.length_singleton] at hi
  by_cases c : i = ad.length
  · have hg : (ad ++ [X]).getD i adD = X := by rw [c, getD_snoc, if_neg (Nat.lt_irrefl _), if_pos rfl]
    rw [hg, c]
    exact ⟨n1, n2, n3, n4, n5, n6, n7⟩
  · have hi' : i < ad.length := by omega
    have hg : (ad ++ [X]).getD i adD = ad.getD i adD := by rw [getD_snoc, if_pos hi']
    rw [hg, hr 199 (by omega) (by omega) i hi', hr 200 (by omega) (by omega) i hi', hr 201 (by omega) (by omega) i hi', hr 202 (by omega) (by omega) i hi', hr 203 (by omega) (by omega) i hi', hr 204 (by omega) (by omega) i hi', hr 205 (by omega) (by omega) i hi', hr 206 (by omega) (by omega) i hi']
    obtain ⟨k1, k2, k3, k4, k5, k6, k7⟩ := h.2 i hi'
    exact ⟨k1, k2, k3, k4, k5, k6.dep kle.refl (by rw [h58]; exact Int.le_refl _) (fun j _ => by rw [h207]), k7⟩
set_option maxHeartbeats 8000000 in
theorem sp_K_define {p b0 t how : Nat} {ad : List ADc} {ls : List Str} {a1 a2 : Int} (vf : Option (Nat × Nat)) (hL : KLn L o rm nd) (h : KVx rm nd o σ g A bs) (hAd0 : KAd (pf σ 16 58 (b0 : Int)) (gB g) (gP g) ad) (he : (aE A).length ≤ 8300) (hN : aN A 0 ≤ rm) (h6 : aN A 6 ≠ 0 → (aR A).isSome = true) (hV : ∀ k, gV g k ≤ 800000000) (hK : KT L σ (p + e)) (hc : chs σ (p + e)) (hS : SHT T (σ.2 176) e p) (hp : p + e ≤ (gC g).length) (h78 : σ.1 16 78 = (t : Int)) (h79 : σ.1 16 79 = (b0 : Int)) (h81 : σ.1 16 81 = (how : Int)) (h82 : σ.1 16 82 = match vf with
      | none => -1
      | some z => ((p + z.1 : Nat) : Int)) (hvf : ∀ z, vf = some z → ltl T e (some z.1) = some z.2 ∧ z.2 - 1 - (z.1 + 1) ≤ aN A 0 ∧ (gP g).length + (z.2 - 1 - (z.1 + 1)) + (rm - aN A 0) ≤ L (rfo o 1)) (hgv : 3 ≤ how ↔ vf ≠ none) (hh4 : how ≤ 4) (ht9 : t ≤ 9) (hls : KLq σ (gB g) b0 ls) (h58 : b0 + ls.length ≤ 50000) (hpl : (gP g).length ≤ L (rfo o 1)) (hel : Kn (gB g) a1 el) (hnm : Kn (gB g) a2 nm) (hdl : ad.length < 8300)
    (hbad : ∀ f ρ, dvR rm A bs T vf = .inl f → f ≠ 0 → ρ.1 16 3 = (f : Int) → (ρ.1 16 4 = σ.1 16 4 ∧ ρ.1 16 17 = σ.1 16 17 ∧ ρ.2 176 = σ.2 176) → Q ρ)
    (hgood : ∀ c m out, dvR rm A bs T vf = .inr (c, m, out) → aN A 1 ≤ m → c ≤ rm → out.length + m + aN A 0 ≤ aN A 1 + dvL vf + c → ∀ τ gP2 gv2 b2 ad2, KVx rm nd o τ (gB g, gC g, gP2, gv2) (sN (sN A 0 c) 1 m) bs → KAd τ (gB g) gP2 ad2 → τ.1 16 58 = (b2 : Int) → ((adf ad el nm).isSome = true → ad2 = ad ∧ gP2 = gP g ∧ b2 = b0 ∧ ∀ k, gv2 k = gV g k + (if k = 22 then m - aN A 1 else 0)) → ((adf ad el nm).isSome = false → ad2 = ad ++ [(el, nm, t, how, nrt t out, ls)] ∧ gP2 = gP g ++ nrt t out ∧ b2 = b0 + ls.length ∧ ∀ k, gv2 k = gV g k + (if k = 22 then m - aN A 1 else 0) + dvD ad (el, nm, t, how, nrt t out, ls) k) → FDa o σ τ → Q τ) : w_KReader_define L a1 a2 Q σ := by
  have ho := hL.2.1
  have r1 := rf_1 ho
  obtain ⟨d1, d2⟩ := h.dy ho
  have d2' : dyD (o : Int) := by rw [← d1]; exact d2
  have hn := h.1.2.1
  have hu : σ.1 o 2 = ((gP g).length : Int) := h.1.2.2.2.1.1
  have l9 := hL.2.2.2.2.2.2.2.2.2.2.1
  have l199 := l9 199 (by omega) (by omega)
  have l200 := l9 200 (by omega) (by omega)
  have l201 := l9 201 (by omega) (by omega)
  have l202 := l9 202 (by omega) (by omega)
  have l203 := l9 203 (by omega) (by omega)
  have l204 := l9 204 (by omega) (by omega)
  have l205 := l9 205 (by omega) (by omega)
  have l206 := l9 206 (by omega) (by omega)
  have l18 : L (rfo o 18) = 23 := hL.2.2.2.2.2.2.2.2.2.2.2.2.2.2.2.2.2.2.2.1
  have l1 := hL.2.2.2.2.2.2.2.2.2.2.2.2.2.2.2.2.1
  have hAd : KAd σ (gB g) (gP g) ad := hAd0.dep kle.refl cle.refl (by rw [pf_nk (by decide)]) (by rw [pf_eq, hls.1]; omega) (fun _ _ _ => rfl) (fun _ _ => rfl)
  unfold w_KReader_define
  rw [d1, show Int.toNat (o : Int) = o from rfl, hu, h78, h79, h81]
  refine ⟨d2', ?_⟩
  -- the value
  refine WJ_of (fun (s4 : Int) ρ => ∃ c m out, dvR rm A bs T vf = .inr (c, m, out) ∧ (aN A 1 ≤ m ∧ out.length + m + aN A 0 ≤ aN A 1 + dvL vf + c) ∧ c ≤ rm ∧ (gP g).length + (nrt t out).length ≤ L (rfo o 1) ∧ s4 = ((nrt t out).length : Int) ∧ KVx rm nd o ρ (gB g, gC g, gP g ++ nrt t out, fun k => gV g k + if k = 22 then m - aN A 1 else 0) (sN (sN A 0 c) 1 m) bs ∧ FD o σ ρ) (fun J hJ => ?_) ?_
  · cases vf with
    | none =>
      have h82' : σ.1 16 82 = -1 := h82
      rw [h82', if_pos (by decide)]
      refine hJ 0 σ ⟨aN A 0, aN A 1, [], rfl, ⟨Nat.le_refl _, by show 0 + aN A 1 + aN A 0 ≤ aN A 1 + 0 + aN A 0; omega⟩, hN, by rw [nrt_nilK, List.length_nil]; exact hpl, by rw [nrt_nilK]; rfl, ?_, ⟨fun _ _ _ => rfl, fun _ _ => rfl⟩⟩
      rw [nrt_nilK, List.append_nil, Nat.sub_self]
      obtain ⟨q1, q2, q3, q4, q5⟩ := h
      obtain ⟨n1, n2, n3, n4, n5, n6, n7⟩ := q3
      refine ⟨?_, q2, ⟨n1, n2, n3, n4, n5, n6, n7⟩, q4, q5⟩
      obtain ⟨z1, z2, z3, z4, z5, z6⟩ := q1
      refine ⟨z1, z2, z3, z4, z5, fun k hk => ?_⟩
      show _ = ((gV g k + (if k = 22 then 0 else 0) : Nat) : Int)
      rw [z6 k hk]
      split <;> rfl
    | some z =>
      have h82' : σ.1 16 82 = ((p + z.1 : Nat) : Int) := h82
      obtain ⟨v1, v2, v3⟩ := hvf z rfl
      rw [h82', if_neg (by omega)]
      refine sp_K_find hL h he hN h6 (by have := hV 22; omega) hK hc hS hp rfl v1 v2 v3 (fun f ρ1 q1 q0 q2 q3 => ?_) (fun c m out ρ1 q1 q2 q3 q4 q5 q6 => ?_)
      · rw [if_pos rfl]
        exact hbad f ρ1 q1 q0 q2 q3
      rw [if_neg (by decide)]
      generalize hgv1 : (fun k => gV g k + if k = 22 then m - aN A 1 else 0) = gv1 at q5
      refine sp_K_norm (t := t) hL q5 (by omega) rfl rfl (fun ρ2 w1 w2 w3 => ?_)
      have hnl := nrt_len t out
      refine hJ _ ρ2 ⟨c, m, out, q1, ⟨q2, q4⟩, q3, by omega, rfl, by rw [hgv1]; exact w1, ⟨fun pp kk z => by rw [w2 pp kk (by omega)]; exact q6.1 pp kk z, fun r z => by rw [w3 r (by omega)]; exact q6.2 r z⟩⟩
  rintro s4 ρ ⟨c, m, out, hR, ⟨hm, hlen⟩, hcr, hpl2, rfl, hX, hFD⟩
  try dsimp only
  generalize hgv1 : (fun k => gV g k + if k = 22 then m - aN A 1 else 0) = gv1 at hX
  have hgb : ∀ k, gv1 k = gV g k + if k = 22 then m - aN A 1 else 0 := fun k => by rw [← hgv1]
  generalize hval : nrt t out = val at *
  have hA1 : KAd ρ (gB g) (gP g ++ val) ad := hAd.dep kle.refl ⟨val, rfl⟩ (hFD.1 16 56 (by omega)) (by rw [hFD.1 16 58 (by omega)]; exact Int.le_refl _) (fun r z1 z2 => hFD.2 r (by omega)) (fun i _ => by rw [hFD.2 207 (by omega)])
  have hl1 : KLq ρ (gB g) b0 ls := ⟨by rw [hFD.1 16 58 (by omega)]; exact hls.1, fun k hk => by rw [hFD.2 207 (by omega)]; exact hls.2 k hk⟩
  refine sp_K_attributeOf hL (g := (gB g, gC g, gP g ++ val, gv1)) hn hA1 (by omega) hel hnm ?_
  have dρ : ρ.1 16 2 = (o : Int) := by rw [hFD.1 16 2 (by omega)]; exact d1
  cases hdd : adf ad el nm with
  | some dd =>
    rw [if_neg (show ¬ enc (some dd) < 0 from (by show ¬ ((dd : Nat) : Int) < 0; omega)), dρ, show Int.toNat (o : Int) = o from rfl]
    refine ⟨d2', ?_⟩
    have hf2 : ∀ pp kk, ¬ ((pp = 16 ∧ kk = 58) ∨ (pp = o ∧ kk = 2)) → (pf (pf ρ 16 58 (b0 : Int)) o 2 ((gP g).length : Int)).1 pp kk = ρ.1 pp kk := fun pp kk z => by rw [pf_1, if_neg (by omega), pf_1, if_neg (by omega)]
    have h58' : (pf (pf ρ 16 58 (b0 : Int)) o 2 ((gP g).length : Int)).1 16 58 = (b0 : Int) := by rw [pf_1, if_neg (by omega), pf_eq]
    have hX2 : KVx rm nd o (pf ρ 16 58 (b0 : Int)) (gB g, gC g, gP g ++ val, gv1) (sN (sN A 0 c) 1 m) bs := hX.dep ho (fun pp kk z => by rw [pf_1, if_neg (by omega)]) (fun r z => rfl)
    have hX3 := KVx.pool2 (τ := pf (pf ρ 16 58 (b0 : Int)) o 2 ((gP g).length : Int)) (out' := []) ho hX2 (fun pp kk z => by rw [pf_1, if_neg z]) (fun r z => rfl) (by rw [pf_eq, List.length_nil]; rfl) (fun j hj => rfl) (fun j hj => absurd hj (Nat.not_lt_zero j))
    rw [List.append_nil] at hX3
    refine hgood c m out hR hm hcr hlen _ (gP g) gv1 b0 ad hX3 ?_ h58' (fun _ => ⟨rfl, rfl, rfl, hgb⟩) (fun z => by rw [hdd] at z; cases z) ⟨fun pp kk z => ?_, fun r z => hFD.2 r (by omega)⟩
    · exact hAd0.dep kle.refl cle.refl (by rw [hf2 16 56 (by omega), hFD.1 16 56 (by omega), pf_nk (by decide)]) (by rw [h58', pf_eq]; exact Int.le_refl _) (fun r z1 z2 => hFD.2 r (by omega)) (fun i _ => by rw [pf_2, pf_2, hFD.2 207 (by omega), pf_2])
    · rw [hf2 pp kk (by omega)]; exact hFD.1 pp kk (by omega)
  | none =>
    have e56 : ρ.1 16 56 = (ad.length : Int) := hA1.1
    have e58 : ρ.1 16 58 = ((b0 + ls.length : Nat) : Int) := hl1.1
    have hbt : nb (t : Int) = (t : Int) := nb_small ht9
    have hbh : nb (how : Int) = (how : Int) := nb_small (by omega)
    have hgi : (if (how : Int) = 3 then (1 : Int) else (if (how : Int) = 4 then (1 : Int) else (0 : Int))) = b1 (decide (3 ≤ how)) := by
      by_cases c3 : how = 3
      · rw [if_pos (by omega), decide_eq_true (by omega)]; rfl
      · rw [if_neg (by omega)]
        by_cases c4 : how = 4
        · rw [if_pos (by omega), decide_eq_true (by omega)]; rfl
        · rw [if_neg (by omega), decide_eq_false (by omega)]; rfl
    rw [if_pos (show enc none < 0 by decide), e56, e58, dρ, show Int.toNat (o : Int) = o from rfl, show Int.toNat (ad.length : Int) = ad.length from rfl, show ((b0 + ls.length : Nat) : Int) - (b0 : Int) = (ls.length : Int) by omega, hbt, hbh, hgi, show Int.toNat (13 : Int) = 13 from rfl, show Int.toNat (14 : Int) = 14 from rfl, show Int.toNat (15 : Int) = 15 from rfl, show Int.toNat (17 : Int) = 17 from rfl, show Int.toNat (19 : Int) = 19 from rfl]
    refine ⟨⟨by omega, by omega⟩, ⟨by omega, by omega⟩, ⟨by omega, by omega⟩, ⟨by omega, by omega⟩, ⟨by omega, by omega⟩, ⟨by omega, by omega⟩, ⟨by omega, by omega⟩, ⟨by omega, by omega⟩, ⟨by omega, by omega⟩, ⟨by omega, by omega⟩, d2', ⟨by omega, by omega⟩, ?_⟩
    have XF : ∀ pp kk, ¬ (pp = 16 ∧ kk = 56) → (pr (pr (pr (pr (pr (pr (pr (pr (pf ρ 16 56 ((ad.length : Int) + 1)) 199 ad.length a1) 200 ad.length a2) 201 ad.length (t : Int)) 202 ad.length (how : Int)) 203 ad.length ((gP g).length : Int)) 204 ad.length (val.length : Int)) 205 ad.length (b0 : Int)) 206 ad.length (ls.length : Int)).1 pp kk = ρ.1 pp kk := fun pp kk z => by rw [pr_1, pr_1, pr_1, pr_1, pr_1, pr_1, pr_1, pr_1, pf_1, if_neg z]
    have X56 : (pr (pr (pr (pr (pr (pr (pr (pr (pf ρ 16 56 ((ad.length : Int) + 1)) 199 ad.length a1) 200 ad.length a2) 201 ad.length (t : Int)) 202 ad.length (how : Int)) 203 ad.length ((gP g).length : Int)) 204 ad.length (val.length : Int)) 205 ad.length (b0 : Int)) 206 ad.length (ls.length : Int)).1 16 56 = (ad.length : Int) + 1 := by rw [pr_1, pr_1, pr_1, pr_1, pr_1, pr_1, pr_1, pr_1, pf_eq]
    have XR : ∀ r, ¬ (199 ≤ r ∧ r ≤ 206) → (pr (pr (pr (pr (pr (pr (pr (pr (pf ρ 16 56 ((ad.length : Int) + 1)) 199 ad.length a1) 200 ad.length a2) 201 ad.length (t : Int)) 202 ad.length (how : Int)) 203 ad.length ((gP g).length : Int)) 204 ad.length (val.length : Int)) 205 ad.length (b0 : Int)) 206 ad.length (ls.length : Int)).2 r = ρ.2 r := fun r z => by rw [prn (by omega), prn (by omega), prn (by omega), prn (by omega), prn (by omega), prn (by omega), prn (by omega), prn (by omega), pfr]
    have XV : ∀ r j, (pr (pr (pr (pr (pr (pr (pr (pr (pf ρ 16 56 ((ad.length : Int) + 1)) 199 ad.length a1) 200 ad.length a2) 201 ad.length (t : Int)) 202 ad.length (how : Int)) 203 ad.length ((gP g).length : Int)) 204 ad.length (val.length : Int)) 205 ad.length (b0 : Int)) 206 ad.length (ls.length : Int)).2 r j = if j = ad.length then (if r = 206 then (ls.length : Int) else if r = 205 then (b0 : Int) else if r = 204 then (val.length : Int) else if r = 203 then ((gP g).length : Int) else if r = 202 then (how : Int) else if r = 201 then (t : Int) else if r = 200 then a2 else if r = 199 then a1 else ρ.2 r j) else ρ.2 r j := fun r j => by
      rw [pr_2, pr_2, pr_2, pr_2, pr_2, pr_2, pr_2, pr_2, pf_2]
      by_cases cj : j = ad.length
      · simp only [cj, and_true, if_true]
      · simp only [cj, and_false, if_false]
    generalize pr (pr (pr (pr (pr (pr (pr (pr (pf ρ 16 56 ((ad.length : Int) + 1)) 199 ad.length a1) 200 ad.length a2) 201 ad.length (t : Int)) 202 ad.length (how : Int)) 203 ad.length ((gP g).length : Int)) 204 ad.length (val.length : Int)) 205 ad.length (b0 : Int)) 206 ad.length (ls.length : Int) = X8 at *
    have hpc : Kpc (gP g ++ val) ((gP g).length : Int) val := Kpc.mk' rfl (by rw [List.length_append]; exact Nat.le_refl _) (fun jj hj => by
      rw [List.getD_eq_getElem?_getD, List.getD_eq_getElem?_getD, List.getElem?_append_right (by omega), Nat.add_sub_cancel_left])
    have hX8 : KVx rm nd o X8 (gB g, gC g, gP g ++ val, gv1) (sN (sN A 0 c) 1 m) bs := hX.dep ho (fun pp kk z => XF pp kk (by omega)) (fun r z => XR r (by omega))
    have x58 : X8.1 16 58 = ((b0 + ls.length : Nat) : Int) := by rw [XF 16 58 (by omega)]; exact e58
    have hA8 : KAd X8 (gB g) (gP g ++ val) (ad ++ [(el, nm, t, how, val, ls)]) := by
      refine hA1.snoc (by rw [X56, e56]) (XF 16 58 (by omega)) (XR 207 (by omega)) (fun r z1 z2 i hi => by rw [XV, if_neg (by omega)]) ?_ ?_ ?_ ?_ (fun _ => ⟨?_, ?_⟩) ?_ ?_
      · rw [XV, if_pos rfl, if_neg (by decide), if_neg (by decide), if_neg (by decide), if_neg (by decide), if_neg (by decide), if_neg (by decide), if_neg (by decide), if_pos rfl]; exact hel
      · rw [XV, if_pos rfl, if_neg (by decide), if_neg (by decide), if_neg (by decide), if_neg (by decide), if_neg (by decide), if_neg (by decide), if_pos rfl]; exact hnm
      · rw [XV, if_pos rfl, if_neg (by decide), if_neg (by decide), if_neg (by decide), if_neg (by decide), if_neg (by decide), if_pos rfl]
      · rw [XV, if_pos rfl, if_neg (by decide), if_neg (by decide), if_neg (by decide), if_neg (by decide), if_pos rfl]
      · rw [XV, if_pos rfl, if_neg (by decide), if_neg (by decide), if_neg (by decide), if_pos rfl]; exact hpc
      · rw [XV, if_pos rfl, if_neg (by decide), if_neg (by decide), if_pos rfl]
      · rw [XV, if_pos rfl, if_neg (by decide), if_pos rfl]
        exact ⟨b0, rfl, by show (b0 : Int) + (ls.length : Int) ≤ _; rw [x58]; omega, fun k hk => by rw [XR 207 (by omega)]; exact hl1.2 k hk⟩
      · rw [XV, if_pos rfl, if_pos rfl]
    have hal : (ad ++ [(el, nm, t, how, val, ls)]).length = ad.length + 1 := by rw [List.length_append, List.length_singleton]
    have hany : ∀ tt : Nat, (List.range ad.length).any (fun j => ((ad ++ [(el, nm, t, how, val, ls)]).getD j adD).1 == el && ((ad ++ [(el, nm, t, how, val, ls)]).getD j adD).2.2.1 == tt) = (List.range ad.length).any (fun j => (ad.getD j adD).1 == el && (ad.getD j adD).2.2.1 == tt) := fun tt => by
      rw [Bool.eq_iff_iff, List.any_eq_true, List.any_eq_true]
      constructor
      · rintro ⟨j, hj, hh⟩
        rw [getD_snoc, if_pos (List.mem_range.mp hj)] at hh
        exact ⟨j, hj, hh⟩
      · rintro ⟨j, hj, hh⟩
        refine ⟨j, hj, ?_⟩
        rw [getD_snoc, if_pos (List.mem_range.mp hj)]
        exact hh
    have d8 : X8.1 16 2 = (o : Int) := by rw [XF 16 2 (by omega)]; exact dρ
    have hv8 : ∀ k, k < 23 → X8.2 (rfo o 18) k = (gv1 k : Int) := hX8.1.2.2.2.2.2
    have hb13 := hgb 13
    have hb14 := hgb 14
    have hb15 := hgb 15
    have hb17 := hgb 17
    have hb19 := hgb 19
    rw [if_neg (by decide)] at hb13 hb14 hb15 hb17 hb19
    have hV13 := hV 13
    have hV14 := hV 14
    have hV15 := hV 15
    have hV17 := hV 17
    have hV19 := hV 19
    rw [hv8 13 (by omega)]
    generalize hm13 : (if t = 1 ∧ (List.range ad.length).any (fun j => (ad.getD j adD).1 == el && (ad.getD j adD).2.2.1 == 1) = true then 1 else 0 : Nat) = m13
    have hm13' : m13 ≤ 1 := by rw [← hm13]; split <;> omega
    -- another of type ID
    refine WJ_of (fun (s12 : Int) υ => υ = X8 ∧ s12 = (m13 : Int)) (fun J hJ => ?_) ?_
    · refine WJ_dir ?_
      by_cases t1 : t = 1
      · rw [if_pos (by omega)]
        refine sp_K_hasType (g := (gB g, gC g, gP g ++ val, gv1)) (d := ad.length) (t := 1) hL hn hA8 (by omega) (by omega) hel rfl rfl ?_
        rw [hany]
        cases hb : (List.range ad.length).any (fun j => (ad.getD j adD).1 == el && (ad.getD j adD).2.2.1 == 1) with
        | true =>
          rw [hb, if_pos ⟨t1, rfl⟩] at hm13
          rw [if_neg (by decide)]
          exact hJ 1 _ ⟨rfl, by rw [← hm13]; rfl⟩
        | false =>
          rw [hb, if_neg (fun z => by cases z.2)] at hm13
          rw [if_pos (by decide)]
          exact hJ 0 _ ⟨rfl, by rw [← hm13]; rfl⟩
      · rw [if_neg (by omega)]
        rw [if_neg (fun z => t1 z.1)] at hm13
        exact hJ 0 _ ⟨rfl, by rw [← hm13]; rfl⟩
    rintro s12 υ ⟨rfl, rfl⟩
    try dsimp only
    rw [d8, show Int.toNat (o : Int) = o from rfl]
    have e14 : (if (t : Int) = 1 then (if b1 (decide (3 ≤ how)) = 0 then (0 : Int) else 1) else 0) = ((if t = 1 ∧ 3 ≤ how then 1 else 0 : Nat) : Int) := by
      by_cases t1 : t = 1
      · rw [if_pos (by omega)]
        by_cases c3 : 3 ≤ how
        · rw [decide_eq_true c3, if_neg (by decide), if_pos ⟨t1, c3⟩]; rfl
        · rw [decide_eq_false c3, if_pos (by decide), if_neg (fun z => c3 z.2)]; rfl
      · rw [if_neg (by omega), if_neg (fun z => t1 z.1)]; rfl
    rw [e14]
    generalize hm14 : (if t = 1 ∧ 3 ≤ how then 1 else 0 : Nat) = m14
    have hm14' : m14 ≤ 1 := by rw [← hm14]; split <;> omega
    have v14 : (pr υ (rfo o 18) 13 ((gv1 13 : Int) + (m13 : Int))).2 (rfo o 18) 14 = (gv1 14 : Int) := by rw [prr, if_neg (by decide)]; exact hv8 14 (by omega)
    rw [v14]
    refine ⟨⟨by omega, by omega⟩, ⟨by omega, by omega⟩, d2', ⟨by omega, by omega⟩, ⟨by omega, by omega⟩, ⟨by omega, by omega⟩, ?_⟩
    refine LETH_of (fun σ15 hσ15 => ?_)
    have hX9 := (hX8.vio (k := 13) (m := m13) ho (show (gv1 13 : Int) + (m13 : Int) = ((gv1 13 + m13 : Nat) : Int) by omega)).vio (k := 14) (m := m14) (v := (gv1 14 : Int) + (m14 : Int)) ho (by show _ = ((gv1 14 + (if 14 = 13 then m13 else 0) + m14 : Nat) : Int); rw [if_neg (by decide)]; omega)
    rw [← hσ15] at hX9
    have F15 : σ15.1 = υ.1 := by rw [hσ15]; rfl
    have R15 : ∀ r, r ≠ rfo o 18 → σ15.2 r = υ.2 r := fun r z => by rw [hσ15, prn z, prn z]
    have v15 : ∀ k, k ≠ 13 → k ≠ 14 → k < 23 → σ15.2 (rfo o 18) k = (gv1 k : Int) := fun k z1 z2 z3 => by rw [hσ15, prr, if_neg z2, prr, if_neg z1]; exact hv8 k z3
    clear hσ15
    have hA15 : KAd σ15 (gB g) (gP g ++ val) (ad ++ [(el, nm, t, how, val, ls)]) := hA8.dep kle.refl cle.refl (by rw [F15]) (by rw [F15]; exact Int.le_refl _) (fun r z1 z2 => R15 r (by omega)) (fun i _ => by rw [R15 207 (by omega)])
    rw [F15, d8, show Int.toNat (o : Int) = o from rfl, v15 17 (by decide) (by decide) (by decide)]
    refine ⟨d2', ⟨by omega, by omega⟩, ?_⟩
    generalize hm17 : (if t = 8 ∧ (List.range ad.length).any (fun j => (ad.getD j adD).1 == el && (ad.getD j adD).2.2.1 == 8) = true then 1 else 0 : Nat) = m17
    have hm17' : m17 ≤ 1 := by rw [← hm17]; split <;> omega
    refine WJ_of (fun (s19 : Int) υ2 => υ2 = σ15 ∧ s19 = (m17 : Int)) (fun J hJ => ?_) ?_
    · refine WJ_dir ?_
      by_cases t8 : t = 8
      · rw [if_pos (by omega)]
        refine sp_K_hasType (g := (gB g, gC g, gP g ++ val, gv1)) (d := ad.length) (t := 8) hL hn hA15 (by omega) (by omega) hel rfl rfl ?_
        rw [hany]
        cases hb : (List.range ad.length).any (fun j => (ad.getD j adD).1 == el && (ad.getD j adD).2.2.1 == 8) with
        | true =>
          rw [hb, if_pos ⟨t8, rfl⟩] at hm17
          rw [if_neg (by decide)]
          exact hJ 1 _ ⟨rfl, by rw [← hm17]; rfl⟩
        | false =>
          rw [hb, if_neg (fun z => by cases z.2)] at hm17
          rw [if_pos (by decide)]
          exact hJ 0 _ ⟨rfl, by rw [← hm17]; rfl⟩
      · rw [if_neg (by omega)]
        rw [if_neg (fun z => t8 z.1)] at hm17
        exact hJ 0 _ ⟨rfl, by rw [← hm17]; rfl⟩
    rintro s19 υ2 ⟨rfl, rfl⟩
    try dsimp only
    rw [F15, d8, show Int.toNat (o : Int) = o from rfl, x58, show ((b0 + ls.length : Nat) : Int) - (b0 : Int) = (ls.length : Int) by omega]
    refine ⟨⟨by omega, by omega⟩, ⟨by omega, by omega⟩, d2', ⟨by omega, by omega⟩, ⟨by omega, by omega⟩, ?_⟩
    have hX17 := hX9.vio (k := 17) (m := m17) (v := (gv1 17 : Int) + (m17 : Int)) ho (by show _ = ((gv1 17 + (if 17 = 13 then m13 else 0) + (if 17 = 14 then m14 else 0) + m17 : Nat) : Int); rw [if_neg (by decide), if_neg (by decide)]; omega)
    have F17 : (pr υ2 (rfo o 18) 17 ((gv1 17 : Int) + (m17 : Int))).1 = υ.1 := by rw [pr_1]; exact F15
    have R17 : ∀ r, r ≠ rfo o 18 → (pr υ2 (rfo o 18) 17 ((gv1 17 : Int) + (m17 : Int))).2 r = υ.2 r := fun r z => by rw [prn z, R15 r z]
    have v17 : ∀ k, k ≠ 13 → k ≠ 14 → k ≠ 17 → k < 23 → (pr υ2 (rfo o 18) 17 ((gv1 17 : Int) + (m17 : Int))).2 (rfo o 18) k = (gv1 k : Int) := fun k z1 z2 z3 z4 => by rw [prr, if_neg z3]; exact v15 k z1 z2 z4
    generalize pr υ2 (rfo o 18) 17 ((gv1 17 : Int) + (m17 : Int)) = σ17 at *
    have hrp := rpk_le (l := ls) ls.length
    refine sp_K_doubles (g := (gB g, gC g, gP g ++ val, gv1)) (ls := ls) hL hn ⟨b0, rfl, by rw [F17, x58]; omega, fun k hk => by rw [R17 207 (by omega), XR 207 (by omega)]; exact hl1.2 k hk⟩ (by rw [F17, x58]; omega) rfl ?_
    generalize hm19 : rpk ls ls.length = m19 at *
    rw [v17 19 (by decide) (by decide) (by decide) (by decide), F17, d8, show Int.toNat (o : Int) = o from rfl]
    refine ⟨⟨by omega, by omega⟩, ⟨by omega, by omega⟩, d2', ⟨by omega, by omega⟩, ?_⟩
    have hX19 := hX17.vio (k := 19) (m := m19) (v := (gv1 19 : Int) + (m19 : Int)) ho (by show _ = ((gv1 19 + (if 19 = 13 then m13 else 0) + (if 19 = 14 then m14 else 0) + (if 19 = 17 then m17 else 0) + m19 : Nat) : Int); rw [if_neg (by decide), if_neg (by decide), if_neg (by decide)]; omega)
    have F19 : (pr σ17 (rfo o 18) 19 ((gv1 19 : Int) + (m19 : Int))).1 = υ.1 := by rw [pr_1]; exact F17
    have R19 : ∀ r, r ≠ rfo o 18 → (pr σ17 (rfo o 18) 19 ((gv1 19 : Int) + (m19 : Int))).2 r = υ.2 r := fun r z => by rw [prn z, R17 r z]
    have v19 : (pr σ17 (rfo o 18) 19 ((gv1 19 : Int) + (m19 : Int))).2 (rfo o 18) 15 = (gv1 15 : Int) := by rw [prr, if_neg (by decide)]; exact v17 15 (by decide) (by decide) (by decide) (by decide)
    generalize pr σ17 (rfo o 18) 19 ((gv1 19 : Int) + (m19 : Int)) = σ19 at *
    have hA19 : KAd σ19 (gB g) (gP g ++ val) (ad ++ [(el, nm, t, how, val, ls)]) := hA8.dep kle.refl cle.refl (by rw [F19]) (by rw [F19]; exact Int.le_refl _) (fun r z1 z2 => R19 r (by omega)) (fun i _ => by rw [R19 207 (by omega)])
    generalize hm15 : (if 3 ≤ how ∧ asW t ls val = false then 1 else 0 : Nat) = m15
    have hm15' : m15 ≤ 1 := by rw [← hm15]; split <;> omega
    have hgx : (ad ++ [(el, nm, t, how, val, ls)]).getD ad.length adD = (el, nm, t, how, val, ls) := by rw [getD_snoc, if_neg (Nat.lt_irrefl _), if_pos rfl]
    refine WJ_of (fun (s27 : Int) υ3 => υ3 = σ19 ∧ s27 = (m15 : Int)) (fun J hJ => ?_) ?_
    · refine WJ_dir ?_
      by_cases c3 : 3 ≤ how
      · rw [decide_eq_true c3, if_neg (by decide)]
        refine sp_K_isWanted (g := (gB g, gC g, gP g ++ val, fun j => gv1 j + (if j = 13 then m13 else 0) + (if j = 14 then m14 else 0) + (if j = 17 then m17 else 0) + (if j = 19 then m19 else 0))) (val := val) (d := ad.length) (ad := ad ++ [(el, nm, t, how, val, ls)]) hL hX19.1 hA19 (by omega) (by omega) (by rw [hgx]; exact ht9) (by rw [F19, x58]; omega) (by show (gP g ++ val).length ≤ _; rw [List.length_append]; exact hpl2) rfl hpc rfl ?_
        rw [hgx]
        show (fun v37 σ36 => if v37 = 0 then J 1 σ36 else J 0 σ36) (b1 (asW t ls val)) σ19
        dsimp only
        cases hw : asW t ls val with
        | true =>
          rw [hw, if_neg (fun z => by cases z.2)] at hm15
          rw [if_neg (by decide)]
          exact hJ 0 _ ⟨rfl, by rw [← hm15]; rfl⟩
        | false =>
          rw [hw, if_pos ⟨c3, rfl⟩] at hm15
          rw [if_pos (by decide)]
          exact hJ 1 _ ⟨rfl, by rw [← hm15]; rfl⟩
      · rw [decide_eq_false c3, if_pos (by decide)]
        rw [if_neg (fun z => c3 z.1)] at hm15
        exact hJ 0 _ ⟨rfl, by rw [← hm15]; rfl⟩
    rintro s27 υ3 ⟨rfl, rfl⟩
    try dsimp only
    rw [v19]
    refine ⟨⟨by omega, by omega⟩, ⟨by omega, by omega⟩, ?_⟩
    have hX15 := hX19.vio (k := 15) (m := m15) (v := (gv1 15 : Int) + (m15 : Int)) ho (by show _ = ((gv1 15 + (if 15 = 13 then m13 else 0) + (if 15 = 14 then m14 else 0) + (if 15 = 17 then m17 else 0) + (if 15 = 19 then m19 else 0) + m15 : Nat) : Int); rw [if_neg (by decide), if_neg (by decide), if_neg (by decide), if_neg (by decide)]; omega)
    refine hgood c m out hR hm hcr hlen _ _ _ (b0 + ls.length) _ hX15 (hA19.dep kle.refl cle.refl (by rw [pr_1]) (by rw [pr_1]; exact Int.le_refl _) (fun r z1 z2 => prn (by omega)) (fun i _ => by rw [prn (by omega)])) (by rw [pr_1, F19]; exact x58) (fun z => by rw [hdd] at z; cases z) (fun _ => ⟨by rw [hval], by rw [hval]; rfl, rfl, fun k => ?_⟩) ⟨fun pp kk z => ?_, fun r z => ?_⟩
    · show gv1 k + (if k = 13 then m13 else 0) + (if k = 14 then m14 else 0) + (if k = 17 then m17 else 0) + (if k = 19 then m19 else 0) + (if k = 15 then m15 else 0) = _
      rw [hgb, hval]
      unfold dvD
      show _ = gV g k + (if k = 22 then m - aN A 1 else 0) + (if k = 13 then (if t = 1 ∧ (List.range ad.length).any (fun j => (ad.getD j adD).1 == el && (ad.getD j adD).2.2.1 == 1) = true then 1 else 0) else if k = 14 then (if t = 1 ∧ 3 ≤ how then 1 else 0) else if k = 15 then (if 3 ≤ how ∧ asW t ls val = false then 1 else 0) else if k = 17 then (if t = 8 ∧ (List.range ad.length).any (fun j => (ad.getD j adD).1 == el && (ad.getD j adD).2.2.1 == 8) = true then 1 else 0) else if k = 19 then rpk ls ls.length else 0)
      rw [hm13, hm14, hm15, hm17, hm19]
      by_cases k13 : k = 13
      · subst k13; simp
      · rw [if_neg k13, if_neg k13]
        by_cases k14 : k = 14
        · subst k14; simp
        · rw [if_neg k14, if_neg k14]
          by_cases k15 : k = 15
          · subst k15; simp
          · rw [if_neg k15, if_neg k15]
            by_cases k17 : k = 17
            · subst k17; simp
            · rw [if_neg k17, if_neg k17]; omega
    · rw [pr_1, F19, XF pp kk (by omega)]; exact hFD.1 pp kk (by omega)
    · rw [prn (by omega), R19 r (by omega), XR r (by omega)]; exact hFD.2 r (by omega)
end Kdd
