/-! ===== the reference at the end of a text: identities ===== -/
/-- the identities among the first attributes, and how many came again -/
def idr (ad : List ADc) (at_ : List Att) : Nat → List Str × Nat
  | 0 => ([], 0)
  | i + 1 => if atT ad (at_.getD i atD) = 1 then ((at_.getD i atD).2.1 :: (idr ad at_ i).1, (idr ad at_ i).2 + (if (at_.getD i atD).2.1 ∈ (idr ad at_ i).1 then 1 else 0)) else idr ad at_ i
/-- and in their order -/
def ivL (ad : List ADc) (at_ : List Att) : Nat → List Str
  | 0 => []
  | i + 1 => if atT ad (at_.getD i atD) = 1 then ivL ad at_ i ++ [(at_.getD i atD).2.1] else ivL ad at_ i
section Kid
variable {L : Nat → Nat} {rm nd o : Nat} {σ τ : IS} {g : KG} {a : AS} {Q : IS → Prop} {ad : List ADc} {at_ : List Att}
theorem idr_m {s : Str} : ∀ n, s ∈ (idr ad at_ n).1 ↔ s ∈ ivL ad at_ n
  | 0 => Iff.rfl
  | n + 1 => by
    unfold idr ivL
    split
    · rw [List.mem_cons, List.mem_append, List.mem_singleton, idr_m n]
      exact ⟨fun z => z.elim Or.inr Or.inl, fun z => z.elim Or.inr Or.inl⟩
    · exact idr_m n
theorem idr_le : ∀ n, (idr ad at_ n).2 ≤ n
  | 0 => Nat.le_refl _
  | n + 1 => by
    have := idr_le n
    unfold idr
    split
    · dsimp only
      split <;> omega
    · omega
theorem ids_idr : ∀ (n : Nat) (l : List (Nat × Bool)), l.map Prod.fst = List.range n → (ids ad at_ l).1 = (idr ad at_ n).1 ∧ (ids ad at_ l).2.1 = (idr ad at_ n).2 := by
  intro n
  induction n with
  | zero =>
    intro l h
    have : l = [] := List.map_eq_nil_iff.mp h
    subst this
    exact ⟨rfl, rfl⟩
  | succ n ih =>
    intro l h
    rw [List.range_succ] at h
    obtain ⟨l1, l2, hl, h1, h2⟩ := List.map_eq_append_iff.mp h
    obtain ⟨z, hz, hzn⟩ : ∃ z, l2 = [z] ∧ z.1 = n := by
      cases l2 with
      | nil => cases h2
      | cons z r =>
        cases r with
        | nil =>
          rw [List.map_cons, List.map_nil] at h2
          exact ⟨z, rfl, (List.cons.inj h2).1⟩
        | cons w r => rw [List.map_cons, List.map_cons] at h2; cases (List.cons.inj h2).2
    obtain ⟨i1, i2⟩ := ih l1 h1
    subst hl hz
    have e1 : ids ad at_ (l1 ++ [z]) = idt ad at_ (ids ad at_ l1) z := by unfold ids; rw [List.foldl_append]; rfl
    rw [e1]
    unfold idt
    rw [hzn]
    have e2 : idr ad at_ (n + 1) = if atT ad (at_.getD n atD) = 1 then ((at_.getD n atD).2.1 :: (idr ad at_ n).1, (idr ad at_ n).2 + (if (at_.getD n atD).2.1 ∈ (idr ad at_ n).1 then 1 else 0)) else idr ad at_ n := rfl
    rw [e2]
    unfold atT
    cases hd : (at_.getD n atD).2.2 with
    | none =>
      dsimp only
      rw [if_neg (by decide)]
      exact ⟨i1, i2⟩
    | some d =>
      dsimp only
      by_cases c : (ad.getD d adD).2.2.1 = 1
      · rw [if_pos c, if_pos c, i1, i2]
        refine ⟨rfl, ?_⟩
        dsimp only
        by_cases c2 : (at_.getD n atD).2.1 ∈ (idr ad at_ n).1
        · rw [if_pos ⟨c, c2⟩, if_pos c2]
        · rw [if_neg (fun z => c2 z.2), if_neg c2, Nat.add_zero]
      · rw [if_neg c, if_neg c, if_neg (fun z => c z.1)]
        exact ⟨i1, i2⟩
theorem wrd_at {seen : List Str} {k i : Nat} : wrd ad at_ seen k i = if (2 ≤ atT ad (at_.getD i atD) ∧ atT ad (at_.getD i atD) ≤ 5) ∧ kw (atT ad (at_.getD i atD)) = k then pct (cfw seen (atT ad (at_.getD i atD))) [] (at_.getD i atD).2.1 else 0 := by
  unfold wrd atT
  cases (at_.getD i atD).2.2 with
  | none =>
    dsimp only
    rw [if_neg (by rintro ⟨⟨z, -⟩, -⟩; omega)]
  | some d => rfl
theorem KId.kp {bk bk' seen : List Str} (h : KId σ bk seen) (hk : kle bk bk') (hr : ∀ i, i < bk.length → τ.2 188 i = σ.2 188 i) (hn : ∀ i, bk.length ≤ i → i < bk'.length → τ.2 188 i = 0 ∧ ¬ bk'.getD i [] ∈ seen) : KId τ bk' seen := by
  obtain ⟨r, rfl⟩ := hk
  refine ⟨fun s hs => List.mem_append_left _ (h.1 s hs), fun i hi => ?_⟩
  by_cases c : i < bk.length
  · rw [hr i c, h.2 i c, List.getD_eq_getElem?_getD, List.getD_eq_getElem?_getD, List.getElem?_append_left c]
  · obtain ⟨h1, h2⟩ := hn i (by omega) hi
    rw [h1, if_neg h2]
set_option maxHeartbeats 2000000 in
theorem sp_K_identities (hL : KLn L o rm nd) (h : KFn rm nd o σ g a) (hB : (aB a).length ≤ 16384) (hB8 : (aB a).length ≤ L (rfo o 8)) (hpl : (gP g).length ≤ L (rfo o 1)) (hvl : ∀ x ∈ aB a, x.2.1.length ≤ 98304) (hcap : kcL (gB g) (ivL (aA a) (aB a) (aB a).length)) (h11 : gV g 11 = 0) (h12 : gV g 12 = 0) (h21 : gV g 21 = 0)
    (hq : ∀ ρ v, KFn rm nd o ρ (kpL (gB g) (ivL (aA a) (aB a) (aB a).length), gC g, gP g, v) a → (∀ k, v k = gV g k + (if k = 11 then (idr (aA a) (aB a) (aB a).length).2 else 0) + cnR (aA a) (aB a) (idr (aA a) (aB a) (aB a).length).1 k) → (∀ p k, ¬ (p = 13 ∧ (k = 1 ∨ k = 6)) → ρ.1 p k = σ.1 p k) → (∀ r, ¬ (211 ≤ r ∧ r ≤ 215) → r ≠ rfo o 18 → r ≠ 188 → ρ.2 r = σ.2 r) → Q ρ) : w_KReader_identities L Q σ := by
  have ho := hL.2.1
  have r1 := rf_1 ho
  have r8 := fun k x y => rf_8 ho (k := k) x y
  have e2 : σ.1 16 2 = (o : Int) := h.1.2.2.2.2.1.1
  have hdyo : dyD (o : Int) := by unfold dyD; rcases ho with y | y <;> rw [y] <;> decide
  have l18 : L (rfo o 18) = 23 := by obtain ⟨-, -, -, -, -, -, -, -, -, -, -, -, -, -, -, -, -, -, -, x, -⟩ := hL; exact x
  have l188 : L 188 = 50000 := hL.2.2.2.2.2.2.2.1
  obtain ⟨lp1, lp2⟩ : rm ≤ L (rfo o 1) ∧ L (rfo o 1) ≤ 262144 := by obtain ⟨-, -, -, -, -, -, -, -, -, -, -, -, -, -, -, -, x, -⟩ := hL; exact x
  obtain ⟨l8, l8', l8''⟩ : (∀ k, 8 ≤ k → k ≤ 13 → L (rfo o k) = L (rfo o 8)) ∧ 16500 ≤ L (rfo o 8) ∧ L (rfo o 8) ≤ 32768 := by obtain ⟨-, -, -, -, -, -, -, -, -, -, -, -, -, -, -, -, -, x, -⟩ := hL; exact x
  have hbl : ∀ {τ : IS} {g' : KG}, KZ rm nd o τ g' → (gB g').length ≤ 50000 := fun hz => by
    have h1 := hz.1.1.1
    have h2 := hz.1.2.1
    omega
  unfold w_KReader_identities
  refine ⟨by rw [e2]; exact hdyo, ?_⟩
  have h136 := h.1.1.2.1
  rw [h136]
  -- nothing is identified yet
  refine WL_ind (fun s ρ => ∃ i : Nat, s = (i : Int) ∧ i ≤ (gB g).length ∧ ρ.1 = σ.1 ∧ (∀ r, r ≠ 188 → ρ.2 r = σ.2 r) ∧ ∀ j, j < i → ρ.2 188 j = 0) (fun s _ => (((gB g).length : Int) - s).toNat) ?_ _ σ ⟨0, rfl, Nat.zero_le _, rfl, fun _ _ => rfl, fun j hj => absurd hj (Nat.not_lt_zero _)⟩
  rintro s ρ0 ⟨i, rfl, hi, hf0, hr0, hz0⟩ K hI
  try dsimp only
  have hbl0 := hbl h.1
  by_cases ci : i < (gB g).length
  · rw [if_pos (by omega), show Int.toNat (i : Int) = i from rfl]
    refine ⟨⟨by omega, by omega⟩, ⟨by omega, by omega⟩, hI _ _ ⟨i + 1, by omega, by omega, hf0, fun r y => ?_, fun j hj => ?_⟩ (by omega)⟩
    · funext x
      rw [pr_2, if_neg (fun z => y z.1)]
      exact congrFun (hr0 r y) x
    · rw [pr_2]
      by_cases cj : j = i
      · rw [if_pos ⟨rfl, cj⟩]
      · rw [if_neg (fun z => cj z.2)]; exact hz0 j (by omega)
  rw [if_neg (by omega)]
  have hK0 : KFn rm nd o ρ0 g a := by
    refine h.dep ho (h.1.dep ho (fun p k _ => by rw [hf0]) (fun r x => hr0 r (by omega))) kle.refl rfl (fun p k _ _ _ => by rw [hf0]) (fun r _ _ _ y => hr0 r y)
  have hid0 : KId ρ0 (gB g) [] := ⟨fun s hs => (by cases hs), fun j hj => by rw [hz0 j (by omega), if_neg List.not_mem_nil]⟩
  clear hI hz0
  -- identities
  have h57 : (gB g, gC g, gP g, gV g) = g := rfl
  refine WL_ind (fun s ρ => ∃ (i : Nat) (v : Nat → Nat), s.2 = (i : Int) ∧ i ≤ (aB a).length ∧ s.1 = ((kpL (gB g) (ivL (aA a) (aB a) i)).length : Int) ∧ KFn rm nd o ρ (kpL (gB g) (ivL (aA a) (aB a) i), gC g, gP g, v) a ∧ KId ρ (kpL (gB g) (ivL (aA a) (aB a) i)) (idr (aA a) (aB a) i).1 ∧ (∀ k, v k = gV g k + (if k = 11 then (idr (aA a) (aB a) i).2 else 0)) ∧ (∀ p k, ¬ (p = 13 ∧ (k = 1 ∨ k = 6)) → ρ.1 p k = σ.1 p k) ∧ ∀ r, ¬ (211 ≤ r ∧ r ≤ 215) → r ≠ rfo o 18 → r ≠ 188 → ρ.2 r = σ.2 r) (fun s _ => (((aB a).length : Int) - s.2).toNat) ?_ _ ρ0 ⟨0, gV g, rfl, Nat.zero_le _, rfl, hK0, hid0, fun k => by split <;> rfl, fun p k _ => by rw [hf0], fun r _ _ y => hr0 r y⟩
  rintro ⟨s1, s2⟩ ρ ⟨i, v, hs2, hil, hs1, hK, hid, hv, hf, hr⟩ K hI
  dsimp only at hs1 hs2 ⊢
  subst hs1 hs2
  have hBo := hK.2.2.2.2.2.2.1
  have e2ρ : ρ.1 16 2 = (o : Int) := by rw [hf 16 2 (by omega)]; exact e2
  rw [e2ρ, show Int.toNat (o : Int) = o from rfl, hBo.1]
  refine ⟨hdyo, ?_⟩
  by_cases c : i < (aB a).length
  · rw [if_pos (by omega), show Int.toNat (i : Int) = i from rfl]
    obtain ⟨m1, m2, m3, m4, m5, m6⟩ := hBo.2 i c
    have eI : ivL (aA a) (aB a) (i + 1) = if atT (aA a) ((aB a).getD i atD) = 1 then ivL (aA a) (aB a) i ++ [((aB a).getD i atD).2.1] else ivL (aA a) (aB a) i := rfl
    have eR : idr (aA a) (aB a) (i + 1) = if atT (aA a) ((aB a).getD i atD) = 1 then (((aB a).getD i atD).2.1 :: (idr (aA a) (aB a) i).1, (idr (aA a) (aB a) i).2 + (if ((aB a).getD i atD).2.1 ∈ (idr (aA a) (aB a) i).1 then 1 else 0)) else idr (aA a) (aB a) i := rfl
    refine ⟨⟨by omega, by rw [l8 11 (by omega) (by omega)]; omega⟩, ?_⟩
    rw [m4]
    refine WJ_of (fun s41 τ => ∃ v', s41 = ((kpL (gB g) (ivL (aA a) (aB a) (i + 1))).length : Int) ∧ KFn rm nd o τ (kpL (gB g) (ivL (aA a) (aB a) (i + 1)), gC g, gP g, v') a ∧ KId τ (kpL (gB g) (ivL (aA a) (aB a) (i + 1))) (idr (aA a) (aB a) (i + 1)).1 ∧ (∀ k, v' k = gV g k + (if k = 11 then (idr (aA a) (aB a) (i + 1)).2 else 0)) ∧ (∀ p k, ¬ (p = 13 ∧ (k = 1 ∨ k = 6)) → τ.1 p k = σ.1 p k) ∧ ∀ r, ¬ (211 ≤ r ∧ r ≤ 215) → r ≠ rfo o 18 → r ≠ 188 → τ.2 r = σ.2 r) (fun J39 hJ => ?_) ?_
    rotate_left
    · rintro s41 τ ⟨v', y1, y2, y3, y4, y5, y6⟩
      exact ⟨⟨by omega, by omega⟩, hI _ _ ⟨i + 1, v', by show (i : Int) + 1 = _; omega, by omega, y1, y2, y3, y4, y5, y6⟩ (by show (((aB a).length : Int) - ((i : Int) + 1)).toNat < (((aB a).length : Int) - (i : Int)).toNat; omega)⟩
    by_cases c1 : atT (aA a) ((aB a).getD i atD) = 1
    · rw [if_pos (by omega)]
      rw [if_pos c1] at eI eR
      rw [eI, eR] at hJ
      generalize hval : ((aB a).getD i atD).2.1 = val at *
      obtain ⟨p, mp1, mp2, mp3⟩ := m2.at_
      have mp2' : p + val.length ≤ (gP g).length := mp2
      have mp3 : ∀ x, x < val.length → (gP g).getD (p + x) 0 = val.getD x 0 := mp3
      rw [mp1, m3]
      refine ⟨⟨by omega, by rw [l8 9 (by omega) (by omega)]; omega⟩, ⟨by omega, by rw [l8 10 (by omega) (by omega)]; omega⟩, ?_⟩
      have hkpL : kpL (gB g) (ivL (aA a) (aB a) i ++ [val]) = kpS (kpL (gB g) (ivL (aA a) (aB a) i)) val := by rw [kpL_app]; rfl
      have hcap' : kcS (kpL (gB g) (ivL (aA a) (aB a) i)) val := by
        have key : ∀ n, n ≤ (aB a).length → ∃ r, ivL (aA a) (aB a) (aB a).length = ivL (aA a) (aB a) n ++ r := by
          intro n hn
          obtain ⟨q, hq'⟩ : ∃ q, (aB a).length = n + q := ⟨(aB a).length - n, by omega⟩
          rw [hq']
          clear hq' hn
          induction q with
          | zero => exact ⟨[], (List.append_nil _).symm⟩
          | succ q ih =>
            obtain ⟨r, hr'⟩ := ih
            have e5 : ivL (aA a) (aB a) (n + (q + 1)) = if atT (aA a) ((aB a).getD (n + q) atD) = 1 then ivL (aA a) (aB a) (n + q) ++ [((aB a).getD (n + q) atD).2.1] else ivL (aA a) (aB a) (n + q) := rfl
            rw [e5]
            split
            · exact ⟨r ++ [((aB a).getD (n + q) atD).2.1], by rw [hr', List.append_assoc]⟩
            · exact ⟨r, hr'⟩
        obtain ⟨r, hr'⟩ := key (i + 1) (by omega)
        rw [eI] at hr'
        rw [hr', List.append_assoc] at hcap
        exact kcL_hd hcap
      refine sp_K_bkZ (r := rfo o 1) (p := p) (n := val.length) (s := val) hL hK.1 (Or.inr (by omega)) ⟨by omega, lp2⟩ rfl rfl ?_ hcap' (fun w τ w1 w2 w3 => ?_)
      · refine List.ext_getElem? (fun x => ?_)
        by_cases cx : x < val.length
        · have hp1 : ρ.2 (rfo o 1) (p + x) = (gP g).getD (p + x) 0 := hK.1.2.2.2.1.2 (p + x) (by show p + x < (gP g).length; omega)
          rw [sl_get cx, hp1, mp3 x cx, List.getD_eq_getElem?_getD, List.getElem?_eq_getElem cx]
          rfl
        · rw [List.getElem?_eq_none (by rw [sl_ln]; omega), List.getElem?_eq_none (by omega)]
      have hkl := kpS_pre (bk := kpL (gB g) (ivL (aA a) (aB a) i)) (s := val)
      have wR : ∀ q, ¬ (211 ≤ q ∧ q ≤ 215) → τ.2 q = ρ.2 q := fun q z => funext (fun k => w3.2 q k (by omega))
      have hKτ : KFn rm nd o τ (kpS (kpL (gB g) (ivL (aA a) (aB a) i)) val, gC g, gP g, v) a := hK.dep (g' := (kpS (kpL (gB g) (ivL (aA a) (aB a) i)) val, gC g, gP g, v)) ho w2 hkl rfl (fun p k y1 _ _ => w3.1 p k y1) (fun r y1 _ _ _ => wR r y1)
      have w1 : Kn (kpS (kpL (gB g) (ivL (aA a) (aB a) i)) val) w val := w1
      have hwlt := w1.lt
      have hbl1 := hbl w2
      have hbl1' : (kpS (kpL (gB g) (ivL (aA a) (aB a) i)) val).length ≤ 50000 := hbl1
      rw [hkpL] at hJ
      generalize hbk0 : kpL (gB g) (ivL (aA a) (aB a) i) = bk at *
      -- whether it is new
      refine WJ_of (fun s49 ρ2 => s49 = ((kpS bk val).length : Int) ∧ KFn rm nd o ρ2 (kpS bk val, gC g, gP g, v) a ∧ KId ρ2 (kpS bk val) (idr (aA a) (aB a) i).1 ∧ ρ2.1 = τ.1 ∧ ∀ r, r ≠ 188 → ρ2.2 r = τ.2 r) (fun J47 hJ47 => ?_) ?_
      · by_cases cm : val ∈ bk
        · have ek : kpS bk val = bk := by unfold kpS; rw [if_pos cm]
          rw [ek] at w1 hJ47 hKτ
          rw [if_pos (by have := w1.lt; omega)]
          refine hJ47 _ _ ⟨rfl, hKτ, ⟨hid.1, fun j hj => by rw [wR 188 (by omega)]; exact hid.2 j hj⟩, rfl, fun _ _ => rfl⟩
        · have ek : kpS bk val = bk ++ [val] := by unfold kpS; rw [if_neg cm]
          have hwn : w = (bk.length : Int) := by
            rw [ek] at w1
            have h1 := w1.lt
            refine Classical.byContradiction fun z => ?_
            rw [List.length_append, List.length_singleton] at h1
            have h2 := w1.2
            rw [List.getElem?_append_left (by omega)] at h2
            exact cm (List.mem_of_getElem? h2)
          rw [if_neg (by omega)]
          have hlen : (kpS bk val).length = bk.length + 1 := by rw [ek, List.length_append, List.length_singleton]
          refine ⟨⟨by omega, by omega⟩, ⟨by omega, by rw [l188]; omega⟩, ?_⟩
          rw [hwn, show Int.toNat (bk.length : Int) = bk.length from rfl]
          refine hJ47 _ _ ⟨by rw [hlen]; omega, hKτ.dep ho (hKτ.1.dep ho (fun _ _ _ => rfl) (fun r x => funext (fun y => by rw [pr_2, if_neg (by omega)]))) kle.refl rfl (fun _ _ _ _ _ => rfl) (fun r _ _ _ y => funext (fun x => by rw [pr_2, if_neg (fun z => y z.1)])), ?_, rfl, fun r y => funext (fun x => by rw [pr_2, if_neg (fun z => y z.1)])⟩
          refine hid.kp hkl (fun j hj => ?_) (fun j hj1 hj2 => ?_)
          · rw [pr_2, if_neg (by omega), wR 188 (by omega)]
          · have hjn : j = bk.length := by omega
            rw [hjn, pr_2, if_pos ⟨rfl, rfl⟩]
            refine ⟨rfl, ?_⟩
            rw [ek, List.getD_eq_getElem?_getD, List.getElem?_append_right (Nat.le_refl _), Nat.sub_self]
            exact fun z => cm (hid.1 val z)
      · rintro s49 ρ2 ⟨rfl, hK2, hid2, hf2, hr2⟩
        have e2ρ2 : ρ2.1 16 2 = (o : Int) := by rw [hf2, w3.1 16 2 (by omega)]; exact e2ρ
        rw [e2ρ2, show Int.toNat (o : Int) = o from rfl, show Int.toNat 11 = 11 from rfl]
        have hval11 : ρ2.2 (rfo o 18) 11 = (v 11 : Int) := hK2.1.2.2.2.2.2 11 (by omega)
        have hv11 : v 11 ≤ 16384 := by
          rw [hv 11, if_pos rfl, h11]
          have := idr_le (ad := aA a) (at_ := aB a) i
          omega
        have hx188 : ρ2.2 188 w.toNat = if val ∈ (idr (aA a) (aB a) i).1 then 1 else 0 := by
          have h1 : w.toNat < (kpS bk val).length := by omega
          rw [hid2.2 w.toNat h1, List.getD_eq_getElem?_getD, w1.2]
          rfl
        rw [hval11, hx188]
        generalize hm : (if val ∈ (idr (aA a) (aB a) i).1 then 1 else 0) = m at *
        have hm1 : m ≤ 1 := by rw [← hm]; split <;> omega
        have hmI : (if (if val ∈ (idr (aA a) (aB a) i).1 then (1 : Int) else (0 : Int)) = 0 then (0 : Int) else (1 : Int)) = (m : Int) := by
          rw [← hm]
          by_cases cs : val ∈ (idr (aA a) (aB a) i).1
          · rw [if_pos cs, if_pos cs, if_neg (by decide)]; rfl
          · rw [if_neg cs, if_neg cs, if_pos rfl]; rfl
        rw [hmI]
        refine ⟨hdyo, ⟨by omega, by rw [l18]; decide⟩, ⟨by omega, by rw [l188]; omega⟩, ⟨by omega, by omega⟩, ⟨by omega, by rw [l18]; decide⟩, ⟨by omega, by rw [l188]; omega⟩, ?_⟩
        have hvio := hK2.vio (k := 11) (m := m) (v := (v 11 : Int) + (m : Int)) ho (by show _ = ((v 11 + m : Nat) : Int); omega)
        refine hJ _ _ ⟨fun j => v j + if j = 11 then m else 0, rfl, hvio.dep ho (hvio.1.dep ho (fun _ _ _ => rfl) (fun r x => funext (fun y => by rw [pr_2, if_neg (by omega)]))) kle.refl rfl (fun _ _ _ _ _ => rfl) (fun r _ _ _ y => funext (fun x => by rw [pr_2, if_neg (fun z => y z.1)])), ⟨fun s hs => ?_, fun j hj => ?_⟩, fun k => ?_, fun p k y => ?_, fun r y1 y2 y3 => ?_⟩
        · rcases List.mem_cons.mp hs with rfl | hs
          · exact w1.mem
          · exact hid2.1 s hs
        · rw [pr_2]
          by_cases cj : j = w.toNat
          · rw [if_pos ⟨rfl, cj⟩]
            have : (kpS bk val).getD j [] = val := by rw [cj, List.getD_eq_getElem?_getD, w1.2]; rfl
            rw [this, if_pos List.mem_cons_self]
          · rw [if_neg (fun z => cj z.2), pr_2, if_neg (by omega), hid2.2 j hj]
            have hne : (kpS bk val).getD j [] ≠ val := by
              intro z
              have hnd : (kpS bk val).Nodup := hK2.1.2.1
              have hkj : Kn (kpS bk val) (j : Int) val := ⟨by omega, by
                rw [show Int.toNat (j : Int) = j from rfl, List.getElem?_eq_getElem hj]
                rw [List.getD_eq_getElem?_getD, List.getElem?_eq_getElem hj] at z
                exact congrArg some z⟩
              have := Kn.inj hnd hkj w1
              omega
            by_cases cs : (kpS bk val).getD j [] ∈ (idr (aA a) (aB a) i).1
            · rw [if_pos cs, if_pos (List.mem_cons_of_mem _ cs)]
            · rw [if_neg cs, if_neg (fun z => by rcases List.mem_cons.mp z with z | z; exact hne z; exact cs z)]
        · dsimp only
          rw [hv k]
          by_cases ck : k = 11
          · rw [if_pos ck, if_pos ck, if_pos ck]; omega
          · rw [if_neg ck, if_neg ck, if_neg ck]
        · show ρ2.1 p k = _
          rw [hf2, w3.1 p k y]; exact hf p k y
        · funext x
          rw [pr_2, if_neg (fun z => y3 z.1), pr_2, if_neg (fun z => y2 z.1), hr2 r y3, wR r y1]
          exact congrFun (hr r y1 y2 y3) x
    · rw [if_neg (by omega)]
      rw [if_neg c1] at eI eR
      rw [eI, eR] at hJ
      exact hJ _ _ ⟨v, rfl, hK, hid, hv, hf, hr⟩
  · rw [if_neg (by omega)]
    have hin : i = (aB a).length := by omega
    subst hin
    clear hI
    generalize hbk0 : kpL (gB g) (ivL (aA a) (aB a) (aB a).length) = bk at *
    generalize hse : (idr (aA a) (aB a) (aB a).length).1 = seen at *
    -- words
    refine WL_ind (fun s τ => ∃ (j : Nat) (v' : Nat → Nat), s = (j : Int) ∧ j ≤ (aB a).length ∧ KFn rm nd o τ (bk, gC g, gP g, v') a ∧ (∀ k, v' k = v k + sn (wrd (aA a) (aB a) seen k) j) ∧ τ.1 = ρ.1 ∧ ∀ r, r ≠ rfo o 18 → τ.2 r = ρ.2 r) (fun s _ => (((aB a).length : Int) - s).toNat) ?_ _ ρ ⟨0, v, rfl, Nat.zero_le _, hK, fun k => rfl, rfl, fun _ _ => rfl⟩
    rintro s τ ⟨j, v', rfl, hj, hKτ, hv', hfτ, hrτ⟩ K' hI'
    try dsimp only
    have hBo' := hKτ.2.2.2.2.2.2.1
    have e2τ : τ.1 16 2 = (o : Int) := by rw [hfτ]; exact e2ρ
    rw [e2τ, show Int.toNat (o : Int) = o from rfl, hBo'.1]
    refine ⟨hdyo, ?_⟩
    by_cases cj : j < (aB a).length
    · rw [if_pos (by omega), show Int.toNat (j : Int) = j from rfl]
      obtain ⟨m1, m2, m3, m4, m5, m6⟩ := hBo'.2 j cj
      refine ⟨⟨by omega, by rw [l8 11 (by omega) (by omega)]; omega⟩, ?_⟩
      rw [m4]
      generalize hty : atT (aA a) ((aB a).getD j atD) = ty at *
      refine WJ_of (fun _ υ => ∃ v'', KFn rm nd o υ (bk, gC g, gP g, v'') a ∧ (∀ k, v'' k = v k + sn (wrd (aA a) (aB a) seen k) (j + 1)) ∧ υ.1 = ρ.1 ∧ ∀ r, r ≠ rfo o 18 → υ.2 r = ρ.2 r) (fun J hJ => ?_) ?_
      rotate_left
      · rintro _ υ ⟨v'', y1, y2, y3, y4⟩
        exact ⟨⟨by omega, by omega⟩, hI' _ _ ⟨j + 1, v'', by omega, by omega, y1, y2, y3, y4⟩ (by omega)⟩
      have hw : ∀ k, sn (wrd (aA a) (aB a) seen k) (j + 1) = sn (wrd (aA a) (aB a) seen k) j + (if (2 ≤ ty ∧ ty ≤ 5) ∧ kw ty = k then pct (cfw seen ty) [] ((aB a).getD j atD).2.1 else 0) := fun k => by rw [sn_s, wrd_at, hty]
      by_cases ct : 2 ≤ ty ∧ ty ≤ 5
      · rw [if_pos ⟨by omega, by omega⟩]
        have hidτ : KId τ bk seen := ⟨hid.1, fun q hq' => by rw [hrτ 188 (by omega)]; exact hid.2 q hq'⟩
        have hvb : ∀ k n, n ≤ (aB a).length → sn (wrd (aA a) (aB a) seen k) n ≤ 98305 * n := by
          intro k n hn
          refine sn_le (fun d => ?_) n
          rw [wrd_at]
          split
          · refine Nat.le_trans (pct_le2 cfw_le2 _ _) ?_
            by_cases cd : d < (aB a).length
            · have := hvl _ (getD_mem (d := atD) cd)
              omega
            · rw [List.getD_eq_getElem?_getD, List.getElem?_eq_none (by omega)]
              show (0 : Nat) + 1 ≤ _
              omega
          · omega
        have hb12 : v' (kw ty) + ((aB a).getD j atD).2.1.length + 1 ≤ 2000000000 := by
          rw [hv' (kw ty), hv (kw ty)]
          have h1 := hvb (kw ty) j hj
          have h2 := hvl _ (getD_mem (d := atD) cj)
          have h3 : gV g (kw ty) = 0 := by
            have : kw ty = if ty = 4 ∨ ty = 5 then 21 else 12 := rfl
            rw [this]
            split
            · exact h21
            · exact h12
          have h4 : kw ty ≠ 11 := by
            have : kw ty = if ty = 4 ∨ ty = 5 then 21 else 12 := rfl
            rw [this]
            split <;> omega
          rw [if_neg h4, h3]
          have h5 : 98305 * j ≤ 98305 * 16384 := Nat.mul_le_mul_left _ (by omega)
          omega
        have ha2 : (if (ty : Int) = 4 then (1 : Int) else (if (ty : Int) = 5 then (1 : Int) else (0 : Int))) = if ty = 4 ∨ ty = 5 then 1 else 0 := by
          by_cases t4 : ty = 4
          · rw [if_pos (by omega), if_pos (Or.inl t4)]
          · by_cases t5 : ty = 5
            · rw [if_neg (by omega), if_pos (by omega), if_pos (Or.inr t5)]
            · rw [if_neg (by omega), if_neg (by omega), if_neg (by omega)]
        refine sp_K_wordsOf (g := (bk, gC g, gP g, v')) (seen := seen) (ty := ty) (i := j) hL hKτ hidτ cj hB8 hpl (hbl hKτ.1) rfl ct ha2 hb12 (fun υ v'' y1 y2 y3 y4 => hJ _ _ ⟨v'', y1, fun k => ?_, by rw [y3, hfτ], fun r y => by rw [y4 r y, hrτ r y]⟩)
        rw [y2 k, hw k]
        show v' k + _ = _
        rw [hv' k]
        by_cases ck : k = kw ty
        · rw [if_pos ck, if_pos ⟨ct, ck.symm⟩]; omega
        · rw [if_neg ck, if_neg (fun z => ck z.2.symm)]
          rfl
      · rw [if_neg (fun z => ct ⟨by omega, by omega⟩)]
        refine hJ _ _ ⟨v', hKτ, fun k => ?_, hfτ, hrτ⟩
        rw [hw k, hv' k, if_neg (fun z => ct z.1)]
        omega
    · rw [if_neg (by omega)]
      have hjn : j = (aB a).length := by omega
      subst hjn
      refine hq τ v' hKτ (fun k => ?_) (fun p k y => by rw [hfτ]; exact hf p k y) (fun r y1 y2 y3 => by rw [hrτ r y2]; exact hr r y1 y2 y3)
      rw [hv' k, hv k]
      rfl
end Kid
