/-! ===== the reference: whether a value is as it is wanted, all types ===== -/
section Kww
variable {L : Nat → Nat} {rm nd o : Nat} {σ ρ τ : IS} {g g' : KG} {a a' A : AS} {bs bs' : List Nat} {Q : IS → Prop} {R : Int → IS → Prop} {x y v w : Int} {s t : Str} {nm : Bool} {l : List Int}
theorem tk_snoc {f k : Nat} (hf : f ≤ k) (hk : k < l.length) : (l.drop f).take (k + 1 - f) = (l.drop f).take (k - f) ++ [l.getD k 0] := by
  rw [show k + 1 - f = (k - f) + 1 by omega, List.take_succ, List.getElem?_drop, show f + (k - f) = k by omega, List.getD_eq_getElem?_getD, List.getElem?_eq_getElem hk]
  rfl
theorem tk_emp {f k : Nat} (hf : f ≤ k) (hk : k ≤ l.length) : ((l.drop f).take (k - f)).isEmpty = decide (f = k) := by
  by_cases c : f = k
  · rw [decide_eq_true c, c, Nat.sub_self]; rfl
  · rw [decide_eq_false c]
    have : ((l.drop f).take (k - f)).length = k - f := by rw [List.length_take, List.length_drop]; omega
    cases h : (l.drop f).take (k - f) with
    | nil => rw [h] at this; have : 0 = k - f := this; omega
    | cons _ _ => rfl
theorem dr_cons {k : Nat} (hk : k < l.length) : l.drop k = l.getD k 0 :: l.drop (k + 1) := by
  rw [List.drop_eq_getElem_cons hk, List.getD_eq_getElem?_getD, List.getElem?_eq_getElem hk]
  rfl
set_option maxHeartbeats 2000000 in
/-- names or tokens with one 32 between them -/
theorem sp_K_words {p : Nat} {a3 : Int} {W : Int → IS → Prop} (hL : KLn L o rm nd) (hd : σ.1 16 2 = (o : Int)) (hrow : ∀ i, i < l.length → σ.2 (rfo o 1) (p + i) = l.getD i 0) (hp : p + l.length ≤ L (rfo o 1)) (hx : x = (p : Int)) (hy : y = (l.length : Int)) (ha : a3 = b1 nm) (hq : W (b1 (mdo nm true true l)) σ) :
    WL (fun (K6 : Int × Int × Int → IS → Prop) (s8 : Int × Int × Int) (σ9 : IS) => inR (x + y) ∧ if (x + y) < s8.2.2 then W s8.1 σ9 else inR (x + y) ∧ WJ (fun (s14 : Int × Int) (σ15 : IS) => inR (s8.2.2 + 1) ∧ K6 (s14.1, s14.2, (s8.2.2 + 1)) σ15) (fun J12 => ((¬ s8.2.2 = (x + y) → (dyD (σ9.1 16 2) ∧ inL L (rfo (Int.toNat (σ9.1 16 2)) 1) s8.2.2))) ∧ if s8.2.2 = (x + y) ∨ ((σ9.2 (rfo (Int.toNat (σ9.1 16 2)) 1) (Int.toNat s8.2.2)) = 32) then WJ (fun (s21 : Int) (σ22 : IS) => inR (s8.2.2 + 1) ∧ J12 (s21, (s8.2.2 + 1)) σ22) (fun J19 => WJ (fun (s26 : Unit) (σ27 : IS) => J19 0 σ27) (fun J24 => if s8.1 = 0 then J24 () σ9 else inR (s8.2.2 - s8.2.1) ∧ w_KReader_isWord L s8.2.1 (s8.2.2 - s8.2.1) a3 (fun v30 σ29 => if v30 = 0 then J24 () σ29 else J19 1 σ29) σ9)) else J12 (s8.1, s8.2.1) σ9)) (1, x, x) σ := by
  subst hx hy
  have ho := hL.2.1
  have hdy : dyD (o : Int) := by
    show (o : Int) = 14 ∨ (o : Int) = 15
    omega
  have l1 := hL.2.2.2.2.2.2.2.2.2.2.2.2.2.2.2.2.1
  generalize htot : mdo nm true true l = tot at hq
  refine WL_ind (fun s ρ => ρ = σ ∧ ∃ (f k : Nat) (gd0 : Bool), s = (b1 gd0, ((p + f : Nat) : Int), ((p + k : Nat) : Int)) ∧ k ≤ l.length + 1 ∧ f ≤ k ∧ (k ≤ l.length → tot = (gd0 && (kwp nm ((l.drop f).take (k - f)) && mdo nm true (decide (f = k)) (l.drop k)))) ∧ (k = l.length + 1 → tot = gd0)) (fun s _ => (((p + l.length + 1 : Nat) : Int) - s.2.2).toNat) ?_ _ σ ⟨rfl, 0, 0, true, rfl, by omega, Nat.le_refl _, fun _ => ?_, fun z => by omega⟩
  · rintro s ρ ⟨rfl, f, k, gd0, rfl, k1, k2, k3, k4⟩ K hI
    try dsimp only
    refine ⟨⟨by omega, by omega⟩, ?_⟩
    by_cases cE : k = l.length + 1
    · rw [if_pos (by omega), ← k4 cE]
      exact hq
    have hkl : k ≤ l.length := by omega
    rw [if_neg (by omega)]
    refine ⟨⟨by omega, by omega⟩, WJ_dir ?_⟩
    have htk := k3 hkl
    have hlen : ((l.drop f).take (k - f)).length = k - f := by rw [List.length_take, List.length_drop]; omega
    rw [hd, show Int.toNat (o : Int) = o from rfl, show Int.toNat ((p + k : Nat) : Int) = p + k from rfl]
    refine ⟨fun z => ⟨hdy, ⟨by omega, by omega⟩⟩, ?_⟩
    have hme : (fun s => (((p + l.length + 1 : Nat) : Int) - s).toNat) (((p + k : Nat) : Int) + 1) < (fun s => (((p + l.length + 1 : Nat) : Int) - s).toNat) ((p + k : Nat) : Int) := by
      show (((p + l.length + 1 : Nat) : Int) - (((p + k : Nat) : Int) + 1)).toNat < (((p + l.length + 1 : Nat) : Int) - ((p + k : Nat) : Int)).toNat
      omega
    -- a piece ends
    have ends : (k + 1 ≤ l.length → tot = ((gd0 && kwd nm ((l.drop f).take (k - f))) && (kwp nm [] && mdo nm true true (l.drop (k + 1))))) → (k + 1 = l.length + 1 → tot = (gd0 && kwd nm ((l.drop f).take (k - f)))) → WJ (fun (s21 : Int) (σ22 : IS) => inR (((p + k : Nat) : Int) + 1) ∧ inR (((p + k : Nat) : Int) + 1) ∧ K (s21, (((p + k : Nat) : Int) + 1), (((p + k : Nat) : Int) + 1)) σ22) (fun J19 => WJ (fun (s26 : Unit) (σ27 : IS) => J19 0 σ27) (fun J24 => if b1 gd0 = 0 then J24 () ρ else inR (((p + k : Nat) : Int) - ((p + f : Nat) : Int)) ∧ w_KReader_isWord L ((p + f : Nat) : Int) (((p + k : Nat) : Int) - ((p + f : Nat) : Int)) a3 (fun v30 σ29 => if v30 = 0 then J24 () σ29 else J19 1 σ29) ρ)) := fun q1 q2 => by
      have hgo : ∀ u : Int, u = b1 (gd0 && kwd nm ((l.drop f).take (k - f))) → inR (((p + k : Nat) : Int) + 1) ∧ inR (((p + k : Nat) : Int) + 1) ∧ K (u, (((p + k : Nat) : Int) + 1), (((p + k : Nat) : Int) + 1)) ρ := fun u hu => by
        refine ⟨⟨by omega, by omega⟩, ⟨by omega, by omega⟩, hI _ _ ⟨rfl, k + 1, k + 1, (gd0 && kwd nm ((l.drop f).take (k - f))), ?_, by omega, Nat.le_refl _, fun z => ?_, fun z => q2 z⟩ hme⟩
        · rw [hu, show ((p + k : Nat) : Int) + 1 = ((p + (k + 1) : Nat) : Int) by omega]
        · rw [Nat.sub_self, decide_eq_true rfl]
          exact q1 z
      refine WJ_dir ?_
      refine WJ_dir ?_
      cases hg : gd0 with
      | false =>
        rw [if_pos (by decide)]
        exact hgo 0 (by rw [hg]; rfl)
      | true =>
        rw [if_neg (by decide)]
        refine ⟨⟨by omega, by omega⟩, ?_⟩
        refine sp_K_isWord (p := p + f) (n := k - f) (l := (l.drop f).take (k - f)) hL hd (fun i hi => ?_) hlen (by omega) rfl (by omega) ha ?_
        · rw [show p + f + i = p + (f + i) by omega, hrow _ (by omega), List.getD_eq_getElem?_getD, List.getD_eq_getElem?_getD, List.getElem?_take, if_pos hi, List.getElem?_drop]
        · cases hw : kwd nm ((l.drop f).take (k - f)) with
          | true => rw [if_neg (by decide)]; exact hgo 1 (by rw [hg, hw]; rfl)
          | false => rw [if_pos (by decide)]; exact hgo 0 (by rw [hg, hw]; rfl)
    by_cases cn : k = l.length
    · rw [if_pos (Or.inl (by omega))]
      refine ends (fun z => by omega) (fun _ => ?_)
      rw [htk, kwd_kwp, tk_emp k2 hkl, cn, List.drop_length]
      show (gd0 && (_ && (!decide (f = l.length)))) = _
      rw [Bool.and_comm (kwp nm _)]
    · have hkl' : k < l.length := by omega
      rw [hrow k hkl']
      rw [dr_cons hkl'] at htk
      by_cases c32 : l.getD k 0 = 32
      · rw [if_pos (Or.inr c32)]
        refine ends (fun _ => ?_) (fun z => by omega)
        rw [htk, c32, mdo_s, kwd_kwp, tk_emp k2 hkl]
        show _ = ((gd0 && (!decide (f = k) && kwp nm _)) && (true && mdo nm true true (l.drop (k + 1))))
        cases gd0 <;> cases decide (f = k) <;> cases kwp nm ((l.drop f).take (k - f)) <;> cases mdo nm true true (l.drop (k + 1)) <;> rfl
      · rw [if_neg (fun z => z.elim (fun y => cn (by omega)) c32)]
        refine ⟨⟨by omega, by omega⟩, hI _ _ ⟨rfl, f, k + 1, gd0, ?_, by omega, by omega, fun _ => ?_, fun z => by omega⟩ hme⟩
        · rw [show ((p + k : Nat) : Int) + 1 = ((p + (k + 1) : Nat) : Int) by omega]
        · rw [htk, mdo_t c32, tk_snoc k2 hkl', kwp_s, tk_emp k2 hkl, decide_eq_false (show ¬ f = k + 1 by omega)]
  · rw [← htot]
    show _ = (true && (kwp nm [] && mdo nm true true l))
    rfl
set_option maxHeartbeats 1000000 in
theorem sp_K_isWanted {ad : List ADc} {d : Nat} {val : Str} (hL : KLn L o rm nd) (h : KZ rm nd o σ g) (hA : KAd σ (gB g) (gP g) ad) (hd : d < ad.length) (hdl : ad.length ≤ 8300) (ht : (ad.getD d adD).2.2.1 ≤ 9) (h58 : σ.1 16 58 ≤ 50000) (hpl : (gP g).length ≤ L (rfo o 1)) (hx : x = (d : Int)) (hst : Kpc (gP g) y val) (hw : w = (val.length : Int)) (hq : R (b1 (asW (ad.getD d adD).2.2.1 (ad.getD d adD).2.2.2.2.2 val)) σ) : w_KReader_isWanted L x y w R σ := by
  subst hx hw
  have ho := hL.2.1
  have hdo : σ.1 16 2 = (o : Int) := h.2.2.2.2.1.1
  have hdy : dyD (o : Int) := by
    show (o : Int) = 14 ∨ (o : Int) = 15
    omega
  have l1 := hL.2.2.2.2.2.2.2.2.2.2.2.2.2.2.2.2.1
  have l9 := hL.2.2.2.2.2.2.2.2.2.2.1
  have l201 := l9 201 (by omega) (by omega)
  have l205 := l9 205 (by omega) (by omega)
  have l206 := l9 206 (by omega) (by omega)
  have l207 : L 207 = 50000 := hL.2.2.2.2.2.2.2.2.2.2.2.1
  obtain ⟨a1, a2, a3, a4, a5, ⟨b, a6, a6', a6''⟩, a7⟩ := hA.2 d hd
  obtain ⟨p, p1, p2, p3⟩ := hst.at_
  have hrow : ∀ i, i < val.length → σ.2 (rfo o 1) (p + i) = val.getD i 0 := fun i hi => by
    rw [h.2.2.2.1.2 (p + i) (by omega)]
    exact p3 i hi
  have hn := h.2.1
  unfold w_KReader_isWanted
  rw [show Int.toNat (d : Int) = d from rfl, a3]
  refine ⟨⟨by omega, by omega⟩, ?_⟩
  generalize htt : (ad.getD d adD).2.2.1 = tt at *
  by_cases c0 : tt = 0
  · rw [if_pos (by omega)]
    unfold asW at hq
    rw [if_pos c0] at hq
    exact hq
  rw [if_neg (by omega)]
  unfold asW at hq
  rw [if_neg c0] at hq
  have ef : ∀ nmb : Bool, (nmb = true ↔ ¬ (tt = 6 ∨ tt = 7)) → (if (tt : Int) = 6 then (0 : Int) else (if (tt : Int) = 7 then (0 : Int) else (1 : Int))) = b1 nmb := fun nmb hb => by
    by_cases c6 : tt = 6
    · rw [if_pos (by omega)]
      cases nmb with
      | false => rfl
      | true => exact absurd (Or.inl c6) (hb.mp rfl)
    · rw [if_neg (by omega)]
      by_cases c7 : tt = 7
      · rw [if_pos (by omega)]
        cases nmb with
        | false => rfl
        | true => exact absurd (Or.inr c7) (hb.mp rfl)
      · rw [if_neg (by omega)]
        cases nmb with
        | true => rfl
        | false => exact absurd (hb.mpr (fun z => z.elim c6 c7)) (by decide)
  by_cases c8 : tt < 8
  · rw [if_pos (by omega)]
    by_cases cm : tt = 3 ∨ tt = 5 ∨ tt = 7
    · rw [if_neg (by omega)]
      rw [if_neg (by omega)] at hq
      by_cases c7 : tt = 7
      · rw [if_neg (by omega), if_neg (by omega), if_pos c7] at hq
        exact sp_K_words (W := fun z σ9 => is01 z ∧ R z σ9) hL hdo hrow (by omega) p1 rfl (ef false ⟨fun z => absurd z (by decide), fun z => absurd (Or.inr c7) z⟩) ⟨b1_01 _, hq⟩
      · rw [if_pos (by omega)] at hq
        exact sp_K_words (W := fun z σ9 => is01 z ∧ R z σ9) hL hdo hrow (by omega) p1 rfl (ef true ⟨fun _ => by omega, fun _ => rfl⟩) ⟨b1_01 _, hq⟩
    · rw [if_pos (by omega)]
      by_cases c6 : tt = 6
      · rw [if_neg (by omega), if_neg (by omega), if_pos c6, mdo_1] at hq
        exact sp_K_isWord hL hdo hrow rfl (by omega) p1 rfl (ef false ⟨fun z => absurd z (by decide), fun z => absurd (Or.inl c6) z⟩) ⟨b1_01 _, hq⟩
      · rw [if_pos (by omega), mdo_1] at hq
        exact sp_K_isWord hL hdo hrow rfl (by omega) p1 rfl (ef true ⟨fun _ => by omega, fun _ => rfl⟩) ⟨b1_01 _, hq⟩
  · rw [if_neg (by omega)]
    rw [if_neg (by omega), if_neg (by omega), if_neg (by omega), if_neg (by omega)] at hq
    generalize hls : (ad.getD d adD).2.2.2.2.2 = ls at *
    refine WL_ind (fun s ρ => ρ = σ ∧ ∃ k : Nat, s.2 = (k : Int) ∧ k ≤ ls.length ∧ s.1 = b1 (decide (val ∈ ls.take k))) (fun s _ => ((ls.length : Int) - s.2).toNat) ?_ (0, 0) σ ⟨rfl, 0, rfl, Nat.zero_le _, rfl⟩
    rintro ⟨s1, s2⟩ ρ ⟨rfl, k, hs2, k1, hs1⟩ K hI
    have hs2' : s2 = (k : Int) := hs2
    have hs1' : s1 = b1 (decide (val ∈ ls.take k)) := hs1
    subst hs2' hs1'
    try dsimp only
    try rw [show Int.toNat (d : Int) = d from rfl]
    rw [a7]
    refine ⟨⟨by omega, by omega⟩, ?_⟩
    by_cases c : k < ls.length
    · rw [if_pos (by omega)]
      refine WJ_dir ?_
      refine WJ_dir ?_
      have etk : ∀ z : Str, z ∈ ls.take (k + 1) ↔ z ∈ ls.take k ∨ z = ls.getD k [] := fun z => by
        rw [List.take_succ, List.mem_append, List.getD_eq_getElem?_getD, List.getElem?_eq_getElem c]
        simp
      have hstep : ∀ u : Int, u = b1 (decide (val ∈ ls.take (k + 1))) → inR ((k : Int) + 1) ∧ K (u, (k : Int) + 1) ρ := fun u hu => ⟨⟨by omega, by omega⟩, hI _ _ ⟨rfl, k + 1, by show (k : Int) + 1 = _; omega, by omega, hu⟩ (by show ((ls.length : Int) - ((k : Int) + 1)).toNat < ((ls.length : Int) - (k : Int)).toNat; omega)⟩
      by_cases cin : val ∈ ls.take k
      · rw [decide_eq_true cin, if_neg (by decide)]
        exact hstep 1 (by rw [decide_eq_true ((etk _).mpr (Or.inl cin))]; rfl)
      · rw [decide_eq_false cin, if_pos (by decide), hdo, show Int.toNat (o : Int) = o from rfl]
        refine ⟨hdy, sp_Z_bf (p := p) (n := val.length) (s := val) hL h ⟨by omega, by omega⟩ p1 rfl ?_ (fun vq hvq => ?_)⟩
        · refine List.ext_getElem? (fun q => ?_)
          by_cases cq : q < val.length
          · rw [sl_get cq, hrow q cq, List.getD_eq_getElem?_getD, List.getElem?_eq_getElem cq]
            rfl
          · rw [List.getElem?_eq_none (by rw [sl_ln]; omega), List.getElem?_eq_none (by omega)]
        · rw [a6, show (b : Int) + (k : Int) = ((b + k : Nat) : Int) by omega, show Int.toNat ((b + k : Nat) : Int) = b + k from rfl]
          refine ⟨⟨by omega, by omega⟩, ⟨by omega, by omega⟩, ⟨by omega, by omega⟩, ?_⟩
          have hki := Kf.iff hn hvq (a6'' k c)
          by_cases ce : ls.getD k [] = val
          · rw [if_pos (hki.mpr ce).symm]
            exact hstep 1 (by rw [decide_eq_true ((etk _).mpr (Or.inr ce.symm))]; rfl)
          · rw [if_neg (fun z => ce (hki.mp z.symm))]
            exact hstep 0 (by rw [decide_eq_false (fun z => ((etk _).mp z).elim cin (fun y => ce y.symm))]; rfl)
    · rw [if_neg (by omega)]
      have hkn : ls.take k = ls := List.take_of_length_le (by omega)
      rw [hkn]
      exact ⟨b1_01 _, hq⟩
end Kww
