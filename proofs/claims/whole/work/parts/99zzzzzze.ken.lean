/-! ===== items of the reference: an end ===== -/
section Ken
variable {L : Nat → Nat} {rm nd o : Nat} {σ τ : IS} {g g' : KG} {a a' A : AS} {Q : IS → Prop} {R : Int → IS → Prop}
theorem clV_adv {k : Nat} : clV (adv a k) = clV a := by
  funext j
  unfold clV
  rw [adv_other.2.2.2.2.2.2.2.2.2, adv_other.2.2.2.1, adv_other.2.2.2.2.2.2.1]
theorem kpL_nil {bk : List Str} : kpL bk [] = bk := rfl
set_option maxHeartbeats 4000000 in
theorem qI_end (hL : KLn L o rm nd) (h : RK rm nd o σ g a) (hG : GK rm nd a) (hC : KC rm g a) (hm : 2 ≤ (cur a).length) (h4 : aN a 4 = 2) (hev : (kNs (aS a)).1 + 1 ≤ 120000) (hV : ∀ k, gV g k ≤ 800000000) (hpar2 : ∀ y ∈ aL a, -1 ≤ y.2.1) (hnls : nLs (aD a) (aA a) ≤ 50000) (hcl : KCl L rm nd o (aD a)) (hq : KO rm nd o σ g Q (iEnd a) [] (clV a)) : w_KReader_endTag L Q σ := by
  obtain ⟨p, q, t, hF', h1, h2, hK, hc, hS, hp⟩ := h.at_ hL
  have hK2 := hK.2.2
  have ho := hL.2.1
  have r1 := rf_1 ho
  have r3 := rf_3 ho (k := 3) (by omega) (by omega)
  have l176 := hL.2.2.2.1
  have l16 := hL.2.2.2.2.1
  have l166 := l16 166 (by omega) (by omega)
  have l167 := l16 167 (by omega) (by omega)
  have l181 := hL.2.2.2.2.2.1 181 (by omega) (by omega)
  have l3 := hL.2.2.2.2.2.2.2.2.2.2.2.2.2.2.2.1 3 (by omega) (by omega)
  obtain ⟨d1, d2⟩ := h.dy ho
  have d2o : dyD (o : Int) := by rw [← d1]; exact d2
  have hrm := hL.2.2.1
  have hn := h.1.2.1
  obtain ⟨G1, G2, G3, G4, G5, G6, G7, G8, G9, -⟩ := id hG
  have hln : (aL a).length ≤ 16384 := by omega
  have hne : aO a ≠ [] := G4.2.mp h4
  have hEl : KEl o σ (gB g) (aL a) := h.2.2.2.2.2.2.2.2.1
  have hOp : KOp σ (gB g) (aF a) (aL a) (aO a) := h.2.2.2.2.2.2.2.2.2.1
  obtain ⟨e, r, hO⟩ : ∃ e r, aO a = e :: r := by
    cases hz : aO a with
    | nil => exact absurd hz hne
    | cons e r => exact ⟨e, r, rfl⟩
  have G5' := G5
  rw [hO] at hOp G5'
  have hlO := och_len G5' (och_lt G5')
  rw [List.length_cons] at hlO
  have hel : e < (aL a).length := G5'.1
  have h64 : σ.1 16 64 = ((r.length + 1 : Nat) : Int) := hOp.1
  have o2' := hOp.2.1 r.length (by rw [List.length_cons]; omega)
  rw [opK_top] at o2'
  obtain ⟨t1, -, -, j, j1, j2, j3, j4⟩ := o2'
  have hfr := h.2.1
  have h14 : σ.1 16 14 = ((aF a).length : Int) := hfr.1
  have hfl : 0 < (aF a).length := hfr.2.1
  have hfm : (aF a).length ≤ 8302 := by have := G9.len; have := G8.1; omega
  have hser := hfr.2.2.2.2.1
  obtain ⟨v1, -⟩ := hEl.2 e hel
  have htop : lvl (aF a) ((aF a).length - 1) = (cur a, q) := by rw [hF', List.length_cons, show t.length + 1 - 1 = t.length by omega, lvl_top]
  unfold w_KReader_endTag
  rw [h1]
  refine ⟨⟨by omega, by omega⟩, kr_name hK hS (some 2) rfl (fun i hi => by cases hi; exact hm) ?_⟩
  refine kr_asp hK hS _ rfl nmg_le ?_
  refine kr_word hK hS _ rfl (asp_le nmg_le) ti_1124 ?_
  have het : wd (gd (cur a)) (cur a).length [62] (asp (gd (cur a)) (cur a).length (nmg (gd (cur a)) (cur a).length true (some 2))) = etk (gd (cur a)) (cur a).length 0 := rfl
  rw [het]
  cases hk : etk (gd (cur a)) (cur a).length 0 with
  | none =>
    refine sp_K_written (x := none) rfl h.f3 (fun _ => ?_) (fun k hk => by cases hk)
    rw [if_pos rfl]
    exact hq.1 5 (by unfold iEnd; rw [hk]) _ pf_eq (pf_nk (by decide))
  | some k =>
  cases hnm : nmg (gd (cur a)) (cur a).length true (some 2) with
  | none =>
    rw [← het, hnm] at hk
    cases hk
  | some n =>
  have hnl := nmg_lt hnm
  have hkl : n < k ∧ k ≤ (cur a).length := by
    rw [← het, hnm] at hk
    have easp : asp (gd (cur a)) (cur a).length (some n) = some (sk isSp (gd (cur a)) (cur a).length n) := rfl
    rw [easp] at hk
    have := sk_le (p := isSp) (T := gd (cur a)) hnl.2.2
    have := wd1 (by decide) hk
    omega
  refine sp_K_written (x := some (p + k)) rfl h.f3 (fun hk => by cases hk) (fun k0 hk0 hv0 => ?_)
  have en : enc (mvo p (some n)) = ((p + n : Nat) : Int) := rfl
  rw [if_neg (by decide), h1, en, d1, show ((p + n : Nat) : Int) - (p : Int) - 2 = ((n - 2 : Nat) : Int) by omega]
  refine ⟨d2o, ⟨by omega, by omega⟩, ⟨by omega, by omega⟩, ⟨by omega, by omega⟩, ?_⟩
  have esl : sl (σ.2 176) (p + 2) (n - 2) = sl (gd (cur a)) 2 (n - 2) := sh_sl hS (by omega)
  refine sp_K_bf (r := 176) (p := p + 2) (n := n - 2) hL h (by omega) (by omega) rfl esl (fun v12 hv => ?_)
  rw [h64, h14, d1, show Int.toNat (o : Int) = o from rfl, show ((r.length + 1 : Nat) : Int) - 1 = (r.length : Int) by omega, show Int.toNat (r.length : Int) = r.length from rfl, t1, show Int.toNat (e : Int) = e from rfl, show ((aF a).length : Int) - 1 = (((aF a).length - 1 : Nat) : Int) by omega, show Int.toNat (((aF a).length - 1 : Nat) : Int) = (aF a).length - 1 from rfl]
  refine ⟨⟨by omega, by omega⟩, ⟨by omega, by omega⟩, ⟨by omega, by omega⟩, ⟨by omega, by omega⟩, d2o, ⟨by omega, by omega⟩, ⟨by omega, by omega⟩, ⟨by omega, by omega⟩, ?_⟩
  have hsame : σ.2 (rfo o 3) e = v12 ↔ ((aL a).getD e elD).1 = sl (gd (cur a)) 2 (n - 2) := Kf.iff hn hv v1
  have hmine : σ.2 167 r.length = σ.2 181 ((aF a).length - 1) ↔ ¬ (e :: r).length ≤ q.2 := by
    rw [j2, List.length_cons]
    by_cases cj : j = (aF a).length - 1
    · rw [cj] at j3 ⊢
      rw [htop] at j3
      exact ⟨fun _ => by have : q.2 ≤ r.length := j3; omega, fun _ => rfl⟩
    · have := j4 ((aF a).length - 1) (by omega) (by omega)
      rw [htop] at this
      have hq2 : r.length < q.2 := this
      have hs := (hser ((aF a).length - 1) (by omega)).2.2.2 j (by omega)
      exact ⟨fun z => by omega, fun z => absurd (by omega) z⟩
  have hie : iEnd a = if ((aL a).getD e elD).1 ≠ sl (gd (cur a)) 2 (n - 2) then .inl 7 else if (e :: r).length ≤ q.2 then .inl 14 else .inr (cls (adv a k)) := by
    unfold iEnd
    rw [hk, hnm, hO, hF']
  by_cases cs : ((aL a).getD e elD).1 = sl (gd (cur a)) 2 (n - 2)
  · rw [if_pos (hsame.mpr cs)]
    rw [if_neg (fun z => z cs)] at hie
    by_cases cm : (e :: r).length ≤ q.2
    · rw [if_neg (fun z => (hmine.mp z) cm), if_neg (fun z => z.2 rfl), if_neg (by decide)]
      rw [if_pos cm] at hie
      refine sp_K_fail h.f3 ?_
      exact hq.1 14 hie _ pf_eq (pf_nk (by decide))
    · rw [if_pos (hmine.mpr cm), if_pos ⟨by decide, by decide⟩]
      rw [if_neg cm] at hie
      have hg := h.go hL (k := k) hkl.2
      rw [h1, show (p : Int) + (k : Int) = ((p + k : Nat) : Int) by omega] at hg
      have nO : aO (adv a k) = aO a := adv_other.2.2.2.2.2.2.2.2.2
      have nL : aL (adv a k) = aL a := adv_other.2.2.2.2.2.2.1
      have nS : aS (adv a k) = aS a := adv_other.2.2.2.2.2.2.2.2.1
      have nD : aD (adv a k) = aD a := adv_other.2.2.2.1
      have nA : aA (adv a k) = aA a := adv_other.2.2.2.2.1
      have nN : aN (adv a k) = aN a := adv_other.2.1
      refine hcl (adv a k) _ g _ hg nD (by rw [nN]; exact h4) (by rw [nO]; exact hne) (by rw [nO, nL]; exact G5) (by rw [nL]; exact hln) (by rw [nL]; exact hpar2) (by rw [nD, nA]; exact hnls) (by rw [nS]; exact hev) ⟨by have := hV 5; omega, by have := hV 6; omega⟩ (fun τ g5 hR5 u1 u2 u3 u4 u5 u6 => ?_)
      rw [clV_adv] at u4
      have hrem := rem_adv (a := a) (k := k) hkl.2
      have cF' : aF (cls (adv a k)) = aF (adv a k) := by unfold cls; rw [nO, hO]; rfl
      have cN : ∀ j, j ≠ 4 → aN (cls (adv a k)) j = aN a j := fun j hj => by
        unfold cls
        rw [nO, hO]
        show (if j = 4 then _ else aN (adv a k) j) = _
        rw [if_neg hj, nN]
      have cr : rem (cls (adv a k)) = rem (adv a k) := by unfold rem; rw [cF']
      have c22 : clV a 22 = 0 := by
        unfold clV
        rw [hO]
        dsimp only
        split
        · rfl
        · rw [if_neg (fun z => absurd z.1 (by decide))]
      obtain ⟨k1, k2, k3, k4⟩ := hC
      refine hq.2 _ hie τ g5 hR5 u1 (fun _ => u2) (fun j _ => u4 j) ⟨?_, ?_, ?_, ?_⟩ (by rw [u5]; exact pf_nk (by decide)) (by rw [u6]; show (pf σ 16 16 _).1 16 15 ≤ _; rw [pf_nk (by decide)]; omega)
      · rw [cN 0 (by decide), cr, u3]; omega
      · rw [cN 0 (by decide), cN 8 (by decide), cr, u2]; omega
      · rw [cN 0 (by decide)]; exact k3
      · rw [cN 1 (by decide), u4, c22]; exact k4
  · rw [if_neg (fun z => cs (hsame.mp z)), if_neg (fun z => z.1 rfl), if_pos rfl]
    rw [if_pos cs] at hie
    refine sp_K_fail h.f3 ?_
    exact hq.1 7 hie _ pf_eq (pf_nk (by decide))
end Ken
