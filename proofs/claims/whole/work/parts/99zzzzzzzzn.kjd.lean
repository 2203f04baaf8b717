/-! ===== the reference: judge ===== -/
/-- the document that was judged, as the reference keeps it between two calls -/
def KDm (σ : IS) (a : AS) : Prop := ∃ bk pl, KBk σ bk ∧ KEl 14 σ bk (aL a) ∧ KAt 14 σ bk pl (aA a) (aB a) ∧ KSt 14 σ bk pl (aS a) (aL a).length ∧ (σ.1 14 2 = (pl.length : Int) ∧ ∀ i, i < pl.length → σ.2 (rfo 14 1) i = pl.getD i 0) ∧ pl.length ≤ aN a 0 ∧ (∀ k, k < 23 → σ.2 (rfo 14 18) k = (cnV a k : Int)) ∧ R19 14 σ (cnS a) ∧ σ.1 14 21 = (aN a 0 : Int) ∧ (∀ m, m ≤ 23 → sn (cnV a) m ≤ 2000000000) ∧ ∀ s ∈ pfN (aL a) (aL a).length, s ∈ bk
/-- what was judged last -/
def KDc (σ : IS) (d : DOC) : Prop := match d with
  | .inl fp => σ.1 12 6 = 0 ∧ σ.1 12 12 = (fp.1 : Int) ∧ σ.1 12 13 = fp.2
  | .inr a => (σ.1 12 6 = 1 ∧ σ.1 12 12 = 0 ∧ σ.1 12 13 = -1) ∧ KDm σ a
/-- what judge keeps -/
def FJd (σ τ : IS) : Prop := (∀ p k, p < 100 → p ≠ 13 → p ≠ 14 → p ≠ 16 → ¬ (p = 12 ∧ (k = 3 ∨ k = 6 ∨ k = 11 ∨ k = 12 ∨ k = 13)) → τ.1 p k = σ.1 p k) ∧ (∀ p, p = 14 ∨ p = 15 → τ.1 p 22 = σ.1 p 22) ∧ ∀ r, 100 ≤ r → ¬ (166 ≤ r ∧ r ≤ 229) → τ.2 r = σ.2 r
/-- what reading keeps -/
def FJr (σ τ : IS) : Prop := (∀ p k, p < 100 → p ≠ 13 → p ≠ 14 → p ≠ 16 → τ.1 p k = σ.1 p k) ∧ (∀ p, p = 14 ∨ p = 15 → τ.1 p 22 = σ.1 p 22) ∧ ∀ r, 100 ≤ r → ¬ (166 ≤ r ∧ r ≤ 229) → τ.2 r = σ.2 r
/-- the objects and rows that judge of a document keeps -/
def mk14 (i : Nat) : Bool := !(i == 13 || i == 14 || i == 16 || (decide (166 ≤ i) && decide (i ≤ 229)))
section Kjd
variable {L : Nat → Nat} {rm nd n : Nat} {σ : IS} {B : Nat → Int} {Q : Int → IS → Prop}
theorem mk14_O : MOk mk14 14 := ⟨by decide, by decide, fun k hk => by revert k; decide⟩
theorem mk14_M : FMk 105312291668557093161813238505883667283065801558435853274628300800 mk14 := fun i hi => by
  have hlt : i < 230 := Classical.byContradiction (fun z => by
    have : (105312291668557093161813238505883667283065801558435853274628300800 : Nat) < 2 ^ i := Nat.lt_of_lt_of_le (show _ < 2 ^ 230 by decide) (Nat.pow_le_pow_right (by omega) (by omega))
    rw [Nat.testBit_lt_two_pow this] at hi
    cases hi)
  have key : ∀ j, j < 230 → (105312291668557093161813238505883667283065801558435853274628300800 : Nat).testBit j = true → mk14 j = false := by decide +kernel
  exact key i hlt hi
theorem vv_nil {a : AS} {k : Nat} (hD : aD a = []) (hA : aA a = []) (hT : aT a = []) (hE : aL a = []) : vv a k = 0 := by
  unfold vv cnT clS
  rw [hD, hA, hT, hE]
  show 0 + 0 + (if k = 20 then 0 else 0) + (gsm _ (segs []) + (if k = 9 then 0 else 0)) + 0 = 0
  have h1 : ∀ f : Nat → Nat, gsm f (segs []) = 0 := fun f => rfl
  rw [h1]
  split <;> split <;> rfl
theorem a0_nil {l : List Int} : aD (a0 l) = [] ∧ aA (a0 l) = [] ∧ aT (a0 l) = [] ∧ aL (a0 l) = [] ∧ aB (a0 l) = [] := ⟨rfl, rfl, rfl, rfl, rfl⟩
theorem hd_nil {l : List Int} {st k : Nat} : aD (adv (sN (a0 l) 5 st) k) = [] ∧ aA (adv (sN (a0 l) 5 st) k) = [] ∧ aT (adv (sN (a0 l) 5 st) k) = [] ∧ aL (adv (sN (a0 l) 5 st) k) = [] ∧ aB (adv (sN (a0 l) 5 st) k) = [] := by
  obtain ⟨-, -, -, o4, o5, o6, o7, o8, -⟩ := adv_other (a := sN (a0 l) 5 st) (k := k)
  exact ⟨o4.trans rfl, o5.trans rfl, o6.trans rfl, o7.trans rfl, o8.trans rfl⟩
theorem GM_nil {a : AS} (hA : aA a = []) (hE : aL a = []) (hB : aB a = []) : GM a := by
  unfold GM
  rw [hA, hE, hB]
  exact ⟨fun x hx => (by cases hx), fun x hx => (by cases hx), fun x hx => (by cases hx)⟩
theorem FJr_of {ρ τ : IS} (h : FK mk14 14 ρ τ) (hf : ∀ p k, p ≠ 13 → p ≠ 16 → p ≠ 14 → ρ.1 p k = σ.1 p k) (h22 : ∀ p, p = 14 ∨ p = 15 → ρ.1 p 22 = σ.1 p 22) (hr : ∀ r, 100 ≤ r → ¬ (166 ≤ r ∧ r ≤ 229) → ρ.2 r = σ.2 r) : FJr σ τ := by
  have hm : ∀ i, i ≠ 13 → i ≠ 14 → i ≠ 16 → ¬ (166 ≤ i ∧ i ≤ 229) → mk14 i = true := fun i q1 q2 q3 q4 => by
    unfold mk14
    simp only [Bool.not_eq_true', Bool.or_eq_false_iff, beq_eq_false_iff_ne, Bool.and_eq_false_iff, decide_eq_false_iff_not]
    omega
  refine ⟨fun p k q0 q1 q2 q3 => ?_, fun p hp => ?_, fun r q0 q => ?_⟩
  · rw [← hf p k q1 q3 q2]
    exact h.1.1 p k (hm p q1 q2 q3 (by omega))
  · rw [h.2.2 p (by omega)]; exact h22 p hp
  · rw [← hr r q0 q]
    exact h.1.2 r (hm r (by omega) (by omega) (by omega) q)
set_option maxHeartbeats 1000000 in
theorem sp_K_read14 (hL : KLn L 14 rm nd) (hrm : rm ≤ 98304) (hnd : nd ≤ 16384) (hL8 : 32768 ≤ L (rfo 14 8)) (h22 : σ.1 14 22 = 0) (hn6 : n ≤ 65536) (hLr : n ≤ L 165) (hB : ∀ i, B i = ia (σ.2 165 i) 255)
    (hbad : ∀ (f p : Nat) ρ, jdg rm nd B n = .inl (f, p) → ρ.1 16 3 = (f : Int) → ρ.1 16 4 = (p : Int) → FJr σ ρ → Q 0 ρ)
    (hgood : ∀ a ρ, jdg rm nd B n = .inr a → KDm ρ a → ρ.1 16 3 = 0 → ρ.1 16 4 = -1 → FJr σ ρ → Q 1 ρ) : w_KReader_read L 165 (n : Int) 14 (rm : Int) (nd : Int) Q σ := by
  have r1 := rf_1 (o := 14) (Or.inl rfl)
  have l18 : L (rfo 14 18) = 23 := by obtain ⟨-, -, -, -, -, -, -, -, -, -, -, -, -, -, -, -, -, -, -, x, -⟩ := hL; exact x
  have l19 : L (rfo 14 19) = 6 := by obtain ⟨-, -, -, -, -, -, -, -, -, -, -, -, -, -, -, -, -, -, -, -, x⟩ := hL; exact x
  unfold w_KReader_read
  refine sp_K_begin (o := 14) (bk := []) (Or.inl rfl) hL.1 l18 l19 (fun c => absurd h22 c) (fun ρ bk' hcs hb hKB h6 h4 hf hf7 hf22 hr => ?_)
  have hbk : bk' = [] := by
    rcases hcs with z | z
    · exact z.2
    · exact z.2
  subst hbk
  have hf22' : ∀ p, p = 14 ∨ p = 15 → ρ.1 p 22 = σ.1 p 22 := fun p q => by
    by_cases c : p = 14
    · rw [c]; exact hf22 22 rfl
    · exact hf p 22 (by omega) (by omega) c
  refine sp_K_decode (B := B) (fun j => by rw [hr 165 (by omega) (by omega) (by omega)]; exact hB j) (by decide) hn6 hLr hL.2.2.2.1 rfl h6 (fun p ρ1 hld hD => ?_) (fun w ρ1 hld hD h8 h6' h7' hrow => ?_)
  · refine WJ_dir (WJ_dir ?_)
    rw [if_pos rfl]
    refine ⟨Or.inl rfl, hbad 1 p _ (by unfold jdg; rw [hld]) rfl rfl ⟨fun p' k q0 q1 q2 q3 => ?_, fun p' hp => ?_, fun r q0 q => ?_⟩⟩
    · rw [pf_1, if_neg (fun z => q3 z.1), pf_1, if_neg (fun z => q3 z.1), hD.1 p' k (fun z => q3 z.1)]
      exact hf p' k q1 q3 q2
    · rw [pf_1, if_neg (by omega), pf_1, if_neg (by omega), hD.1 p' 22 (by omega)]
      exact hf22' p' hp
    · show ρ1.2 r = σ.2 r
      rw [hD.2 r (by omega)]
      exact hr r (by omega) (by omega) (by omega)
  · refine WJ_dir (WJ_dir ?_)
    rw [if_neg (by decide)]
    have hlen := ldT_len hld
    have hnl := nle_len w ([], false)
    rw [show (w.foldl nlc ([], false)).1 = nle w from rfl, List.length_nil] at hnl
    have hch : ∀ c ∈ nle w, isCh c = true := nle_ch w ([], false) (ldT_ch hld) (fun c hc => by cases hc)
    have hj : jdg rm nd B n = if rm < (nle w).length then .inl (4, 0) else rdA rm nd 200000 (bom B n).1 (a0 (nle w)) := by unfold jdg; rw [hld]
    have hb1 : KBk ρ1 [] := hb.dep ⟨hD.1 13 1 (by omega), hD.1 13 6 (by omega)⟩ (fun r _ _ => hD.2 r (by omega))
    have hB1 : KB rm nd 14 ρ1 := by
      obtain ⟨⟨k1, k2, k3⟩, k4, k5, k6, k7, k8, k9⟩ := hKB
      exact ⟨⟨by rw [hD.1 16 2 (by omega)]; exact k1, by rw [hD.1 16 0 (by omega)]; exact k2, by rw [hD.1 16 1 (by omega)]; exact k3⟩, by rw [hD.1 16 3 (by omega)]; exact k4, fun k z => by rw [hD.1 16 k (by omega)]; exact k5 k z, fun k z => by rw [hD.1 14 k (by omega)]; exact k6 k z, by rw [hD.1 14 17 (by omega)]; exact k7, fun k z => by rw [hD.2 _ (by omega)]; exact k8 k z, fun k z => by rw [hD.2 _ (by omega)]; exact k9 k z⟩
    have hFJ : ∀ τ, FK mk14 14 ρ1 τ → FJr σ τ := fun τ hF => FJr_of hF (fun p k q1 q2 q3 => by rw [hD.1 p k (fun z => q2 z.1)]; exact hf p k q1 q2 q3) (fun p hp => by rw [hD.1 p 22 (by omega)]; exact hf22' p hp) (fun r q0 q => by rw [hD.2 r (by omega)]; exact hr r (by omega) (by omega) (by omega))
    refine km_KReader_judgeText (m := mk14) (oo := 14) (σ0 := ρ1) mk14_M mk14_O (Q := fun v τ => (v = 0 ∧ ∃ f p : Nat, jdg rm nd B n = .inl (f, p) ∧ τ.1 16 3 = (f : Int) ∧ τ.1 16 4 = (p : Int)) ∨ (v = 1 ∧ ∃ a, jdg rm nd B n = .inr a ∧ KDm τ a ∧ τ.1 16 3 = 0 ∧ τ.1 16 4 = -1)) (fun v τ hF hQ => ?_) ⟨FP.refl, hB1.1.1, fun _ _ => rfl⟩ ?_
    · rcases hQ with ⟨rfl, f, p, q1, q2, q3⟩ | ⟨rfl, a, q1, q2, q3, q4⟩
      · rw [if_pos rfl]
        exact ⟨Or.inl rfl, hbad f p τ q1 q2 q3 (hFJ τ hF)⟩
      · rw [if_neg (by decide)]
        exact ⟨Or.inr rfl, hgood a τ q1 q2 q3 q4 (hFJ τ hF)⟩
    · refine sp_K_judgeText (o := 14) (bk := []) (l := nle w) (wide := (bom B n).1) (N := 200000) (INV := fun a bk v => INVd rm nd a bk v ∧ GM a) (R := if rm < (nle w).length then .inl (4, 0) else rdA rm nd 200000 (bom B n).1 (a0 (nle w))) hL (fun a bk v h hn => INVd_1 hrm hnd hL8 a bk v h.1 hn) (fun a bk v a' h hs => ⟨(INVd_2 a bk v a' h.1 hs).1, fun v' hv => ⟨(INVd_2 a bk v a' h.1 hs).2 v' hv, h.2.stpE hs⟩⟩) hb1 hB1 h6' h7' hrow (fun c hc => isCh_rg (hch c hc)) (by omega) h8 (by omega) (fun hl => ⟨⟨GZ_a0 hl (by omega) hch, fun k _ => ?_⟩, ?_⟩) (fun hl _ st k hst hk => ⟨⟨GZ_hd hl (by omega) hch hst hk, fun k _ => ?_⟩, ?_⟩) rfl (fun f p ρ2 hR _ q3 q4 => Or.inl ⟨rfl, f, p, hj.trans hR, q3, q4⟩) (fun a' ρ2 g' hR hRK hC hI hfin _ => ?_)
      · obtain ⟨z1, z2, z3, z4, z5⟩ := a0_nil (l := nle w)
        exact (vv_nil z1 z2 z3 z4).symm
      · obtain ⟨z1, z2, z3, z4, z5⟩ := a0_nil (l := nle w)
        exact GM_nil z2 z4 z5
      · obtain ⟨z1, z2, z3, z4, z5⟩ := hd_nil (l := nle w) (st := st) (k := k)
        exact (vv_nil z1 z2 z3 z4).symm
      · obtain ⟨z1, z2, z3, z4, z5⟩ := hd_nil (l := nle w) (st := st) (k := k)
        exact GM_nil z2 z4 z5
      · refine sp_K_finD hL hrm hnd hRK hC hI.1 hI.2 hfin (fun τ v q1 q2 q3 q4 q5 q6 q7 q8 => Or.inr ⟨rfl, a', hj.trans hR, ⟨_, gP g', ⟨q1.1.1, q1.1.2.1⟩, q1.2.2.2.2.2.1, q1.2.2.2.2.2.2.1, q1.2.2.2.2.2.2.2, q1.1.2.2.2.1, ?_, fun k hk => ?_, q3, q6, fun m hm => cnV_sum hI.1.1 hrm hnd (fin_of hfin hI.1.1.1).1 hm, fun s hs => ?_⟩, q4, q5⟩)
        · have := hC.1
          omega
        · rw [← q2 k hk]
          exact q1.1.2.2.2.2.2 k hk
        · exact kpL_mem.mpr (Or.inr (by unfold fnL; exact List.mem_append_right _ hs))
theorem KDm.k12 {ρ τ : IS} {a : AS} (h : KDm ρ a) (hf : ∀ p k, p ≠ 12 → τ.1 p k = ρ.1 p k) (hr : τ.2 = ρ.2) : KDm τ a := by
  obtain ⟨bk, pl, h1, h2, h3, h4, ⟨h5, h5'⟩, h6, h7, h8, h9, h10, h11⟩ := h
  refine ⟨bk, pl, h1.dep ⟨hf 13 1 (by decide), hf 13 6 (by decide)⟩ (fun r _ _ => by rw [hr]), h2.dep kle.refl (hf 14 7 (by decide)) (fun k _ _ => by rw [hr]), h3.dep kle.refl cle.refl (hf 14 14 (by decide)) (fun k _ _ => by rw [hr]), h4.dep kle.refl (fun k _ => hf 14 k (by decide)) (by rw [hr]), ⟨by rw [hf 14 2 (by decide)]; exact h5, by rw [hr]; exact h5'⟩, h6, by rw [hr]; exact h7, fun k hk => by rw [hr]; exact h8 k hk, by rw [hf 14 21 (by decide)]; exact h9, h10, h11⟩
theorem sp_K_judge (hL : KLn L 14 rm nd) (hrm : rm ≤ 98304) (hnd : nd ≤ 16384) (hL8 : 32768 ≤ L (rfo 14 8)) (h22 : σ.1 14 22 = 0) (h0 : σ.1 12 0 = (rm : Int)) (h1 : σ.1 12 1 = (nd : Int)) (hn : σ.1 12 3 = (n : Int)) (hn6 : n ≤ 65536) (hLr : n ≤ L 165) (hB : ∀ i, B i = ia (σ.2 165 i) 255)
    (hq : ∀ τ, KDc τ (dcJ rm nd B n) → τ.1 12 3 = 0 → τ.1 12 11 = 0 → FJd σ τ → Q (anJ rm nd B n) τ) : w_K_judge L Q σ := by
  have l18 : L (rfo 14 18) = 23 := by obtain ⟨-, -, -, -, -, -, -, -, -, -, -, -, -, -, -, -, -, -, -, x, -⟩ := hL; exact x
  -- what becomes of the object itself
  have hfin : ∀ (ρ : IS) (v : Int), FJr (pf σ 12 11 0) ρ → ∀ τ, τ = pf (pf (pf (pf ρ 12 6 v) 12 3 0) 12 12 (ρ.1 16 3)) 12 13 (ρ.1 16 4) → (τ.1 12 6 = v ∧ τ.1 12 3 = 0 ∧ τ.1 12 12 = ρ.1 16 3 ∧ τ.1 12 13 = ρ.1 16 4 ∧ τ.1 12 11 = 0) ∧ (∀ p k, p ≠ 12 → τ.1 p k = ρ.1 p k) ∧ τ.2 = ρ.2 ∧ FJd σ τ := by
    rintro ρ v ⟨f1, f2, f3⟩ τ rfl
    have g : ∀ p k, ¬ (p = 12 ∧ (k = 3 ∨ k = 6 ∨ k = 12 ∨ k = 13)) → (pf (pf (pf (pf ρ 12 6 v) 12 3 0) 12 12 (ρ.1 16 3)) 12 13 (ρ.1 16 4)).1 p k = ρ.1 p k := fun p k z => by
      rw [pf_1, if_neg (fun y => z ⟨y.1, by omega⟩), pf_1, if_neg (fun y => z ⟨y.1, by omega⟩), pf_1, if_neg (fun y => z ⟨y.1, by omega⟩), pf_1, if_neg (fun y => z ⟨y.1, by omega⟩)]
    refine ⟨⟨?_, ?_, ?_, ?_, by rw [g 12 11 (by omega), f1 12 11 (by decide) (by decide) (by decide) (by decide), pf_eq]⟩, fun p k hp => g p k (fun z => hp z.1), rfl, fun p k q0 q1 q2 q3 q4 => ?_, fun p hp => ?_, fun r q0 q1 => f3 r q0 q1⟩
    · rw [pf_nk (by decide), pf_nk (by decide), pf_nk (by decide), pf_eq]
    · rw [pf_nk (by decide), pf_nk (by decide), pf_eq]
    · rw [pf_nk (by decide), pf_eq]
    · rw [pf_eq]
    · rw [g p k (fun z => q4 ⟨z.1, by omega⟩), f1 p k q0 q1 q2 q3, pf_1, if_neg (fun z => q4 ⟨z.1, by omega⟩)]
    · rw [g p 22 (by omega), f2 p hp, pf_1, if_neg (by omega)]
  unfold w_K_judge
  rw [h0, h1, hn]
  refine sp_K_read14 (σ := pf σ 12 11 0) hL hrm hnd hL8 (by rw [pf_no (by decide)]; exact h22) hn6 hLr hB (fun f p ρ hj q3 q4 hF => ⟨Or.inl rfl, ?_⟩) (fun a ρ hj hD q3 q4 hF => ⟨Or.inr rfl, ?_⟩)
  · rw [if_pos rfl]
    have ha : anJ rm nd B n = 2 := by unfold anJ; rw [hj]
    rw [ha] at hq
    obtain ⟨⟨y1, y2, y3, y4, y5⟩, -, -, y8⟩ := hfin ρ 0 hF _ rfl
    refine hq _ ?_ y2 y5 y8
    have hd : dcJ rm nd B n = .inl (f, (p : Int)) := by unfold dcJ; rw [hj]
    rw [hd]
    exact ⟨y1, y3.trans q3, y4.trans q4⟩
  · rw [if_neg (by decide)]
    obtain ⟨⟨y1, y2, y3, y4, y5⟩, y6, y7, y8⟩ := hfin ρ 1 hF _ rfl
    generalize pf (pf (pf (pf ρ 12 6 1) 12 3 0) 12 12 (ρ.1 16 3)) 12 13 (ρ.1 16 4) = τ at *
    have hD' := hD.k12 y6 y7
    have hd : dcJ rm nd B n = .inr a := by unfold dcJ; rw [hj]
    have hqq := hq τ (by rw [hd]; exact ⟨⟨y1, y3.trans q3, y4.trans q4⟩, hD'⟩) y2 y5 y8
    obtain ⟨bk, pl, -, -, -, -, -, -, h7, -, -, h10, -⟩ := hD'
    refine WL_ind (fun s ρ' => ρ' = τ ∧ ∃ m : Nat, s.2 = (m : Int) ∧ m ≤ 23 ∧ s.1 = ((sn (cnV a) m : Nat) : Int)) (fun s _ => ((23 : Int) - s.2).toNat) ?_ _ τ ⟨rfl, 0, rfl, by omega, rfl⟩
    rintro ⟨s1, s2⟩ ρ' ⟨rfl, m, hs2, hm, hs1⟩ K hI
    dsimp only at hs1 hs2 ⊢
    subst hs1 hs2
    by_cases c : m < 23
    · have b1 := h10 (m + 1) (by omega)
      rw [sn_s] at b1
      rw [if_pos (by omega), show Int.toNat (m : Int) = m from rfl, h7 m c]
      refine ⟨⟨by omega, by rw [l18]; omega⟩, ⟨by omega, by omega⟩, ⟨by omega, by omega⟩, hI _ _ ⟨rfl, m + 1, by show (m : Int) + 1 = _; omega, by omega, ?_⟩ (by show ((23 : Int) - ((m : Int) + 1)).toNat < ((23 : Int) - (m : Int)).toNat; omega)⟩
      show _ = ((sn (cnV a) (m + 1) : Nat) : Int)
      rw [sn_s]
      show ((sn (cnV a) m : Nat) : Int) + ((cnV a m : Nat) : Int) = _
      omega
    · have hm' : m = 23 := by omega
      subst hm'
      rw [if_neg (by omega)]
      have ha : anJ rm nd B n = if ((sn (cnV a) 23 : Nat) : Int) = 0 then 0 else 1 := by
        unfold anJ
        rw [hj]
        dsimp only
        by_cases cz : sn (cnV a) 23 = 0
        · rw [if_pos (fun k hk => sn_zero cz k hk), if_pos (by omega)]
        · rw [if_neg (fun z => cz ?_), if_neg (by omega)]
          have : ∀ j, j ≤ 23 → sn (cnV a) j = 0 := by
            intro j
            induction j with
            | zero => intro _; rfl
            | succ j ih => intro hj; rw [sn_s, ih (by omega), z j (by omega)]
          exact this 23 (by omega)
      rw [← ha]
      exact hqq
end Kjd
