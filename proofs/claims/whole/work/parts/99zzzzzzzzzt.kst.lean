/-! ===== the reference: STEADY ===== -/
/-- the objects and rows that reading what was written keeps -/
def mk15 (i : Nat) : Bool := !(i == 13 || i == 15 || i == 16 || (decide (166 ≤ i) && decide (i ≤ 215)) || (decide (230 ≤ i) && decide (i ≤ 243)))
section Kst
variable {L : Nat → Nat} {rm nd : Nat} {σ τ υ : IS} {a b : AS} {d : DOC} {Q : Int → IS → Prop} {bk : List Str} {pl : List Int}
theorem mk15_O : MOk mk15 15 := ⟨by decide, by decide, fun k hk => by revert k; decide⟩
theorem mk15_M : FMk 105312291668557093161813238505883667283065801558435853274628300800 mk15 := fun i hi => by
  have hlt : i < 230 := Classical.byContradiction (fun z => by
    have : (105312291668557093161813238505883667283065801558435853274628300800 : Nat) < 2 ^ i := Nat.lt_of_lt_of_le (show _ < 2 ^ 230 by decide) (Nat.pow_le_pow_right (by omega) (by omega))
    rw [Nat.testBit_lt_two_pow this] at hi
    cases hi)
  have key : ∀ j, j < 230 → (105312291668557093161813238505883667283065801558435853274628300800 : Nat).testBit j = true → mk15 j = false := by decide +kernel
  exact key i hlt hi
theorem mk15_t {i : Nat} (h1 : i ≠ 13) (h2 : i ≠ 15) (h3 : i ≠ 16) (h4 : ¬ (166 ≤ i ∧ i ≤ 215)) (h5 : ¬ (230 ≤ i ∧ i ≤ 243)) : mk15 i = true := by
  unfold mk15
  simp only [Bool.not_eq_true', Bool.or_eq_false_iff, beq_eq_false_iff_ne, Bool.and_eq_false_iff, decide_eq_false_iff_not]
  omega
theorem rfo14_r : ∀ k, k ∈ [1, 3, 4, 5, 6, 8, 9, 10, 11, 12, 13, 15, 18, 19] → 216 ≤ rfo 14 k ∧ rfo 14 k ≤ 229 := by decide
theorem rfo15_r : ∀ k, k ∈ [1, 3, 4, 5, 6, 8, 9, 10, 11, 12, 13, 15, 18, 19] → 230 ≤ rfo 15 k ∧ rfo 15 k ≤ 243 := by decide
theorem k_36 {k : Nat} (h1 : 3 ≤ k) (h2 : k ≤ 6) : k ∈ [1, 3, 4, 5, 6, 8, 9, 10, 11, 12, 13, 15, 18, 19] := by
  have : k = 3 ∨ k = 4 ∨ k = 5 ∨ k = 6 := by omega
  rcases this with rfl | rfl | rfl | rfl <;> decide
theorem k_813 {k : Nat} (h1 : 8 ≤ k) (h2 : k ≤ 13) : k ∈ [1, 3, 4, 5, 6, 8, 9, 10, 11, 12, 13, 15, 18, 19] := by
  have : k = 8 ∨ k = 9 ∨ k = 10 ∨ k = 11 ∨ k = 12 ∨ k = 13 := by omega
  rcases this with rfl | rfl | rfl | rfl | rfl | rfl <;> decide
theorem KDk.dep (h : KDk σ bk pl a) (hb : KBk τ bk) (hf : ∀ k, τ.1 14 k = σ.1 14 k) (hr : ∀ r, 216 ≤ r → r ≤ 229 → τ.2 r = σ.2 r) : KDk τ bk pl a := by
  obtain ⟨h1, h2, h3, h4, ⟨h5, h5'⟩, h6, h7, h8, h9, h10, h11⟩ := h
  have hk : ∀ k, k ∈ [1, 3, 4, 5, 6, 8, 9, 10, 11, 12, 13, 15, 18, 19] → τ.2 (rfo 14 k) = σ.2 (rfo 14 k) := fun k hk => hr _ (rfo14_r k hk).1 (rfo14_r k hk).2
  exact ⟨hb, h2.dep kle.refl (hf 7) (fun k y1 y2 => hk k (k_36 y1 y2)), h3.dep kle.refl cle.refl (hf 14) (fun k y1 y2 => hk k (k_813 y1 y2)), h4.dep kle.refl (fun k _ => hf k) (hk 15 (by decide)), ⟨by rw [hf 2]; exact h5, by rw [hk 1 (by decide)]; exact h5'⟩, h6, by rw [hk 18 (by decide)]; exact h7, fun k y => by rw [hk 19 (by decide)]; exact h8 k y, by rw [hf 21]; exact h9, h10, h11⟩
theorem KLn.low {o : Nat} (h : KLn L o rm nd) : KLn L o 0 0 := by
  obtain ⟨lb, lo, -, lrest⟩ := h
  obtain ⟨q1, q2, q3, q4, q5, q6, q7, q8, q9, q10, q11, q12, q13, q14, q15, q16⟩ := lrest
  exact ⟨lb, lo, ⟨Nat.zero_le _, Nat.zero_le _⟩, q1, q2, q3, q4, q5, q6, q7, q8, q9, q10, q11, q12, q13, ⟨Nat.zero_le _, q14.2⟩, q15, q16⟩
/-- what reading again keeps -/
def FJe (σ τ : IS) : Prop := (∀ p k, p < 100 → p ≠ 13 → p ≠ 15 → p ≠ 16 → τ.1 p k = σ.1 p k) ∧ τ.1 15 22 = σ.1 15 22 ∧ ∀ r, 100 ≤ r → ¬ (166 ≤ r ∧ r ≤ 215) → ¬ (230 ≤ r ∧ r ≤ 243) → τ.2 r = σ.2 r
set_option maxHeartbeats 1000000 in
/-- what was written is read again -/
theorem sp_K_read15 (hL : KLn L 15 262144 16384) (h22 : σ.1 15 22 ≠ 0) (hnd : nd ≤ 16384) (gG : GOK rm nd a) (gX : GX a) (gY : GY a) (h0 : ¬ ∃ k, k < 6 ∧ 0 < cnS a k) (hk : (kNs (aS a)).1 ≤ 119990) (hb : KBk σ bk) (hw : KNW bk (aL a) (aB a) (aS a)) (hlen : (cnW a).length ≤ 262144) (h6 : σ.1 16 6 = ((cnW a).length : Int)) (hrow : ∀ i, i < (cnW a).length → σ.2 176 i = (cnW a).getD i 0)
    (hq : ∀ τ b pl', FJe σ τ → KBk τ bk → KD4 L 15 τ bk pl' (aA b) (aL b) (aB b) → KSt 15 τ bk pl' (aS b) (aL b).length → RT (aL a) (aB a) (aS a) (cnW a).length b [] [] (aL a).length 0 → cnW b = cnW a → τ.1 16 6 = ((cnW a).length : Int) → (∀ i, i < (cnW a).length → τ.2 176 i = (cnW a).getD i 0) → Q 1 τ) : w_KReader_readLetters L 15 262144 16384 Q σ := by
  have l18 : L (rfo 15 18) = 23 := by obtain ⟨-, -, -, -, -, -, -, -, -, -, -, -, -, -, -, -, -, -, -, x, -⟩ := hL; exact x
  have l19 : L (rfo 15 19) = 6 := by obtain ⟨-, -, -, -, -, -, -, -, -, -, -, -, -, -, -, -, -, -, -, -, x⟩ := hL; exact x
  have l8 : 16500 ≤ L (rfo 15 8) := by obtain ⟨-, -, -, -, -, -, -, -, -, -, -, -, -, -, -, -, -, ⟨-, x, -⟩, -⟩ := hL; exact x
  have l1 : 262144 ≤ L (rfo 15 1) := by obtain ⟨-, -, -, -, -, -, -, -, -, -, -, -, -, -, -, -, ⟨x, -⟩, -⟩ := hL; exact x
  have l176 : L 176 = 262144 := hL.2.2.2.1
  have hc := RTc_of gG gX h0
  have hf0 := RT_first gG gX gY h0
  obtain ⟨b, b1, b2, b3, b4⟩ := round_trip (rm' := 262144) (nd' := 16384) (N := 600000) (w := false) gG gX gY h0 hlen hnd (by omega)
  have hnds : (aL a).length + (flW (aL a) (aB a) (aL a).length).length + pis (aS a) ≤ 16384 := Nat.le_trans (nodes_of gG gX) hnd
  have hchN : chN (cnW a) := wrS_N hc (aS a) [] 0 (fun _ hv => hv) (fun e he => (by cases he)) ⟨_, hf0.2.2.2.2.1.1⟩
  generalize hW : cnW a = W at *
  have r18 := rfo15_r 18 (by decide)
  have r19 := rfo15_r 19 (by decide)
  unfold w_KReader_readLetters
  show w_KReader_begin L 15 ((262144 : Nat) : Int) ((16384 : Nat) : Int) _ σ
  refine sp_K_begin (o := 15) (bk := bk) (Or.inr rfl) hL.1 l18 l19 (fun _ => hb) (fun ρ bk' hcs hbρ hKB h6ρ h4 hf hf7 hf22 hr => ?_)
  have hbk : bk' = bk := by
    rcases hcs with z | z
    · exact absurd z.1 h22
    · exact z.2
  subst hbk
  rw [h6]
  have hf1 : ∀ p k, ¬ (p = 16 ∧ (k = 6 ∨ k = 8)) → (pf (pf ρ 16 6 (W.length : Int)) 16 8 0).1 p k = ρ.1 p k := fun p k y => by
    rw [pf_1, if_neg (fun z => y ⟨z.1, Or.inr z.2⟩), pf_1, if_neg (fun z => y ⟨z.1, Or.inl z.2⟩)]
  have hr1 : ∀ r, r ≠ 211 → r ≠ rfo 15 18 → r ≠ rfo 15 19 → (pf (pf ρ 16 6 (W.length : Int)) 16 8 0).2 r = σ.2 r := hr
  have h61 : (pf (pf ρ 16 6 (W.length : Int)) 16 8 0).1 16 6 = (W.length : Int) := by rw [pf_nk (by decide), pf_eq]
  have h81 : (pf (pf ρ 16 6 (W.length : Int)) 16 8 0).1 16 8 = 0 := pf_eq
  have hrow1 : ∀ i, i < W.length → (pf (pf ρ 16 6 (W.length : Int)) 16 8 0).2 176 i = W.getD i 0 := fun i hi => by
    rw [hr1 176 (by decide) (by omega) (by omega)]; exact hrow i hi
  have hrr : (pf (pf ρ 16 6 (W.length : Int)) 16 8 0).2 = ρ.2 := rfl
  generalize pf (pf ρ 16 6 (W.length : Int)) 16 8 0 = ρ1 at *
  refine WL_ind (fun s υ => υ = ρ1 ∧ ∃ n : Nat, s = (n : Int) ∧ n ≤ W.length) (fun s _ => ((W.length : Int) - s).toNat) ?_ 0 ρ1 ⟨rfl, 0, rfl, Nat.zero_le _⟩
  rintro s υ ⟨rfl, n, rfl, hn⟩ K hK
  try dsimp only
  by_cases cn : n < W.length
  · rw [if_pos (by omega), show Int.toNat (n : Int) = n from rfl, hrow1 n cn]
    have hmem : W.getD n 0 ∈ W := by rw [List.getD_eq_getElem?_getD, List.getElem?_eq_getElem cn]; exact List.getElem_mem cn
    obtain ⟨c1, c2⟩ := hchN _ hmem
    have hin : inL L 176 (n : Int) := ⟨by omega, by rw [l176]; omega⟩
    refine ⟨hin, sp_K_isCharacter ⟨fun _ => hin, ?_⟩⟩
    rw [hrow1 n cn, c1, if_pos ⟨by decide, c2⟩]
    exact ⟨⟨by omega, by omega⟩, hK _ _ ⟨rfl, n + 1, by omega, by omega⟩ (by omega)⟩
  · rw [if_neg (by omega)]
    refine sp_K_endLines (W := W) l176 hlen h61 hrow1 (fun ρ2 e1 e2 e3 e4 e5 => ?_)
    rw [nle_id (fun c hc => (hchN c hc).2)] at e3 e4 e5
    have hb2 : KBk ρ2 bk' := hbρ.dep ⟨by rw [e1 13 1 (by omega)]; exact hf1 13 1 (by omega), by rw [e1 13 6 (by omega)]; exact hf1 13 6 (by omega)⟩ (fun r y1 y2 => by rw [e2 r (by omega), hrr])
    have hB2 : KB 262144 16384 15 ρ2 := by
      obtain ⟨⟨k1, k2, k3⟩, k4, k5, k6, k7, k8, k9⟩ := hKB
      have hg : ∀ p k, ¬ (p = 16 ∧ (k = 6 ∨ k = 7 ∨ k = 8)) → ρ2.1 p k = ρ.1 p k := fun p k y => (e1 p k (by omega)).trans (hf1 p k (by omega))
      exact ⟨⟨by rw [hg 16 2 (by omega)]; exact k1, by rw [hg 16 0 (by omega)]; exact k2, by rw [hg 16 1 (by omega)]; exact k3⟩, by rw [hg 16 3 (by omega)]; exact k4, fun k z => by rw [hg 16 k (by omega)]; exact k5 k z, fun k z => by rw [hg 15 k (by omega)]; exact k6 k z, by rw [hg 15 17 (by omega)]; exact k7, fun k z => by rw [e2 _ (by omega), hrr]; exact k8 k z, fun k z => by rw [e2 _ (by omega), hrr]; exact k9 k z⟩
    have hFJ : ∀ τ, FK mk15 15 ρ2 τ → FJe σ τ := fun τ hF => by
      refine ⟨fun p k q0 q1 q2 q3 => ?_, ?_, fun r q0 q1 q2 => ?_⟩
      · rw [hF.1.1 p k (mk15_t q1 q2 q3 (by omega) (by omega)), e1 p k (by omega), hf1 p k (by omega)]
        exact hf p k q1 q3 q2
      · rw [hF.2.2 15 (by decide), e1 15 22 (by omega), hf1 15 22 (by omega)]
        exact hf22 22 rfl
      · rw [hF.1.2 r (mk15_t (by omega) (by omega) (by omega) q1 q2), e2 r (by omega)]
        exact hr1 r (by omega) (by omega) (by omega)
    refine km_KReader_judgeText (m := mk15) (oo := 15) (σ0 := ρ2) mk15_M mk15_O (Q := fun v τ => v = 1 ∧ (FJe σ τ → Q 1 τ)) (fun v τ hF hQ => ?_) ⟨FP.refl, hB2.1.1, fun _ _ => rfl⟩ ?_
    · obtain ⟨rfl, hQ⟩ := hQ
      exact ⟨Or.inr rfl, hQ (hFJ τ hF)⟩
    · refine sp_K_judgeText (o := 15) (bk := bk') (l := W) (wide := false) (N := 600000) (INV := INVr (aL a) (aB a) (aS a) W.length bk') (R := .inr b) hL (INVr_1 hc hlen (Nat.le_refl _) hnds (Nat.le_refl _) (by omega) l8 hw) (INVr_2 hc hlen hnds hw) hb2 hB2 e3 e4 e5 (fun c hc => isCh_rg (hchN c hc).1) hlen ⟨fun _ => rfl, fun _ => by rw [e1 16 8 (by omega)]; exact h81⟩ (by decide) (fun _ => ⟨rfl, ⟨_, _, _, _, hf0⟩, fun k _ => Nat.zero_le _⟩) (fun _ hh => ?_) (by rw [if_neg (by omega)]; exact b1.symm) (fun f p ρ3 hR => by cases hR) (fun a' ρ3 g' hR hRK hC hI hfin hgC => ?_)
      · rw [← hW, wr_noH gG gX gY h0] at hh
        cases hh
      · cases hR
        have hgC' := hgC (fun a1 bk1 v1 h1 => by obtain ⟨-, ⟨r, sk, m, z, h2⟩, -⟩ := h1; exact h2.1.2.1)
        obtain ⟨hgB, -, -⟩ := hI
        have hF := hRK.fn
        have e2' : ρ3.1 16 2 = ((15 : Nat) : Int) := hF.1.2.2.2.2.1.1
        have hnu := hRK.2.2.2.1
        have hbN := b3.2.1
        have hfl : ∀ p k, ¬ (p = 16 ∧ k = 4) → ¬ (p = 15 ∧ k = 21) → (pf (pf ρ3 16 4 (-1)) 15 21 (ρ3.1 16 25)).1 p k = ρ3.1 p k := fun p k y1 y2 => by
          rw [pf_1, if_neg y2, pf_1, if_neg y1]
        have hrw : (pf (pf ρ3 16 4 (-1)) 15 21 (ρ3.1 16 25)).2 = ρ3.2 := rfl
        rw [e2', show Int.toNat ((15 : Nat) : Int) = 15 from rfl]
        refine ⟨Or.inr rfl, ?_⟩
        generalize pf (pf ρ3 16 4 (-1)) 15 21 (ρ3.1 16 25) = ρ4 at *
        have hF1 : KFn 262144 16384 15 ρ4 g' b := hF.dep (Or.inr rfl) (hF.1.dep (Or.inr rfl) (fun p k y => hfl p k (by omega) (by omega)) (fun r _ => by rw [hrw])) kle.refl rfl (fun p k _ y1 y2 => hfl p k y1 y2) (fun r _ _ _ _ => by rw [hrw])
        have hRn : aR b = none := b3.1.2.2.1
        have hpd : PDx L 15 b := b3.pdx hc hnds (Nat.le_refl _) l8
        have hlb : (aL b).length = (aL a).length := b3.len
        have hfn : ∀ s ∈ fnL b, s ∈ gB g' := by
          unfold fnL
          rw [hRn, hgB, hlb, pfN_ext (el := aL a) (aL a).length (fun e he => (b3.getN he).1)]
          intro s hs
          exact hw.2.2.2 s hs
        obtain ⟨kc1, kc2⟩ := kcL_in hfn
        have hpl : (gP g').length ≤ 262144 := by have := hC.1; omega
        refine sp_K_finish hL hF1 hpd (by omega) (fun k hk => ?_) (by have := b3.2.2.2.2.2.1.2; omega) kc1 b3.gs (fun z => by rw [hRn] at z; cases z) (fun s z => by rw [hRn] at z; cases z) (fun τ v q1 q2 q3 q4 q5 => ⟨rfl, fun hFe => ?_⟩)
        · rw [hrw]
          by_cases c5 : k = 5
          · rw [c5]; exact hnu.2.1
          · dsimp only
            rw [if_neg c5]
            exact hnu.2.2.2.2.2.2 k (by omega)
        · rw [kc2, hgB, hgC'] at q1
          obtain ⟨⟨z1, z2, z3, z4, z5, z6⟩, -, -, -, -, y1, y2, y3⟩ := q1
          exact hq τ b (gP g') hFe ⟨z1, z2⟩ ⟨hL.low, ⟨z1, z2⟩, y1, y2, hpd.1, hpd.2.1, hpd.2.2.1, hpd.2.2.2.1, by omega, z4.2⟩ y3 b3 b4 z3.1 z3.2.2.1
end Kst
section Ksu
variable {L : Nat → Nat} {rm nd : Nat} {σ τ υ : IS} {a b : AS} {d : DOC} {Q : Int → IS → Prop} {bk : List Str} {pl : List Int}
/-- what STEADY of the reference keeps -/
def STk (σ τ : IS) : Prop := (∀ p k, p < 100 → p ≠ 13 → p ≠ 15 → p ≠ 16 → p ≠ 17 → ¬ (p = 12 ∧ k = 11) → τ.1 p k = σ.1 p k) ∧ τ.1 15 22 = σ.1 15 22 ∧ τ.1 12 11 = 0 ∧ ∀ r, 100 ≤ r → ¬ (166 ≤ r ∧ r ≤ 215) → ¬ (230 ≤ r ∧ r ≤ 243) → ¬ (245 ≤ r ∧ r ≤ 247) → τ.2 r = σ.2 r
theorem rfs_0 (h : rfs d = 0) : ∃ a, d = .inr a ∧ (¬ ∃ k, k < 6 ∧ 0 < cnS a k) ∧ bz (cnW a) ≤ 262144 := by
  unfold rfs anW at h
  cases d with
  | inl fp => cases h
  | inr a =>
    dsimp only at h
    by_cases c0 : ∃ k, k < 6 ∧ 0 < cnS a k
    · rw [if_pos c0] at h; cases h
    · rw [if_neg c0] at h
      by_cases c1 : 0 < aN a 1 ∨ rlv (dvA (aL a) (aB a) (aL a).length) = true
      · rw [if_pos c1] at h; cases h
      · rw [if_neg c1] at h
        by_cases c2 : ((cnW a).flatMap u8b).length ≤ 262144
        · exact ⟨a, rfl, c0, c2⟩
        · rw [if_neg c2] at h; cases h
set_option maxHeartbeats 1000000 in
/-- STEADY of the reference: what is written is a document that means the same -/
theorem sp_K_steady (hLn : KLn L 14 rm nd) (hL5 : KLn L 15 262144 16384) (hLw : KLw L) (hnd : nd ≤ 16384) (h : KDc σ d) (hg : DGd rm nd d) (h22 : σ.1 15 22 ≠ 0) (hq : ∀ τ, KDc τ d → STk σ τ → Q 1 τ) : w_K_steady L Q σ := by
  have h0 : KDc (pf σ 12 11 0) d := h.up (fun p k z => by rw [pf_1, if_neg z]) rfl
  unfold w_K_steady
  refine sp_K_refusal hLn hLw h0 hg (fun τ t1 => ?_)
  have hS0 : STk σ τ := ⟨fun p k _ _ _ _ y1 y2 => (t1.1 p k y1).trans (by rw [pf_1, if_neg y2]), (t1.1 15 22 (by decide)).trans (pf_no (by decide)), (t1.1 12 11 (by decide)).trans pf_eq, fun r _ _ _ y => t1.2 r y⟩
  have hd1 : KDc τ d := t1.dc h0
  by_cases cz : rfs d = 0
  · rw [if_pos cz]
    obtain ⟨a, rfl, c0, cb⟩ := rfs_0 cz
    have hga := hg a rfl
    obtain ⟨gG, gX, gY, gU, g6, gK⟩ := hga
    obtain ⟨hd12, bk, pl, hKk⟩ := hd1
    have hKk : KDk τ bk pl a := hKk
    have hlen : (cnW a).length ≤ 262144 := Nat.le_trans (bz_ge _) cb
    unfold w_KWriter_writeTo w_KReader_beginLetters
    have hf1 : ∀ p k, p ≠ 17 → ¬ (p = 16 ∧ k = 6) → (pf (pf (pf (pf τ 17 1 ((14 : Nat) : Int)) 17 3 1) 17 2 ((16 : Nat) : Int)) 16 6 0).1 p k = τ.1 p k := fun p k y1 y2 => by
      rw [pf_1, if_neg y2, pf_no y1, pf_no y1, pf_no y1]
    have e1 : (pf (pf (pf (pf τ 17 1 ((14 : Nat) : Int)) 17 3 1) 17 2 ((16 : Nat) : Int)) 16 6 0).1 17 1 = ((14 : Nat) : Int) := by rw [pf_no (by decide), pf_nk (by decide), pf_nk (by decide), pf_eq]
    have e2 : (pf (pf (pf (pf τ 17 1 ((14 : Nat) : Int)) 17 3 1) 17 2 ((16 : Nat) : Int)) 16 6 0).1 17 2 = 16 := by rw [pf_no (by decide), pf_eq]; rfl
    have e3 : (pf (pf (pf (pf τ 17 1 ((14 : Nat) : Int)) 17 3 1) 17 2 ((16 : Nat) : Int)) 16 6 0).1 17 3 = 1 := by rw [pf_no (by decide), pf_nk (by decide), pf_eq]
    have e6 : (pf (pf (pf (pf τ 17 1 ((14 : Nat) : Int)) 17 3 1) 17 2 ((16 : Nat) : Int)) 16 6 0).1 16 6 = 0 := pf_eq
    have er : (pf (pf (pf (pf τ 17 1 ((14 : Nat) : Int)) 17 3 1) 17 2 ((16 : Nat) : Int)) 16 6 0).2 = τ.2 := rfl
    generalize pf (pf (pf (pf τ 17 1 ((14 : Nat) : Int)) 17 3 1) 17 2 ((16 : Nat) : Int)) 16 6 0 = τ1 at *
    have hK1 : KDk τ1 bk pl a := hKk.dep (hKk.1.dep ⟨hf1 13 1 (by decide) (by decide), hf1 13 6 (by decide) (by decide)⟩ (fun r _ _ => by rw [er])) (fun k => hf1 14 k (by decide) (by omega)) (fun r _ _ => by rw [er])
    obtain ⟨hD, hS, hKN⟩ := hK1.kd hLn gG
    refine sp_K_write (l := []) (o := 14) hLw.1 hLw.2.1 hLw.2.2 e1 hD hS gK (WDo_of gG gX c0) ⟨by omega, by omega, fun _ => e2⟩ (fun _ => e6) (fun z => by omega) (fun z => by omega) (fun υ u1 u2 => ?_)
    have hK2 : KDk υ bk pl a := hK1.dep (u1.bkk hK1.1) (fun k => u1.fo (Or.inl rfl)) (fun r y1 y2 => u1.2.2 r (by omega) (by omega) (by omega))
    have m3 : υ.1 17 3 = 1 := (u1.2.1 3 (by omega)).trans e3
    obtain ⟨u6, ur⟩ := u2.2.2.2.1 m3 cb
    have h15 : υ.1 15 22 = σ.1 15 22 := by rw [u1.1 15 22 (by decide) (by omega), hf1 15 22 (by decide) (by omega)]; exact hS0.2.1
    refine sp_K_read15 hL5 (by rw [h15]; exact h22) hnd gG gX gY c0 gK hK2.1 hKN hlen u6 ur (fun υ1 b pl' v1 v2 v3 v4 v5 v6 v7 v8 => WJ_dir (WJ_dir ?_))
    rw [if_neg (by decide)]
    have hK3 : KDk υ1 bk pl a := hK2.dep v2 (fun k => v1.1 14 k (by decide) (by decide) (by decide) (by decide)) (fun r y1 y2 => v1.2.2 r (by omega) (by omega) (by omega))
    unfold w_KWriter_isBeside
    have hf2 : ∀ p k, p ≠ 17 → (pf (pf (pf υ1 17 1 ((15 : Nat) : Int)) 17 3 2) 17 2 ((16 : Nat) : Int)).1 p k = υ1.1 p k := fun p k y1 => by
      rw [pf_no y1, pf_no y1, pf_no y1]
    have x1 : (pf (pf (pf υ1 17 1 ((15 : Nat) : Int)) 17 3 2) 17 2 ((16 : Nat) : Int)).1 17 1 = ((15 : Nat) : Int) := by rw [pf_nk (by decide), pf_nk (by decide), pf_eq]
    have x2 : (pf (pf (pf υ1 17 1 ((15 : Nat) : Int)) 17 3 2) 17 2 ((16 : Nat) : Int)).1 17 2 = 16 := by rw [pf_eq]; rfl
    have x3 : (pf (pf (pf υ1 17 1 ((15 : Nat) : Int)) 17 3 2) 17 2 ((16 : Nat) : Int)).1 17 3 = 2 := by rw [pf_nk (by decide), pf_eq]
    have xr : (pf (pf (pf υ1 17 1 ((15 : Nat) : Int)) 17 3 2) 17 2 ((16 : Nat) : Int)).2 = υ1.2 := rfl
    generalize pf (pf (pf υ1 17 1 ((15 : Nat) : Int)) 17 3 2) 17 2 ((16 : Nat) : Int) = υ2 at *
    have hb2 : KBk υ2 bk := v2.dep ⟨hf2 13 1 (by decide), hf2 13 6 (by decide)⟩ (fun r _ _ => by rw [xr])
    have hD2 : KD4 L 15 υ2 bk pl' (aA b) (aL b) (aB b) := by
      obtain ⟨h1, h2, h3, h4, h5, h6, h7, h8, h9, h10⟩ := v3
      exact ⟨h1, hb2, h3.dep kle.refl (hf2 15 7 (by decide)) (fun k _ _ => by rw [xr]), h4.dep kle.refl cle.refl (hf2 15 14 (by decide)) (fun k _ _ => by rw [xr]), h5, h6, h7, h8, h9, fun i hi => by rw [xr]; exact h10 i hi⟩
    have hS2 : KSt 15 υ2 bk pl' (aS b) (aL b).length := v4.dep kle.refl (fun k _ => hf2 15 k (by decide)) (by rw [xr])
    have hc := RTc_of gG gX c0
    have hkb : (kNs (aS b)).1 ≤ 119990 := by
      obtain ⟨dd, d1, d2⟩ := v5.2.2.2.1
      rw [List.append_nil] at d1
      rw [d2, kNs_evm, ← d1]
      exact gK
    have hWb : wrS (aL b) (aB b) (aS b) [] 0 = cnW a := v6
    refine sp_K_write (l := cnW a) (o := 15) hLw.1 hLw.2.1 hLw.2.2 x1 hD2 hS2 hkb (WDo_b hc v5 (fun e he => nm3_all c0 he) (WDo_of gG gX c0).2.2.1) ⟨by omega, by omega, fun _ => x2⟩ (fun z => by omega) (fun _ => ⟨by rw [hf2 16 6 (by decide)]; exact v7, hlen, fun i hi => by rw [xr]; exact v8 i hi⟩) (fun _ => by rw [hWb]; omega) (fun υ3 w1 w2 => WJ_dir (WJ_dir ?_))
    have m32 : υ3.1 17 3 = 2 := (w1.2.1 3 (by omega)).trans x3
    rw [hWb] at w2
    obtain ⟨⟨y1, -, -⟩, y2, -, y4⟩ := w2.2.2.2.2 m32
    have y5 : υ3.1 17 5 = 0 := y4.mpr (List.prefix_refl _)
    rw [if_pos y5]
    unfold w_KReader_letters
    dsimp only
    rw [if_pos (y2.trans y1.symm)]
    refine ⟨Or.inr rfl, ?_⟩
    rw [if_neg (by decide)]
    have hK4 : KDk υ3 bk pl a := hK3.dep (w1.bkk hb2) (fun k => by rw [w1.1 14 k (by decide) (by omega)]; exact hf2 14 k (by decide)) (fun r z1 z2 => by rw [w1.2.2 r (by omega) (by omega) (by omega), xr])
    have hfo : ∀ p k, p < 100 → p ≠ 13 → p ≠ 15 → p ≠ 16 → p ≠ 17 → υ3.1 p k = τ.1 p k := fun p k z0 z1 z2 z3 z4 => by
      rw [w1.1 p k z4 (by omega), hf2 p k z4, v1.1 p k z0 z1 z2 z3, u1.1 p k z4 (by omega), hf1 p k z4 (by omega)]
    refine ⟨Or.inr rfl, hq υ3 ⟨⟨?_, ?_, ?_⟩, bk, pl, hK4⟩ ⟨fun p k z0 z1 z2 z3 z4 z5 => (hfo p k z0 z1 z2 z3 z4).trans (hS0.1 p k z0 z1 z2 z3 z4 z5), ?_, (hfo 12 11 (by decide) (by decide) (by decide) (by decide) (by decide)).trans hS0.2.2.1, fun r z0 z1 z2 z3 => ?_⟩⟩
    · rw [hfo 12 6 (by decide) (by decide) (by decide) (by decide) (by decide)]; exact hd12.1
    · rw [hfo 12 12 (by decide) (by decide) (by decide) (by decide) (by decide)]; exact hd12.2.1
    · rw [hfo 12 13 (by decide) (by decide) (by decide) (by decide) (by decide)]; exact hd12.2.2
    · rw [w1.1 15 22 (by decide) (by omega), hf2 15 22 (by decide), v1.2.1]; exact h15
    · rw [w1.2.2 r (by omega) (by omega) z3, xr, v1.2.2 r z0 z1 z2, u1.2.2 r (by omega) (by omega) z3, er]
      exact hS0.2.2.2 r z0 z1 z2 z3
  · rw [if_neg cz]
    exact hq τ hd1 hS0
end Ksu
