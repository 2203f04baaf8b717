/-! ===== items of the class: sections, instructions ===== -/
section JI3
variable {L : Nat → Nat} {rm nd : Nat} {σ τ : IS} {a : AS} {Q : IS → Prop}
theorem sp_Reader_readSection {e p : Nat} (hS : JS L σ e) (h2 : σ.1 2 2 = (p : Int)) (hm : mt (σ.2 101) e p [60, 33, 91, 67, 68, 65, 84, 65, 91] = true)
    (h1 : ∀ j, sek (σ.2 101) e [93, 93, 62] (p + 9) = some j → Q (pf (pf (pf σ 2 10 ((p + 9 : Nat) : Int)) 2 11 ((j : Int) - ((p + 9 : Nat) : Int))) 2 2 ((j + 3 : Nat) : Int)))
    (h0 : sek (σ.2 101) e [93, 93, 62] (p + 9) = none → ∀ τ, jst e 0 σ none τ → Q τ) : w_Reader_readSection L Q σ := by
  have he : e < 1000000 := by have := hS.2.1; have := hS.2.2.1; omega
  have hp9 : p + 9 ≤ e := wd_bad (l := [60, 33, 91, 67, 68, 65, 84, 65, 91]) ti_1056 (by decide) hm
  unfold w_Reader_readSection
  have hσ : σ = pf σ 2 2 (p : Int) := (pf_self h2).symm
  refine sp_Reader_need (hS.jt (show p ≤ e by omega) hσ) ti_1056 (by decide) (fun _ => ?_) (fun c => by rw [hm] at c; cases c)
  rw [show p + [(60 : Int), 33, 91, 67, 68, 65, 84, 65, 91].length = p + 9 from rfl, pf_eq]
  have hS1 : JS L (pf σ 2 10 ((p + 9 : Nat) : Int)) e := hS.fld (by omega) (by omega)
  have hj1 : jsw e 0 (pf σ 2 10 ((p + 9 : Nat) : Int)) (some (p + 9)) (pf (pf σ 2 2 ((p + 9 : Nat) : Int)) 2 10 ((p + 9 : Nat) : Int)) := jsw.some hp9 (by rw [pf_comm (by omega)])
  refine w_seek hS1 (by omega) ti_1057 (by decide) hj1 (fun τ1 ht1 => ?_)
  have h10 : τ1.1 2 10 = ((p + 9 : Nat) : Int) := by rw [ht1.2 10 (by omega) (by omega), pf_eq]
  rw [h10]
  have hrow : (pf σ 2 10 ((p + 9 : Nat) : Int)).2 = σ.2 := rfl
  rw [hrow, Option.bind_some] at ht1
  cases hs : sek (σ.2 101) e [93, 93, 62] (p + 9) with
  | some j =>
    rw [hs] at ht1
    have hsl := sek_lt hs
    have hτ1 : τ1 = pf (pf σ 2 10 ((p + 9 : Nat) : Int)) 2 2 (j : Int) := ht1.1.2
    have e2 : τ1.1 2 2 = (j : Int) := by rw [hτ1, pf_eq]
    rw [e2]
    refine ⟨⟨by omega, by omega⟩, ?_⟩
    have hst : pf τ1 2 11 ((j : Int) - ((p + 9 : Nat) : Int)) = pf (pf (pf σ 2 10 ((p + 9 : Nat) : Int)) 2 11 ((j : Int) - ((p + 9 : Nat) : Int))) 2 2 (j : Int) := by rw [hτ1, pf_comm (by omega)]
    have hS2 : JS L (pf (pf σ 2 10 ((p + 9 : Nat) : Int)) 2 11 ((j : Int) - ((p + 9 : Nat) : Int))) e := hS1.fld (by omega) (by omega)
    refine sp_Reader_need (hS2.jt (show j ≤ e by omega) hst) ti_1057 (by decide) (fun _ => ?_) (fun c => ?_)
    · rw [hst, pf_pf, show j + [(93 : Int), 93, 62].length = j + 3 from rfl]
      exact h1 j hs
    · exfalso
      rw [hst] at c
      have c' : mt (σ.2 101) e j [93, 93, 62] = false := c
      rw [hsl.2.2] at c'
      cases c'
  | none =>
    rw [hs] at ht1
    obtain ⟨q, hq, hqk⟩ := ht1.1.1.2.2.1
    rw [hq]
    refine ⟨⟨by omega, by omega⟩, ?_⟩
    have hb : jst e 0 (pf σ 2 10 ((p + 9 : Nat) : Int)) none (pf τ1 2 11 ((q : Int) - ((p + 9 : Nat) : Int))) := ⟨ht1.1.1.fld (by omega) (by omega), by rw [pf_nk (by decide)]; exact ht1.1.2⟩
    exact j_need hS1 (by omega) ti_1057 (by decide) hb (fun τ2 ht2 => h0 hs τ2 ((jst.base (by omega)).mp ht2))
theorem RJ.badj {e : Nat} (h : RJ L rm nd σ a) (hj : jst e 0 σ none τ) : JBd L rm nd τ 5 (σ.1 2 5) ∧ (∀ o k, o ≠ 2 → τ.1 o k = σ.1 o k) ∧ τ.2 = σ.2 := by
  refine ⟨h.bad ⟨σ.1 1 13, by rw [pf_self rfl]; exact hj⟩, fun o k ho => hj.1.2.1 o k (by omega), hj.1.1⟩
theorem JTs.same {n : Nat} (h : JTs L nd n σ) (hf : ∀ k, τ.1 6 k = σ.1 6 k) : JTs L nd n τ := by
  unfold JTs at h ⊢
  rw [hf, hf, hf, hf]
  exact h
set_option maxHeartbeats 1000000 in
theorem jI_sec (hln : JLn L rm nd) (h : RJ L rm nd σ a) (hG : GA rm nd a) (hC : JC L σ a) (hm : mt (gd (cur a)) (cur a).length 0 [60, 33, 91, 67, 68, 65, 84, 65, 91] = true) (hq : JO L rm nd σ Q (iSec a)) : w_Content_readSection L Q σ := by
  obtain ⟨p, g, t, hF, hp, hS, hT, htp, hj⟩ := h.at hln
  have hts := h.ts hln hG
  obtain ⟨gO, -, ⟨r1, r2, r3, r4⟩, ⟨c1, c2, c3, c4, c5, c6⟩, ⟨b1, b2⟩, -, ho, -⟩ := hG
  have hrm := hln.2.1
  have hjl := h.1.1.jtp_le
  have h9 : L 101 < 1000000 := hln.1.2.2.2.2.2.2.2
  have hremc : (cur a).length ≤ rem a := by
    unfold rem
    rw [hF]
    simp only [List.map_cons, List.sum_cons]
    omega
  have hm' : mt (σ.2 101) (p + (cur a).length) p [60, 33, 91, 67, 68, 65, 84, 65, 91] = true := by
    have := sh_mt hT [60, 33, 91, 67, 68, 65, 84, 65, 91] 0
    rw [show p + 0 = p by omega] at this
    rw [this]; exact hm
  have hsk := sh_sek hT (l := [93, 93, 62]) 9
  have hid : iSec a = match sek (gd (cur a)) (cur a).length [93, 93, 62] 9 with
    | none => .inl 5
    | some k => .inr (adv (chr (tch a true) (sl (gd (cur a)) 9 (k - 9))) (k + 3)) := rfl
  unfold w_Content_readSection
  refine sp_Reader_readSection hS hp hm' (fun j hjj => ?_) (fun hno τ hτ => ?_)
  · rw [hsk] at hjj
    obtain ⟨k, hk, hjk⟩ := mvo_eq_some.mp hjj
    subst hjk
    have hkl := sek_lt hk
    obtain ⟨k3, -, -, -⟩ := mt3.mp hkl.2.2
    rw [hk] at hid
    dsimp only at hid
    have hz1 : ((p + k : Nat) : Int) - ((p + 9 : Nat) : Int) = ((k - 9 : Nat) : Int) := by omega
    rw [hz1]
    generalize hτ : pf (pf (pf σ 2 10 ((p + 9 : Nat) : Int)) 2 11 ((k - 9 : Nat) : Int)) 2 2 ((p + k + 3 : Nat) : Int) = τ
    have hτ10 : τ.1 2 10 = ((p + 9 : Nat) : Int) := by rw [← hτ, pf_nk (by decide), pf_nk (by decide), pf_eq]
    have hτ11 : τ.1 2 11 = ((k - 9 : Nat) : Int) := by rw [← hτ, pf_nk (by decide), pf_eq]
    have hτr : τ.2 = σ.2 := by rw [← hτ]; rfl
    obtain ⟨hR, hg1⟩ := h.go (τ := τ) hln (show k + 3 ≤ (cur a).length by omega) (fun o j h1 h2 => by rw [← hτ, pf_1, if_neg (by omega), pf_1, if_neg (by omega), pf_1, if_neg (by omega)]) hτr (by rw [← hτ, pf_eq, hp]; omega) (by rw [← hτ]; exact ((h.1.2.2.2.2.2.1.fld (by omega)).fld (by omega)).low (by decide))
    have hτf : ∀ o j, o ≠ 2 → τ.1 o j = σ.1 o j := fun o j ho' => by rw [← hτ, pf_no ho', pf_no ho', pf_no ho']
    have hτ5 : τ.1 2 5 = σ.1 2 5 := by rw [← hτ, pf_nk (by decide), pf_nk (by decide), pf_nk (by decide)]
    rw [adv_of hF] at hR
    generalize hX : ((cur a).drop (k + 3), g) :: t = X at *
    have hoX : och (aL (sF a X)) (aO (sF a X)) := ho
    refine sp_note hln hR hoX (show (aL a).length ≤ nd by omega) (Or.inr ⟨Or.inr rfl, rfl⟩) (fun ρ0 hR0 hf0 hr0 => ?_)
    have hll : (sl (gd (cur a)) 9 (k - 9)).length = k - 9 := sl_ln
    generalize hl : sl (gd (cur a)) 9 (k - 9) = l at *
    have hlg : ∀ i, i < k - 9 → l.take (i + 1) = l.take i ++ [gd (cur a) (9 + i)] := by
      intro i hi
      rw [List.take_succ, ← hl, sl_get hi]
      rfl
    rw [hf0, hτ10]
    refine WL_ind (fun s ρ => ∃ i : Nat, s = ((p + 9 + i : Nat) : Int) ∧ i ≤ k - 9 ∧ RJ L rm nd ρ (chr (tch (sF a X) true) (l.take i)) ∧ (∀ o j, o ≠ 6 → ρ.1 o j = τ.1 o j) ∧ ρ.2 101 = σ.2 101) (fun s _ => (((p + k : Nat) : Int) - s).toNat) ?_ _ ρ0 ⟨0, by simp, by omega, ?_, fun o j _ => hf0 o j, by rw [hr0 101 (by decide), hτr]⟩
    · rintro s ρ ⟨i, rfl, hik, hRi, hfi, hri⟩ K hI
      try dsimp only
      rw [hfi 2 10 (by decide), hfi 2 11 (by decide), hτ10, hτ11]
      refine ⟨⟨by omega, by omega⟩, ?_⟩
      have h4 : ρ.1 2 4 = 0 := hRi.2.2.2.2.2.2.2.2.2.2.2.1
      by_cases cc : i < k - 9
      · rw [if_pos ⟨by omega, h4⟩, show Int.toNat ((p + 9 + i : Nat) : Int) = p + (9 + i) by omega, hri, hT (9 + i) (by omega)]
        refine ⟨⟨by omega, by omega⟩, ?_⟩
        have hci : 0 ≤ gd (cur a) (9 + i) := by
          have := h.1.2.1 (p + (9 + i)) (by omega)
          rw [hT (9 + i) (by omega)] at this
          exact this.1
        have hSi : aS (chr (tch (sF a X) true) (l.take i)) = aS a ++ (l.take i).map (fun c => Sum.inl c) := by
          show aS (tch (sF a X) true) ++ _ = _
          rw [tch_other.2.2.2.2.2.2.2.2.1]
          rfl
        have hli : (l.take i).length = i := by rw [List.length_take, hll]; omega
        refine sp_addCharacter hln hRi (by rw [hSi, evl_app, evl_chr, hli]; omega) hci (ltr_le _) (fun ρ2 hR2 hf2 hr2 => ⟨⟨by omega, by omega⟩, hI _ _ ⟨i + 1, by omega, by omega, ?_, fun o j ho' => by rw [hf2 o j ho']; exact hfi o j ho', by rw [hr2 101 (by decide)]; exact hri⟩ (by omega)⟩)
        rw [chr_chr, ← hlg i cc] at hR2
        exact hR2
      · rw [if_neg (fun z => by omega)]
        have eik : i = k - 9 := by omega
        subst eik
        have hlt : l.take (k - 9) = l := by rw [List.take_of_length_le (by omega)]
        rw [hlt] at hRi
        have hfin : adv (chr (tch a true) l) (k + 3) = chr (tch (sF a X) true) l := by
          have hF2 : aF (chr (tch a true) l) = (cur a, g) :: t := by
            show aF (tch a true) = _
            rw [tch_other.1]; exact hF
          rw [adv_of hF2, hX, tch_sF]
          rfl
        rw [hfin] at hid
        have hst : jw ρ = jw σ ∧ jtp ρ = jtp σ ∧ ρ.1 1 2 = σ.1 1 2 ∧ ρ.1 4 16 = σ.1 4 16 ∧ ρ.1 2 5 = σ.1 2 5 := by
          unfold jw jtp
          rw [hfi 1 14 (by decide), hfi 1 3 (by decide), hfi 1 2 (by decide), hfi 4 16 (by decide), hfi 2 5 (by decide), hτf 1 14 (by decide), hτf 1 3 (by decide), hτf 1 2 (by decide), hτf 4 16 (by decide), hτ5]
          exact ⟨rfl, rfl, rfl, rfl, rfl⟩
        refine hq.2 _ hid ρ hRi ?_ hst.2.2.2.2
        have hc1 := hC.ad (τ := ρ) (show k + 3 ≤ (cur a).length by omega) hst.1 hst.2.1 hst.2.2.1 hst.2.2.2.1 (by rw [hfi 1 16 (by decide), hτf 1 16 (by decide)])
        rw [adv_of hF, hX] at hc1
        refine hc1.same rfl rfl rfl rfl ?_ ?_ ?_ ?_ ?_ ?_ ?_ ?_ rfl (Nat.le_of_eq (show aN (sF a X) 3 = aN (tch (sF a X) _) 3 by rw [tch_other.2.2.1]))
        · show aN (tch (sF a X) _) 0 = _; rw [tch_other.2.2.1]
        · show aN (tch (sF a X) _) 8 = _; rw [tch_other.2.2.1]
        · unfold rem
          show ((aF (tch (sF a X) _)).map _).sum = _
          rw [tch_other.1]
        · exact tch_len.2
        · show aB (tch (sF a X) _) = _; rw [tch_other.2.2.2.2.2.2.2.1]
        · show aA (tch (sF a X) _) = _; rw [tch_other.2.2.2.2.2.1]
        · show (aO (tch (sF a X) _)).length = _; rw [tch_other.2.2.2.2.2.2.2.2.2]
        · show aD (tch (sF a X) _) = _; rw [tch_other.2.2.2.2.1]
    · have e0 : chr (tch (sF a X) true) (l.take 0) = tch (sF a X) true := by
        rw [List.take_zero]
        unfold chr
        show sS (tch (sF a X) true) (aS (tch (sF a X) true) ++ []) = _
        rw [List.append_nil]
        rfl
      rw [e0]
      exact hR0
  · rw [hsk] at hno
    rw [mvo_eq_none.mp hno] at hid
    dsimp only at hid
    obtain ⟨hB, hf, hr⟩ := h.badj hτ
    refine sp_note_w hln hB (hts.same (fun k => hf 6 k (by decide))) (fun ρ0 hB0 _ hf0 _ => ?_)
    have hr10 := hτ.1.2.2.2 10 (by omega) (by omega)
    have hr11 := hτ.1.2.2.2 11 (by omega) (by omega)
    refine WL_ind (fun _ ρ => ρ = ρ0) (fun _ _ => 0) ?_ _ ρ0 rfl
    rintro s ρ rfl K hI
    try dsimp only
    rw [hf0]
    refine ⟨⟨by omega, by omega⟩, ?_⟩
    rw [if_neg (fun z => by have := hB.2.1; omega)]
    exact hq.1 5 hid _ hB0
end JI3
