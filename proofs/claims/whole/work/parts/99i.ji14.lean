/-! ===== items of the class: entity declarations, the item ===== -/
section JI14
variable {L : Nat → Nat} {rm nd : Nat} {σ τ : IS} {a : AS} {Q : IS → Prop}
set_option maxHeartbeats 2000000 in
theorem jI_ent (hln : JLn L rm nd) (h : RJ L rm nd σ a) (hG : GA rm nd a) (hC : JC L σ a) (hm : mt (gd (cur a)) (cur a).length 0 [60, 33, 69, 78, 84, 73, 84, 89] = true) (hq : JO L rm nd σ Q (iEnt a)) : w_Doctype_readEntity L Q σ := by
  obtain ⟨p, g, t, hF, hp, hS, hT, htp, hj⟩ := h.at hln
  have hjl := h.1.1.jtp_le
  have h9 : L 101 < 1000000 := hln.1.2.2.2.2.2.2.2
  have hcap := hC.cap hln hG
  have hrm := hln.2.1
  obtain ⟨gO, gw, ⟨r1, r2, r3, r4⟩, ⟨c1, c2, c3, c4, c5, c6⟩, ⟨b1', b2⟩, gp, ho, ⟨gf1, gf2⟩, g1, g2, g3, g4⟩ := id hG
  have hremc : (cur a).length ≤ rem a := by
    unfold rem
    rw [hF]
    simp only [List.map_cons, List.sum_cons]
    omega
  have h12 := h.1.2.2.2.2.2.2.2
  have hL101 : L 101 = 256 + (if rm < 65536 then rm else 65536) + rm := hln.2.2.1
  have hroom : jtp σ + (cur a).length ≤ L 101 := by
    obtain ⟨-, d2, -, -⟩ := hC
    have z1 := h12.1
    have z2 := h12.2.1
    split at hL101 <;> omega
  have hm' : mt (σ.2 101) (p + (cur a).length) p [60, 33, 69, 78, 84, 73, 84, 89] = true := by
    have := sh_mt hT [60, 33, 69, 78, 84, 73, 84, 89] 0
    rw [show p + 0 = p by omega] at this
    rw [this]; exact hm
  have hek := sh_enk hT 0
  have heF := sh_enF hT 0
  have heT := sh_enT hT 0
  have heP := sh_enP hT 0
  rw [show p + 0 = p by omega] at hek heF heT heP
  have hid : iEnt a = match enF (gd (cur a)) (cur a).length 0, enT (gd (cur a)) (cur a).length 0, enk (gd (cur a)) (cur a).length 0 with
    | some f, some t, some k => if isQt (lk (gd (cur a)) (cur a).length t) = false then .inl 3 else match nmg (gd (cur a)) (cur a).length true (some f), etx (gd (cur a)) (cur a).length (some t) with
      | some n, some m => match enx (cur a).length (sl (gd (cur a)) (t + 1) (m - 1 - (t + 1))) [] with
        | .inl g => .inl g
        | .inr tx => .inr (adv (sN (if (eno (aE a) (sl (gd (cur a)) f (n - f)) (enP (gd (cur a)) (cur a).length 0)).isSome = true then a else sE a (aE a ++ [(sl (gd (cur a)) f (n - f), enP (gd (cur a)) (cur a).length 0, tx)])) 2 (aN a 2 + (hasc (sl (gd (cur a)) f (n - f))).toNat)) k)
      | _, _ => .inl 5
    | _, _, _ => .inl 5 := rfl
  have hkT : ∀ k, enk (gd (cur a)) (cur a).length 0 = some k → ∃ f, enF (gd (cur a)) (cur a).length 0 = some f := by
    intro k hk
    cases hf : enF (gd (cur a)) (cur a).length 0 with
    | some f => exact ⟨f, rfl⟩
    | none =>
      exfalso
      have e1 : enT (gd (cur a)) (cur a).length 0 = none := by unfold enT; rw [hf]; rfl
      have e2 : enB (gd (cur a)) (cur a).length 0 = none := by unfold enB; rw [e1]
      unfold enk at hk
      rw [e2] at hk
      cases hk
  refine j_readEntity hS h.1.2.1 hm' hj (fun f' n' t' m' k' τ hf hn ht hqt het hk hτ h210 h211 => ?_) (fun t' k' τ ht hqt hk hτ => ?_) (fun hno τ hτ => ?_)
  · rw [heF] at hf
    obtain ⟨f, hf1, rfl⟩ := mvo_eq_some.mp hf
    rw [sh_nmgs hT] at hn
    obtain ⟨n, hn1, rfl⟩ := mvo_eq_some.mp hn
    rw [heT] at ht
    obtain ⟨tt, ht1, rfl⟩ := mvo_eq_some.mp ht
    rw [hek] at hk
    obtain ⟨k, hk1, rfl⟩ := mvo_eq_some.mp hk
    rw [sh_lk hT] at hqt
    have hets := het
    have hset := sh_etx hT (some tt)
    rw [mvo_some] at hset
    rw [hset] at het
    obtain ⟨m, hm1, rfl⟩ := mvo_eq_some.mp het
    rw [heP]
    rw [hf1, ht1, hk1] at hid
    dsimp only at hid
    rw [if_neg (by rw [hqt]; decide), hn1, hm1] at hid
    dsimp only at hid
    have hnl := nmg_lt hn1
    have hkl : k ≤ (cur a).length := by have := hτ.at.2; omega
    -- the literal
    have hq34 : lk (gd (cur a)) (cur a).length tt = 34 ∨ lk (gd (cur a)) (cur a).length tt = 39 := by simpa [isQt] using hqt
    have htl : tt < (cur a).length := by
      rcases hq34 with z | z
      · exact (lk_lt (by decide) z).1
      · exact (lk_lt (by decide) z).1
    have hets2 : etg (σ.2 101) (p + (cur a).length) (σ.2 101 (p + tt)) (p + (cur a).length + 1) (p + tt + 1) = some (p + m) := by
      have : (if isQt (lk (σ.2 101) (p + (cur a).length) (p + tt)) = true then etg (σ.2 101) (p + (cur a).length) (σ.2 101 (p + tt)) (p + (cur a).length + 1) (p + tt + 1) else none) = some (p + m) := hets
      rw [sh_lk hT, if_pos hqt] at this
      exact this
    have hqT : σ.2 101 (p + tt) = 34 ∨ σ.2 101 (p + tt) = 39 := by
      rw [hT tt htl]
      unfold lk at hq34
      rw [if_pos htl] at hq34
      exact hq34
    have hml := etg_ltl hqT _ _ _ hets2
    obtain ⟨hR, -⟩ := h.rd hln hp hkl hτ
    obtain ⟨s1, s2, s3, s4, s5⟩ := hτ.store
    rw [adv_of hF] at hR
    have hτ101 : τ.2 101 = σ.2 101 := by rw [hτ.row]
    have hstr : sl (τ.2 101) (p + f) (n - f) = sl (gd (cur a)) f (n - f) := by rw [hτ101]; exact sh_sl hT (by omega)
    have h6 : τ.1 2 6 = (aN a 2 : Int) := hR.2.2.2.2.2.2.2.2.2.2.2.2
    have hh : 0 ≤ hasc (sl (gd (cur a)) f (n - f)) ∧ hasc (sl (gd (cur a)) f (n - f)) ≤ 1 := by unfold hasc; split <;> omega
    have hmk : m ≤ k := by
      have hk2 : wd (gd (cur a)) (cur a).length [62] (asp (gd (cur a)) (cur a).length (enB (gd (cur a)) (cur a).length 0)) = some k := hk1
      have hB : enB (gd (cur a)) (cur a).length 0 = some m := by
        unfold enB
        rw [ht1]
        dsimp only
        rw [if_pos hqt]
        exact hm1
      rw [hB] at hk2
      have hk3 := wd1 (by decide) (show wd (gd (cur a)) (cur a).length [62] (some (sk isSp (gd (cur a)) (cur a).length m)) = some k from hk2)
      have : m ≤ sk isSp (gd (cur a)) (cur a).length m := sk_gt
      omega
    have hft : f < tt := by
      have hT2 : spc (gd (cur a)) (cur a).length (nmg (gd (cur a)) (cur a).length true (enF (gd (cur a)) (cur a).length 0)) = some tt := ht1
      rw [hf1, hn1] at hT2
      have := spc_gt hnl.2.2 hT2
      omega
    generalize hX : ((cur a).drop k, g) :: t = X at *
    refine sp_Reader_lookForColon (p + f) (n - f) rfl (by omega) (by omega) h9 (by rw [h6]; omega) ?_
    rw [hstr, h6, show (aN a 2 : Int) + hasc (sl (gd (cur a)) f (n - f)) = ((aN a 2 + (hasc (sl (gd (cur a)) f (n - f))).toNat : Nat) : Int) by omega]
    generalize hcl : aN a 2 + (hasc (sl (gd (cur a)) f (n - f))).toNat = cl at *
    obtain ⟨hR1, hg1⟩ := hR.col (n := cl) hln (by omega)
    have hjw1 : jw (pf τ 2 6 (cl : Int)) = jw σ := by unfold jw; rw [pf_no (by decide)]; exact s1
    have hjt1 : jtp (pf τ 2 6 (cl : Int)) = jtp σ := by unfold jtp; rw [pf_no (by decide)]; exact s2
    refine sp_int (s := p + f) (n := n - f) hln hR1 (by omega) (by omega) rfl (by omega) (fun x σ1 hR2 hg2 hJn hjw2 hjt2 hfr => ?_)
    have hstr2 : sl ((pf τ 2 6 (cl : Int)).2 101) (p + f) (n - f) = sl (gd (cur a)) f (n - f) := hstr
    rw [hstr2] at hJn
    have f10 : σ1.1 2 10 = ((p + tt + 1 : Nat) : Int) := by rw [hfr.1 2 10 (by omega), pf_nk (by decide), h210]; omega
    have f11 : σ1.1 2 11 = ((m - 1 - (tt + 1) : Nat) : Int) := by rw [hfr.1 2 11 (by omega), pf_nk (by decide), h211]; omega
    rw [f10, f11]
    have hσ101 : σ1.2 101 = σ.2 101 := by rw [hfr.2 101 (by omega), pf_2, hτ101]
    have h23 : σ1.1 2 3 = ((p + (cur a).length : Nat) : Int) := by rw [hfr.1 2 3 (by omega), pf_nk (by decide), hτ.keep (by omega) (by omega)]; exact hS.1
    have hlit : sl (σ1.2 101) (p + tt + 1) (m - 1 - (tt + 1)) = sl (gd (cur a)) (tt + 1) (m - 1 - (tt + 1)) := by
      rw [hσ101, show p + tt + 1 = p + (tt + 1) by omega]
      exact sh_sl hT (by omega)
    have hremX := rem_adv hkl
    rw [adv_of hF, hX] at hremX
    have hGO2 : ∀ f ∈ aF (sN (sF a X) 2 cl), f.2.1 ≤ (aE (sN (sF a X) 2 cl)).length := by
      show ∀ f ∈ X, f.2.1 ≤ (aE a).length
      rw [← hX]
      rw [hF] at gO
      intro f hf
      rcases List.mem_cons.mp hf with rfl | hf
      · exact gO.2 (cur a, g) List.mem_cons_self
      · exact gO.2 f (List.mem_cons_of_mem _ hf)
    have eE : aE (sN (sF a X) 2 cl) = aE a := rfl
    refine sp_declare (q := σ.2 101 (p + tt)) (e := p + (cur a).length) (M := (cur a).length) hln hR2 (show (aE a).length < rm / 14 + 2 by omega) hGO2 hJn h23 (by omega) (by omega) hqT (by rw [hσ101, hets2]; congr 1; omega) (by omega) (by omega) (fun tx σ2 hen hlx hR3 w1 w2 w3 w4 w5 w6 => ?_) (fun ff σ2 hen hB => ?_)
    · rw [hlit] at hen
      rw [hen] at hid
      dsimp only at hid
      have hst5 : σ2.1 2 5 = σ.1 2 5 := by rw [w5, hfr.1 2 5 (by omega), pf_nk (by decide)]; exact s5
      have h12φ : σ2.1 1 2 = σ.1 1 2 := by rw [w3, hfr.1 1 2 (by omega), pf_no (by decide)]; exact s3
      have h416 : σ2.1 4 16 = σ.1 4 16 := by rw [w4, hfr.1 4 16 (by omega), pf_no (by decide)]; exact s4
      have hJC : ∀ a', rem a' = rem (sF a X) → aN a' 0 = aN a 0 → aN a' 8 = aN a 8 → aL a' = aL a → aB a' = aB a → aA a' = aA a → aO a' = aO a → aD a' = aD a → aN a' 3 = aN a 3 → JC L σ2 a' := by
        intro a' z1 z2 z3 z4 z5 z6 z7 z8 z9
        obtain ⟨d1, d2, d3, d4, d5⟩ := hC
        unfold JC
        rw [z1, z2, z3, rsv_eq (a := a) (by rw [z4]) z5 z6 z8, z7, h12φ, h416]
        refine ⟨?_, by omega, by omega, by omega, ?_⟩
        · omega
        · rw [z9, w6, hfr.1 1 16 (by omega), pf_no (by decide), hτ.keep (by omega) (by omega)]; exact d5
      cases hkn : eno (aE a) (sl (gd (cur a)) f (n - f)) (enP (gd (cur a)) (cur a).length 0) with
      | some i =>
        rw [eE, hkn] at hR3
        rw [hkn] at hid
        have hid2 : iEnt a = .inr (adv (sN a 2 cl) k) := hid
        have hR4 : RJ L rm nd σ2 (sN (sF a X) 2 cl) := hR3
        have hF3 : aF (sN a 2 cl) = (cur a, g) :: t := hF
        rw [adv_of hF3, hX] at hid2
        exact hq.2 _ hid2 σ2 hR4 (hJC _ rfl rfl rfl rfl rfl rfl rfl rfl rfl) hst5
      | none =>
        rw [eE, hkn] at hR3
        rw [hkn] at hid
        have hid2 : iEnt a = .inr (adv (sN (sE a (aE a ++ [(sl (gd (cur a)) f (n - f), enP (gd (cur a)) (cur a).length 0, tx)])) 2 cl) k) := hid
        have hR4 : RJ L rm nd σ2 (sE (sN (sF a X) 2 cl) (aE a ++ [(sl (gd (cur a)) f (n - f), enP (gd (cur a)) (cur a).length 0, tx)])) := hR3
        have hF3 : aF (sN (sE a (aE a ++ [(sl (gd (cur a)) f (n - f), enP (gd (cur a)) (cur a).length 0, tx)])) 2 cl) = (cur a, g) :: t := hF
        rw [adv_of hF3, hX] at hid2
        exact hq.2 _ hid2 σ2 hR4 (hJC _ rfl rfl rfl rfl rfl rfl rfl rfl rfl) hst5
    · rw [hlit] at hen
      rw [hen] at hid
      dsimp only at hid
      have hst5 : σ1.1 2 5 = σ.1 2 5 := by rw [hfr.1 2 5 (by omega), pf_nk (by decide)]; exact s5
      rw [hst5] at hB
      exact hq.1 ff hid σ2 hB
  · rw [heT] at ht
    obtain ⟨tt, ht1, rfl⟩ := mvo_eq_some.mp ht
    rw [hek] at hk
    obtain ⟨k, hk1, rfl⟩ := mvo_eq_some.mp hk
    rw [sh_lk hT] at hqt
    obtain ⟨f, hf1⟩ := hkT k hk1
    rw [hf1, ht1, hk1] at hid
    dsimp only at hid
    rw [if_pos hqt] at hid
    have hkl : k ≤ (cur a).length := by have := hτ.at.2; omega
    obtain ⟨hR, -⟩ := h.rd hln hp hkl hτ
    have hB0 := hR.ft (n := 3) (by decide)
    rw [flt_val hR.2.2.2.2.2.2.2.2.2.2.2.1, hτ.store.2.2.2.2] at hB0
    exact hq.1 3 hid _ hB0
  · rw [hek] at hno
    have hk0 := mvo_eq_none.mp hno
    rw [hk0] at hid
    have hid' : iEnt a = .inl 5 := by
      rw [hid]
      cases enF (gd (cur a)) (cur a).length 0 <;> cases enT (gd (cur a)) (cur a).length 0 <;> rfl
    exact hq.1 5 hid' τ (h.bad hτ)
end JI14
