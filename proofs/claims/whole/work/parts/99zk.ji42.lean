/-! ===== items of the class: tags (11): the item ===== -/
section JI42
variable {L : Nat → Nat} {rm nd : Nat} {ρ σ τ : IS} {a : AS} {Q : IS → Prop}
set_option maxHeartbeats 8000000 in
set_option maxRecDepth 10000 in
theorem j_readTag1 {k : Nat} (hln : JLn L rm nd) (h : RJ L rm nd σ a) (hG : GA rm nd a) (hGc : GC a) (hC : JC L σ a) (hm : mt (gd (cur a)) (cur a).length 0 [60] = true) (hk : tgk (gd (cur a)) (cur a).length 0 = some k) (h4 : aN a 4 ≠ 1) (hq : JO L rm nd σ Q (iTag rm nd a)) : w_Content_readTag L 1 Q σ := by
  obtain ⟨p, g, t, hF, hp, hS, hT, htp, hj⟩ := h.at hln
  have hjl := h.1.1.jtp_le
  have h9 : L 101 < 1000000 := hln.1.2.2.2.2.2.2.2
  have hcap := hC.cap hln hG
  have hrm := hln.2.1
  have h102 := hln.2.2.2.1
  obtain ⟨gO, gw, ⟨r1, r2, r3, r4⟩, ⟨c1, c2, c3, c4, c5, c6⟩, ⟨b1', b2⟩, gp, ho, ⟨gf1, gf2⟩, g1, g2, g3, g4⟩ := id hG
  have hremc : (cur a).length ≤ rem a := by
    unfold rem
    rw [hF]
    simp only [List.map_cons, List.sum_cons]
    omega
  have h12 := h.1.2.2.2.2.2.2.2
  have hL101 : L 101 = 256 + (if rm < 65536 then rm else 65536) + rm := hln.2.2.1
  have hN8 : aN a 8 ≤ (if rm < 65536 then rm else 65536) := by split <;> omega
  have hm' : mt (σ.2 101) (p + (cur a).length) p [60] = true := by
    have := sh_mt hT [60] 0
    rw [show p + 0 = p by omega] at this
    rw [this]; exact hm
  obtain ⟨d1, d2, d3, d4, d5⟩ := id hC
  have hid0 : iTag rm nd a = match tgk (gd (cur a)) (cur a).length 0, nmg (gd (cur a)) (cur a).length true (some 1) with
    | some k, some n => match gvs rm a (gd (cur a)) (sl (gd (cur a)) 1 (n - 1)) (atL (gd (cur a)) (cur a).length ((cur a).length + 1) n) (aN a 0) (aN a 1) [] with
      | .inl f => .inl f
      | .inr (c, m, gv) => if nd < aN a 3 + 1 + (gv ++ dfl (aA a) (sl (gd (cur a)) 1 (n - 1)) gv).length then .inl 4
        else .inr (if gd (cur a) (k - 2) = 47 then cls (nel a (sl (gd (cur a)) 1 (n - 1)) gv (gv ++ dfl (aA a) (sl (gd (cur a)) 1 (n - 1)) gv) k c m) else nel a (sl (gd (cur a)) 1 (n - 1)) gv (gv ++ dfl (aA a) (sl (gd (cur a)) 1 (n - 1)) gv) k c m)
    | _, _ => .inl 5 := rfl
  generalize hl : cur a = l at *
  have hk2 : wd (gd l) l.length [62] (skp (gd l) l.length [47] (asp (gd l) l.length ((nmg (gd l) l.length true (some 1)).bind (atk (gd l) l.length (l.length + 1))))) = some k := hk
  cases hn1 : nmg (gd l) l.length true (some 1) with
  | none => rw [hn1] at hk2; cases hk2
  | some n =>
    rw [hn1, Option.bind_some] at hk2
    rw [hk, hn1] at hid0
    dsimp only at hid0
    have hnl := nmg_lt hn1
    have hlast := nm_last hn1
    generalize hel : sl (gd l) 1 (n - 1) = nm at *
    generalize hRR : gvs rm a (gd l) nm (atL (gd l) l.length (l.length + 1) n) (aN a 0) (aN a 1) [] = R at *
    have hspn : (if spt nm = true then 4 else 0) ≤ n := by
      by_cases c : spt nm = true
      · rw [if_pos c]
        have := spt_len c
        rw [← hel, sl_len2] at this
        omega
      · rw [if_neg c]; omega
    have hes2 : evl (aS a) + 1 < rm := by omega
    have hll2 : l.length ≤ 200000 := by omega
    unfold w_Content_readTag
    refine j_tagBeg hln h hG hGc hC hF hp hS hT htp hj hm' hn1 hel hremc (fun xe s11 ρ16 hTJ0 => ?_)
    clear hC h hS hT htp hj hp hm hm' h12 hL101 hN8 hjl h9 hcap hrm h102 gO gw r1 r2 r3 r4 c1 c2 c3 c4 c5 c6 b1' b2 gp ho gf1 gf2 g1 g2 g3 g4 d1 d2 d3 d4 d5 hspn hGc hk hel hl
    obtain ⟨hJS0, hj0⟩ := hTJ0.js hln
    refine p_skipSpace hJS0 (by omega) hj0 (fun v18 ρ17 h17 _ hv18 => ?_)
    have hT0 := hTJ0.2.1.2.2.1
    have hv18' := hv18 (p + n) rfl
    rw [sh_sk hT0] at hv18'
    rw [sh_asps hT0] at h17
    have h17' : jp (p + l.length) 0 ρ16 (some (p + sk isSp (gd l) l.length n)) ρ17 := h17
    have hyn := sk_le (p := isSp) (T := gd l) hnl.2.2
    have hTJ1 := hTJ0.mv hln hF hyn.1 hyn.2 h17'
    refine WL_ind (fun s ρ => (∃ i c m acc, TJ L rm nd (σ.1 2 5) a l p nm xe s11 i (sk isSp (gd l) l.length i) c m acc ρ ∧ i ≤ l.length ∧ 1 ≤ i ∧ wd (gd l) l.length [62] (skp (gd l) l.length [47] (asp (gd l) l.length (atk (gd l) l.length (l.length + 1) i))) = some k ∧ gvs rm a (gd l) nm (atL (gd l) l.length (l.length + 1) i) c m acc = R ∧ gd l (i - 1) ≠ 47 ∧ s.1 = (if sk isSp (gd l) l.length i = i then 0 else 1) ∧ 0 ≤ s.2 ∧ s.2 ≤ (i : Int)) ∨ ∃ f, R = .inl f ∧ BR L rm nd 300001 f (σ.1 2 5) ρ) (fun s _ => (1000000 - s.2).toNat) ?_ (v18, 0) ρ17 (Or.inl ⟨n, aN a 0, aN a 1, [], hTJ1, hnl.2.2, by omega, hk2, hRR, hlast, by rw [hv18']; by_cases cz : sk isSp (gd l) l.length n = n; (· rw [if_pos cz, if_pos (by omega)]); (· rw [if_neg cz, if_neg (by omega)]), by dsimp only; omega, by dsimp only; omega⟩)
    rintro ⟨sv, cnt⟩ ρ hI K hK
    dsimp only at hI hK ⊢
    refine WJ_of (fun _ ρ1 => (∃ i c m acc, TJ L rm nd (σ.1 2 5) a l p nm xe s11 i (sk isSp (gd l) l.length i) c m acc ρ1 ∧ i ≤ l.length ∧ 1 ≤ i ∧ wd (gd l) l.length [62] (skp (gd l) l.length [47] (some (sk isSp (gd l) l.length i))) = some k ∧ R = .inr (c, m, acc) ∧ gd l (i - 1) ≠ 47) ∨ ∃ f, R = .inl f ∧ BR L rm nd 300001 f (σ.1 2 5) ρ1) (fun J hJ => ?_) ?_
    · rcases hI with ⟨i, c, m, acc, hTJ, hi, hi1, hwd, hgv, hla, hsv, hc0, hci⟩ | ⟨f, hRf, hB⟩
      · obtain ⟨hJS, hjs⟩ := hTJ.js hln
        obtain ⟨⟨n3, L', B', S', O', hRi, hTX⟩, ⟨h22, h23, hTρ, htρ, hJe⟩, hMK, ⟨u1, u2, u3, u4, u5⟩, ⟨k1, k2, k3, k4⟩, hpl, h16⟩ := id hTJ
        have hcn := cnt_ok hc0 hci hi hll2
        have hf0 : ρ.1 2 4 = 0 := hRi.2.2.2.2.2.2.2.2.2.2.2.1
        have hyl := sk_le (p := isSp) (T := gd l) hi
        generalize hy : sk isSp (gd l) l.length i = y at *
        rw [if_pos ⟨hcn.2.2.2.1, hf0⟩]
        have hst := atk_step (T := gd l) hi
        have hLs := atL_step (T := gd l) hi
        -- no name here: the end
        have hend : (∀ x, spc (gd l) l.length (some i) = some x → nmg (gd l) l.length true (some x) = none) → ((∃ i c m acc, TJ L rm nd (σ.1 2 5) a l p nm xe s11 i (sk isSp (gd l) l.length i) c m acc ρ ∧ i ≤ l.length ∧ 1 ≤ i ∧ wd (gd l) l.length [62] (skp (gd l) l.length [47] (some (sk isSp (gd l) l.length i))) = some k ∧ R = .inr (c, m, acc) ∧ gd l (i - 1) ≠ 47) ∨ ∃ f, R = .inl f ∧ BR L rm nd 300001 f (σ.1 2 5) ρ) := by
          intro hx
          have ha : atk (gd l) l.length (l.length + 1) i = some i ∧ atL (gd l) l.length (l.length + 1) i = [] := by
            rw [hst, hLs]
            cases hsp : spc (gd l) l.length (some i) with
            | none => exact ⟨rfl, rfl⟩
            | some x =>
              dsimp only
              rw [hx x hsp]
              exact ⟨rfl, rfl⟩
          rw [ha.1] at hwd
          rw [ha.2] at hgv
          have hwd2 : wd (gd l) l.length [62] (skp (gd l) l.length [47] (some (sk isSp (gd l) l.length i))) = some k := hwd
          have hgv2 : (Sum.inr (c, m, acc) : Nat ⊕ (Nat × Nat × List Att)) = R := hgv
          refine Or.inl ⟨i, c, m, acc, ?_, hi, hi1, hwd2, hgv2.symm, hla⟩
          rw [hy]
          exact hTJ
        refine p_at hJS (by omega) ti_1018 (by decide) hjs (fun v43 _ hv43 => ?_)
        rw [hv43 (p + y) rfl, if_b1, sh_mt hTρ]
        by_cases c62 : mt (gd l) l.length y [62] = true
        · rw [if_pos c62]
          have hlk : lk (gd l) l.length y = 62 := by rw [mt1] at c62; simpa using c62
          refine hJ _ _ (hend (fun x hx => ?_))
          have g5 := spc_gt hi hx
          show (if (if true = true then isSt (lk (gd l) l.length x) else isNm (lk (gd l) l.length x)) = true then some (sk isNm (gd l) l.length (x + 1)) else none) = none
          rw [if_pos rfl, g5.2.2, hy, hlk, if_neg (by decide)]
        · rw [if_neg c62]
          refine p_at hJS (by omega) ti_1020 (by decide) hjs (fun v46 _ hv46 => ?_)
          rw [hv46 (p + y) rfl, if_b1, sh_mt hTρ]
          by_cases c47 : mt (gd l) l.length y [47] = true
          · rw [if_pos c47]
            have hlk : lk (gd l) l.length y = 47 := by rw [mt1] at c47; simpa using c47
            refine hJ _ _ (hend (fun x hx => ?_))
            have g5 := spc_gt hi hx
            show (if (if true = true then isSt (lk (gd l) l.length x) else isNm (lk (gd l) l.length x)) = true then some (sk isNm (gd l) l.length (x + 1)) else none) = none
            rw [if_pos rfl, g5.2.2, hy, hlk, if_neg (by decide)]
          · rw [if_neg c47]
            have hno : atk (gd l) l.length (l.length + 1) i = some i → False := fun ha => by
              rw [ha] at hwd
              have hwd2 : wd (gd l) l.length [62] (if mt (gd l) l.length (sk isSp (gd l) l.length i) [47] = true then some (sk isSp (gd l) l.length i + 1) else some (sk isSp (gd l) l.length i)) = some k := hwd
              rw [hy, if_neg c47] at hwd2
              have hwd3 : (if mt (gd l) l.length y [62] = true then some (y + 1) else none) = some k := hwd2
              rw [if_neg c62] at hwd3
              cases hwd3
            cases hsp : spc (gd l) l.length (some i) with
            | none => rw [hsp] at hst; exact (hno hst).elim
            | some x =>
              have g5 := spc_gt hi hsp
              have hxy : x = y := by rw [g5.2.2, hy]
              rw [hxy] at hsp g5
              rw [hsp] at hst hLs
              dsimp only at hst hLs
              cases hnm : nmg (gd l) l.length true (some y) with
              | none => rw [hnm] at hst; exact (hno hst).elim
              | some b =>
                rw [hnm] at hst hLs
                dsimp only at hst hLs
                have g6 := nmg_lt hnm
                cases hev : eqs (gd l) l.length (some b) with
                | none => rw [hev] at hst; have hst2 : atk (gd l) l.length (l.length + 1) i = none := hst; rw [hst2] at hwd; cases hwd
                | some v =>
                  rw [hev] at hst hLs
                  dsimp only at hst hLs
                  have g7 := eqs_gt g6.2.2 hev
                  cases hvl : vlp (gd l) l.length (some v) with
                  | none => rw [hvl] at hst; dsimp only at hst; rw [hst] at hwd; cases hwd
                  | some j =>
                    rw [hvl] at hst hLs
                    dsimp only at hst hLs
                    have g8 := vlp_gt hvl
                    rw [hst] at hwd
                    rw [hLs] at hgv
                    refine WJ_dir ?_
                    dsimp only
                    rw [if_neg (by rw [hsv, if_neg (by omega)]; decide)]
                    have hgs : (if sl (gd l) y (b - y) ∈ acc.map (fun z => z.1) then (.inl 8 : Nat ⊕ (Nat × Nat × List Att)) else match val rm a (sl (gd l) (v + 1) (j - 1 - (v + 1))) c m with
                      | .inl f => .inl f
                      | .inr (c', m', o) => gvs rm a (gd l) nm (atL (gd l) l.length (l.length + 1) j) c' m' (acc ++ [(sl (gd l) y (b - y), nrt (match adf (aA a) nm (sl (gd l) y (b - y)) with
                        | none => 0
                        | some d => ((aA a).getD d ([], [], 0, 0, [], [])).2.2.1) o, adf (aA a) nm (sl (gd l) y (b - y)))])) = R := hgv
                    refine hTJ.att (KK := fun v73 σ72 => inR (cnt + 1) ∧ K (v73, (cnt + 1)) σ72) hln hG hF hremc g5.1 hnm hev hvl (fun hin v ρ' hB => ?_) (fun hin f hvf v ρ' hB => ?_) (fun hin c' m' out vl od ρ' hvo hod hvl3 hTJ2 => ?_)
                    · rw [if_pos hin] at hgs
                      exact ⟨⟨hcn.1, hcn.2.1⟩, hK _ _ (Or.inr ⟨8, hgs.symm, hB⟩) hcn.2.2.1⟩
                    · rw [if_neg hin, hvf] at hgs
                      exact ⟨⟨hcn.1, hcn.2.1⟩, hK _ _ (Or.inr ⟨f, hgs.symm, hB⟩) hcn.2.2.1⟩
                    · rw [if_neg hin, hvo] at hgs
                      dsimp only at hgs
                      have hx : (sl (gd l) y (b - y), nrt (match adf (aA a) nm (sl (gd l) y (b - y)) with
                        | none => 0
                        | some d => ((aA a).getD d ([], [], 0, 0, [], [])).2.2.1) out, adf (aA a) nm (sl (gd l) y (b - y))) = ((sl (gd l) y (b - y), vl, od) : Att) := by
                        rw [hvl3, hod]
                        rfl
                      rw [hx] at hgs
                      exact ⟨⟨hcn.1, hcn.2.1⟩, hK _ _ (Or.inl ⟨j, c', m', acc ++ [(sl (gd l) y (b - y), vl, od)], hTJ2, g8.2.1, Nat.lt_of_le_of_lt (Nat.zero_le _) g8.1, hwd, hgs, vl_last hvl, rfl, hcn.2.2.2.2, cnt_nx hci g5.1 g6.2.1 g7.1 g8.1⟩) hcn.2.2.1⟩
      · rw [if_neg (fun z => hB.ne z.2)]
        exact hJ _ _ (Or.inr ⟨f, hRf, hB⟩)
    · rintro _ ρ1 (⟨i, c, m, acc, hTJ, hi, hi1, hwd, hRe, hla⟩ | ⟨f, hRf, hB⟩)
      · rw [hRe] at hid0
        dsimp only at hid0
        refine j_tagX hln hG hF h4 hes2 hll2 hTJ hi hi1 hwd hla (fun hov ρ' hB => ?_) (fun hov a' ha' ρ' hR' hC' h5' => ?_)
        · rw [if_pos hov] at hid0
          exact hq.1 4 hid0 ρ' hB
        · rw [if_neg hov, ← ha'] at hid0
          exact hq.2 _ hid0 ρ' hR' hC' h5'
      · refine br_skip ti_1020 (by decide) hB (fun v28 ρ2 h2 => br_need ti_1018 (by decide) h2 (fun ρ3 h3 => WJ_dir ?_))
        dsimp only
        rw [if_neg (fun z => h3.ne z.2)]
        refine hq.1 f ?_ ρ3 h3.1
        rw [hid0, hRf]
/-- the item: read twice -/
theorem jI_tag (hln : JLn L rm nd) (h : RJ L rm nd σ a) (hG : GA rm nd a) (hGc : GC a) (hC : JC L σ a) (hm : mt (gd (cur a)) (cur a).length 0 [60] = true) (h4 : aN a 4 ≠ 1) (hq : JO L rm nd σ Q (iTag rm nd a)) : w_Content_readTag L 0 (fun σ26 => if (σ26.1 2 4) = 0 then w_Content_readTag L 1 (fun σ29 => Q σ29) (pf σ26 2 2 (σ.1 2 2)) else Q σ26) σ := by
  obtain ⟨p, g, t, hF, hp, hS, hT, htp, hj⟩ := h.at hln
  have hm' : mt (σ.2 101) (p + (cur a).length) p [60] = true := by
    have := sh_mt hT [60] 0
    rw [show p + 0 = p by omega] at this
    rw [this]; exact hm
  have hal := sh_tgk hT 0 (fun n hn => (nmg_lt hn).2.2)
  rw [show p + 0 = p by omega] at hal
  refine j_readTag0 hS h.1.2.1 hm' hj (fun τ hτ => ?_)
  rw [hal] at hτ
  cases hk : tgk (gd (cur a)) (cur a).length 0 with
  | none =>
    rw [hk] at hτ
    have hτ' : jp (p + (cur a).length) 0 σ none τ := hτ
    rw [if_neg (by rw [jp.f5 hτ']; decide)]
    refine hq.1 5 ?_ τ (h.bad hτ')
    unfold iTag
    rw [hk]
  | some k =>
    rw [hk, mvo_some] at hτ
    rw [if_pos (hτ.f0 hS)]
    obtain ⟨hR, hg⟩ := h.back hln hτ
    obtain ⟨s1, s2, s3, s4, s5⟩ := hτ.store
    have e5 : (pf τ 2 2 (σ.1 2 2)).1 2 5 = σ.1 2 5 := by rw [pf_nk (by decide)]; exact s5
    refine j_readTag1 hln hR hG hGc (hC.same (by unfold jw at s1 ⊢; rw [pf_no (by decide)]; exact s1) (by unfold jtp at s2 ⊢; rw [pf_no (by decide)]; exact s2) (by rw [pf_no (by decide)]; exact s3) (by rw [pf_no (by decide)]; exact s4) rfl rfl rfl rfl rfl rfl rfl rfl (by rw [pf_no (by decide)]; exact hτ.keep (by omega) (by omega)) (Nat.le_refl _)) hm hk h4 ?_
    unfold JO
    rw [e5]
    exact hq
end JI42
