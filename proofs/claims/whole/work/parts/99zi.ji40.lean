/-! ===== items of the class: tags (9): the second time through ===== -/
section JI40
variable {L : Nat → Nat} {rm nd : Nat} {ρ σ τ : IS} {a : AS} {Q : IS → Prop}
/-- room after a tag -/
theorem JC.tag {l : List Int} {g : Nat × Nat} {t : List Frm} {nm : Str} {gv : List Att} {k c m i : Nat} (hF : aF a = (l, g) :: t) (hk : k ≤ l.length) (hi : i < k) (h1 : 2 * jw ρ + rsv (XT a nm gv 0) + rem a ≤ c + 38 + (aO a).length + 2 + i) (h2 : jtp ρ + rem a ≤ (ρ.1 1 2).toNat + aN a 8 + c + i) (h3 : 2 * (ρ.1 4 16).toNat + rem a ≤ c + i) (h4 : 2 * jw ρ + rem a ≤ c + 38 + i) (h5 : ρ.1 1 16 ≤ (L 999 : Int) + (aN a 3 : Int) + 1) : JC L ρ (nel a nm gv (gv ++ dfl (aA a) nm gv) k c m) ∧ (i + 1 < k → JC L ρ (cls (nel a nm gv (gv ++ dfl (aA a) nm gv) k c m))) := by
  obtain ⟨t1, t2, t3, t4, t5, t6, t7, t8, t9, t10⟩ := tch_other (a := a) (sp := false)
  have hFt : aF (tch a false) = (l, g) :: t := by rw [t1]; exact hF
  have hrs := rsv_nel (a := a) (nm := nm) (gv := gv) (k := k) (c := c) (m := m)
  generalize hal : gv ++ dfl (aA a) nm gv = al at *
  have eF : aF (nel a nm gv al k c m) = (l.drop k, g) :: t := by
    unfold nel
    rw [adv_of hFt]
    rfl
  have hrem : rem (nel a nm gv al k c m) + k = rem a := by
    unfold rem
    rw [eF, hF]
    simp only [List.map_cons, List.sum_cons, List.length_drop]
    omega
  have e0 : aN (nel a nm gv al k c m) 0 = c := rfl
  have e8 : aN (nel a nm gv al k c m) 8 = aN a 8 := by
    show aN (adv (tch a false) k) 8 = _
    rw [adv_other.2.1, t3]
  have e3 : aN (nel a nm gv al k c m) 3 = aN a 3 + 1 + al.length := rfl
  have eO : aO (nel a nm gv al k c m) = (aL a).length :: aO a := rfl
  refine ⟨?_, fun hi2 => ?_⟩
  · unfold JC
    rw [e0, e8, e3, eO, List.length_cons]
    exact ⟨by omega, by omega, by omega, by omega, by omega⟩
  · have hc : cls (nel a nm gv al k c m) = sN (sO (sS (nel a nm gv al k c m) (aS (nel a nm gv al k c m) ++ [.inl (-1)])) (aO a)) 4 (if aO a = [] then 3 else 2) := by
      unfold cls
      rw [eO]
    have f0 : aN (cls (nel a nm gv al k c m)) 0 = c := by rw [hc]; rfl
    have f8 : aN (cls (nel a nm gv al k c m)) 8 = aN a 8 := by rw [hc]; exact e8
    have f3 : aN (cls (nel a nm gv al k c m)) 3 = aN a 3 + 1 + al.length := by rw [hc]; rfl
    have fO : aO (cls (nel a nm gv al k c m)) = aO a := by rw [hc]; rfl
    have fR : rem (cls (nel a nm gv al k c m)) = rem (nel a nm gv al k c m) := by rw [hc]; rfl
    have fs : rsv (cls (nel a nm gv al k c m)) = rsv (nel a nm gv al k c m) := by rw [hc]; rfl
    unfold JC
    rw [f0, f8, f3, fO, fR, fs]
    exact ⟨by omega, by omega, by omega, by omega, by omega⟩
set_option maxHeartbeats 16000000 in
set_option maxRecDepth 10000 in
theorem j_readTag1 {k : Nat} (hln : JLn L rm nd) (h : RJ L rm nd σ a) (hG : GA rm nd a) (hGc : GC a) (hC : JC L σ a) (hm : mt (gd (cur a)) (cur a).length 0 [60] = true) (hk : tgk (gd (cur a)) (cur a).length 0 = some k) (h4 : aN a 4 ≠ 1) (hq : JO L rm nd σ Q (iTag rm nd a)) : w_Content_readTag L 1 Q σ := by
  obtain ⟨p, g, t, hF, hp, hS, hT, htp, hj⟩ := h.at hln
  have hjl := h.1.1.jtp_le
  have h9 : L 101 < 1000000 := hln.1.2.2.2.2.2.2.2
  have hcap := hC.cap hln hG
  have hrm := hln.2.1
  have h102 := hln.2.2.2.1
  obtain ⟨gO, gw, ⟨r1, r2, r3, r4⟩, ⟨c1, c2, c3, c4, c5, c6⟩, ⟨b1', b2⟩, gp, ho, ⟨gf1, gf2⟩, g1, g2, g3, g4⟩ := id hG
  have hremc : (cur a).length ≤ rem a := by
    unfold rem
    rw [hF]
    simp only [List.map_cons, List.sum_cons]
    omega
  have h12 := h.1.2.2.2.2.2.2.2
  have hL101 : L 101 = 256 + (if rm < 65536 then rm else 65536) + rm := hln.2.2.1
  have hN8 : aN a 8 ≤ (if rm < 65536 then rm else 65536) := by split <;> omega
  have hm' : mt (σ.2 101) (p + (cur a).length) p [60] = true := by
    have := sh_mt hT [60] 0
    rw [show p + 0 = p by omega] at this
    rw [this]; exact hm
  obtain ⟨d1, d2, d3, d4, d5⟩ := id hC
  have hid0 : iTag rm nd a = match tgk (gd (cur a)) (cur a).length 0, nmg (gd (cur a)) (cur a).length true (some 1) with
    | some k, some n => match gvs rm a (gd (cur a)) (sl (gd (cur a)) 1 (n - 1)) (atL (gd (cur a)) (cur a).length ((cur a).length + 1) n) (aN a 0) (aN a 1) [] with
      | .inl f => .inl f
      | .inr (c, m, gv) => if nd < aN a 3 + 1 + (gv ++ dfl (aA a) (sl (gd (cur a)) 1 (n - 1)) gv).length then .inl 4
        else .inr (if gd (cur a) (k - 2) = 47 then cls (nel a (sl (gd (cur a)) 1 (n - 1)) gv (gv ++ dfl (aA a) (sl (gd (cur a)) 1 (n - 1)) gv) k c m) else nel a (sl (gd (cur a)) 1 (n - 1)) gv (gv ++ dfl (aA a) (sl (gd (cur a)) 1 (n - 1)) gv) k c m)
    | _, _ => .inl 5 := rfl
  generalize hl : cur a = l at *
  have hk2 : wd (gd l) l.length [62] (skp (gd l) l.length [47] (asp (gd l) l.length ((nmg (gd l) l.length true (some 1)).bind (atk (gd l) l.length (l.length + 1))))) = some k := hk
  cases hn1 : nmg (gd l) l.length true (some 1) with
  | none => rw [hn1] at hk2; cases hk2
  | some n =>
    rw [hn1, Option.bind_some] at hk2
    rw [hk, hn1] at hid0
    dsimp only at hid0
    have hnl := nmg_lt hn1
    have hlast := nm_last hn1
    generalize hel : sl (gd l) 1 (n - 1) = nm at *
    generalize hRR : gvs rm a (gd l) nm (atL (gd l) l.length (l.length + 1) n) (aN a 0) (aN a 1) [] = R at *
    have hspn : (if spt nm = true then 4 else 0) ≤ n := by
      by_cases c : spt nm = true
      · rw [if_pos c]
        have := spt_len c
        rw [← hel, sl_len2] at this
        omega
      · rw [if_neg c]; omega
    unfold w_Content_readTag
    refine p_need hS (by omega) ti_1019 (by decide) hj (fun τ1 h1 => ?_)
    have hw : wd (σ.2 101) (p + l.length) [60] (some p) = some (p + 1) := by
      show (if mt (σ.2 101) (p + l.length) p [60] = true then some (p + 1) else none) = _
      rw [if_pos hm']
    rw [hw] at h1
    refine p_readName hS (by omega) h1 (fun v4 τ3 h3 hv4 _ => ?_)
    rw [sh_nmgs hT, hn1, mvo_some] at h3
    have hv4' := hv4 (p + 1) rfl
    obtain ⟨hR, hg0⟩ := h.rd hln hp (show n ≤ (cur a).length by rw [hl]; omega) h3
    obtain ⟨s1, s2, s3, s4, s5⟩ := h3.store
    have hstr : sl (τ3.2 101) (p + 1) (n - 1) = nm := by rw [h3.row, ← hel]; exact sh_sl hT (by omega)
    refine WJ_of (fun xe ρ => RJ L rm nd ρ (adv a n) ∧ sgr σ ρ ∧ Jn ρ xe nm ∧ jw ρ ≤ jw σ + 1 ∧ jtp ρ = jtp σ ∧ (∀ o k, ¬ (o = 1 ∧ (k = 13 ∨ k = 14)) → ¬ (o = 2 ∧ (k = 2 ∨ (7 ≤ k ∧ k ≤ 11))) → ρ.1 o k = σ.1 o k) ∧ (∀ r, 106 < r → ρ.2 r = σ.2 r) ∧ ρ.1 2 2 = ((p + n : Nat) : Int)) (fun J hJ => ?_) ?_
    · rw [if_neg (by decide), h3.at.1, hv4']
      refine ⟨⟨by omega, by omega⟩, ?_⟩
      refine sp_int (s := p + 1) (n := n - 1) hln hR (by omega) (by omega) rfl (by omega) (fun x ρb hRb hgb hJn hjwb hjtb hfr => hJ _ _ ⟨hRb, hg0.trans hgb, by rw [hstr] at hJn; exact hJn, by omega, by omega, fun o k k1 k2 => ?_, fun r hr => ?_, by rw [hfr.1 2 2 (by omega)]; exact h3.at.1⟩)
      · rw [hfr.1 o k k1]
        exact h3.cells.1 o k k2 (by omega)
      · rw [hfr.2 r (by omega), h3.row]
    · rintro xe ρ8 ⟨hR8, hg8, hJ8, hjw8, hjt8, hf8, hr8, hp8⟩
      have e16 : ρ8.1 1 16 = σ.1 1 16 := hf8 1 16 (by omega) (by omega)
      have h016 := hR8.1.2.2.2.2.1
      refine WJ_of (fun s11 ρ => s11 = ρ8.1 1 16 + 1 ∧ ρ = pf ρ8 1 16 s11) (fun J hJ => ?_) ?_
      · rw [if_neg (by decide)]
        unfold w_Store_newMark
        exact ⟨⟨by omega, by omega⟩, hJ _ _ ⟨rfl, rfl⟩⟩
      · rintro s11 _ ⟨hs11, rfl⟩
        obtain ⟨hR9, hg9⟩ := hR8.stamp (v := s11) hln (by omega) (by omega)
        have hF9 : ∀ o k, ¬ (o = 1 ∧ k = 16) → (pf ρ8 1 16 s11).1 o k = ρ8.1 o k := fun o k hk => by rw [pf_1, if_neg hk]
        refine WJ_of (fun _ ρ => TJ L rm nd (σ.1 2 5) a l p nm xe s11 n n (aN a 0) (aN a 1) [] ρ) (fun J hJ => ?_) ?_
        · rw [if_neg (by decide)]
          have hFa : adv a n = sF a ((l.drop n, g) :: t) := adv_of hF
          obtain ⟨o1, o2, o3, o4, o5, o6, o7, o8, o9, o10⟩ := adv_other (a := a) (k := n)
          refine sp_begin (nm := nm) hln hR9 (by rw [o7, o10]; exact ho) (by rw [o7]; omega) (by rw [o2]; omega) (by rw [o9]; omega) (fun f hf => ?_) ((hJ8.gr hg9)) (fun ρ16 L' B' S' O' hR16 hst1 hst0 hf16 hr16 => hJ _ _ ?_)
          · rw [o10]
            rw [hFa] at hf
            rw [hF] at gf1
            rcases List.mem_cons.mp hf with rfl | hf
            · exact gf1 (l, g) List.mem_cons_self
            · exact gf1 f (List.mem_cons_of_mem _ hf)
          · have et : aL (tch (adv a n) false) = aL (tch a false) := by rw [hFa, tch_sF]; rfl
            have ep : par (adv a n) = par a := by rw [hFa]; rfl
            rw [o7, o8, o9, o10, et, ep] at hst1
            rw [o7, o8, o9, o10, et] at hst0
            have hTX := TX.begin (nm := nm) hG hGc hst1 hst0
            rw [o2, trr_adv hF] at hR16
            have e2 : sN (sN (trr a (aN a 3 + 1) L' B' S' O') 0 (aN a 0)) 1 (aN a 1) = trr a (aN a 3 + 1) L' B' S' O' := sN_id2
            have hsg : sgr (pf ρ8 1 16 s11) ρ16 := (hR9.1.out (σ' := ρ16) (fun o k hk => by
              rcases hk with hk | hk | hk
              · exact hf16 o k (by omega)
              · exact hf16 o k (by omega)
              · rw [hk.1, hk.2, hR16.1.2.2.2.1.2.2]; exact hR9.1.2.2.2.1.2.2.symm) (fun r hr => hr16 r (by omega))).2
            have hgall : sgr σ ρ16 := (hg8.trans hg9).trans hsg
            have hjw16 : jw ρ16 = jw ρ8 ∧ jtp ρ16 = jtp ρ8 := by unfold jw jtp; rw [hf16 1 14 (by decide), hf16 1 3 (by decide), hF9 1 14 (by omega), hF9 1 3 (by omega)]; exact ⟨rfl, rfl⟩
            have hkeep : ∀ o k, ¬ (o = 1 ∧ (k = 13 ∨ k = 14 ∨ k = 16)) → ¬ (o = 2 ∧ (k = 2 ∨ (7 ≤ k ∧ k ≤ 11))) → o ≠ 6 → ρ16.1 o k = σ.1 o k := fun o k k1 k2 k3 => by rw [hf16 o k k3, hF9 o k (by omega)]; exact hf8 o k (by omega) k2
            have hrs0 := rsv_XT0 (a := a) (nm := nm) (g := 0)
            have e16' : ρ16.1 1 16 = s11 := by rw [hf16 1 16 (by decide), pf_eq]
            refine ⟨⟨aN a 3 + 1, L', B', S', O', by rw [e2]; exact hR16, hTX⟩, ⟨by rw [hf16 2 2 (by decide), hF9 2 2 (by omega)]; exact hp8, by rw [hkeep 2 3 (by omega) (by omega) (by decide)]; exact hS.1, hT.gr htp hgall, by rw [hjw16.2]; omega, (hJ8.gr hg9).gr hsg⟩, ⟨e16', fun w hw => ?_, fun s hs => by cases hs⟩, ⟨hnl.2.2, Nat.le_refl _, r2, by omega, Nat.zero_le _⟩, ⟨by omega, by rw [hkeep 1 2 (by omega) (by omega) (by decide)]; omega, by rw [hkeep 4 16 (by omega) (by omega) (by decide)]; omega, by omega⟩, hkeep 2 5 (by omega) (by omega) (by decide), by rw [e16']; omega⟩
            exfalso
            rw [hr16 155 (by omega)] at hw
            have := h016.2 w
            have hw2 : ρ8.2 155 w = s11 := hw
            omega
        · rintro _ ρ16 hTJ0
          obtain ⟨hJS0, hj0⟩ := hTJ0.js hln
          refine p_skipSpace hJS0 (by omega) hj0 (fun v18 ρ17 h17 _ hv18 => ?_)
          have hT0 := hTJ0.2.1.2.2.1
          have hv18' := hv18 (p + n) rfl
          rw [sh_sk hT0] at hv18'
          rw [sh_asps hT0] at h17
          have h17' : jp (p + l.length) 0 ρ16 (some (p + sk isSp (gd l) l.length n)) ρ17 := h17
          have hyn := sk_le (p := isSp) (T := gd l) hnl.2.2
          have hTJ1 := hTJ0.mv hln hF hyn.1 hyn.2 h17'
          refine WL_ind (fun s ρ => (∃ i c m acc, TJ L rm nd (σ.1 2 5) a l p nm xe s11 i (sk isSp (gd l) l.length i) c m acc ρ ∧ i ≤ l.length ∧ 1 ≤ i ∧ wd (gd l) l.length [62] (skp (gd l) l.length [47] (asp (gd l) l.length (atk (gd l) l.length (l.length + 1) i))) = some k ∧ gvs rm a (gd l) nm (atL (gd l) l.length (l.length + 1) i) c m acc = R ∧ gd l (i - 1) ≠ 47 ∧ s.1 = (if sk isSp (gd l) l.length i = i then 0 else 1) ∧ 0 ≤ s.2 ∧ s.2 ≤ (i : Int)) ∨ ∃ f, R = .inl f ∧ BR L rm nd 300001 f (σ.1 2 5) ρ) (fun s _ => (1000000 - s.2).toNat) ?_ (v18, 0) ρ17 (Or.inl ⟨n, aN a 0, aN a 1, [], hTJ1, hnl.2.2, by omega, hk2, hRR, hlast, by rw [hv18']; by_cases cz : sk isSp (gd l) l.length n = n; (· rw [if_pos cz, if_pos (by omega)]); (· rw [if_neg cz, if_neg (by omega)]), by dsimp only; omega, by dsimp only; omega⟩)
          rintro ⟨sv, cnt⟩ ρ hI K hK
          dsimp only at hI hK ⊢
          refine WJ_of (fun _ ρ1 => (∃ i c m acc, TJ L rm nd (σ.1 2 5) a l p nm xe s11 i (sk isSp (gd l) l.length i) c m acc ρ1 ∧ i ≤ l.length ∧ 1 ≤ i ∧ wd (gd l) l.length [62] (skp (gd l) l.length [47] (some (sk isSp (gd l) l.length i))) = some k ∧ R = .inr (c, m, acc) ∧ gd l (i - 1) ≠ 47) ∨ ∃ f, R = .inl f ∧ BR L rm nd 300001 f (σ.1 2 5) ρ1) (fun J hJ => ?_) ?_
          · rcases hI with ⟨i, c, m, acc, hTJ, hi, hi1, hwd, hgv, hla, hsv, hc0, hci⟩ | ⟨f, hRf, hB⟩
            · obtain ⟨hJS, hjs⟩ := hTJ.js hln
              obtain ⟨⟨n3, L', B', S', O', hRi, hTX⟩, ⟨h22, h23, hTρ, htρ, hJe⟩, hMK, ⟨u1, u2, u3, u4, u5⟩, ⟨k1, k2, k3, k4⟩, hpl, h16⟩ := id hTJ
              have hf0 : ρ.1 2 4 = 0 := hRi.2.2.2.2.2.2.2.2.2.2.2.1
              have hyl := sk_le (p := isSp) (T := gd l) hi
              generalize hy : sk isSp (gd l) l.length i = y at *
              rw [if_pos ⟨by omega, hf0⟩]
              have hst := atk_step (T := gd l) hi
              have hLs := atL_step (T := gd l) hi
              -- no name here: the end
              have hend : (∀ x, spc (gd l) l.length (some i) = some x → nmg (gd l) l.length true (some x) = none) → ((∃ i c m acc, TJ L rm nd (σ.1 2 5) a l p nm xe s11 i (sk isSp (gd l) l.length i) c m acc ρ ∧ i ≤ l.length ∧ 1 ≤ i ∧ wd (gd l) l.length [62] (skp (gd l) l.length [47] (some (sk isSp (gd l) l.length i))) = some k ∧ R = .inr (c, m, acc) ∧ gd l (i - 1) ≠ 47) ∨ ∃ f, R = .inl f ∧ BR L rm nd 300001 f (σ.1 2 5) ρ) := by
                intro hx
                have ha : atk (gd l) l.length (l.length + 1) i = some i ∧ atL (gd l) l.length (l.length + 1) i = [] := by
                  rw [hst, hLs]
                  cases hsp : spc (gd l) l.length (some i) with
                  | none => exact ⟨rfl, rfl⟩
                  | some x =>
                    dsimp only
                    rw [hx x hsp]
                    exact ⟨rfl, rfl⟩
                rw [ha.1] at hwd
                rw [ha.2] at hgv
                have hwd2 : wd (gd l) l.length [62] (skp (gd l) l.length [47] (some (sk isSp (gd l) l.length i))) = some k := hwd
                have hgv2 : (Sum.inr (c, m, acc) : Nat ⊕ (Nat × Nat × List Att)) = R := hgv
                refine Or.inl ⟨i, c, m, acc, ?_, hi, hi1, hwd2, hgv2.symm, hla⟩
                rw [hy]
                exact hTJ
              refine p_at hJS (by omega) ti_1018 (by decide) hjs (fun v43 _ hv43 => ?_)
              rw [hv43 (p + y) rfl, if_b1, sh_mt hTρ]
              by_cases c62 : mt (gd l) l.length y [62] = true
              · rw [if_pos c62]
                have hlk : lk (gd l) l.length y = 62 := by rw [mt1] at c62; simpa using c62
                refine hJ _ _ (hend (fun x hx => ?_))
                have g5 := spc_gt hi hx
                show (if (if true = true then isSt (lk (gd l) l.length x) else isNm (lk (gd l) l.length x)) = true then some (sk isNm (gd l) l.length (x + 1)) else none) = none
                rw [if_pos rfl, g5.2.2, hy, hlk, if_neg (by decide)]
              · rw [if_neg c62]
                refine p_at hJS (by omega) ti_1020 (by decide) hjs (fun v46 _ hv46 => ?_)
                rw [hv46 (p + y) rfl, if_b1, sh_mt hTρ]
                by_cases c47 : mt (gd l) l.length y [47] = true
                · rw [if_pos c47]
                  have hlk : lk (gd l) l.length y = 47 := by rw [mt1] at c47; simpa using c47
                  refine hJ _ _ (hend (fun x hx => ?_))
                  have g5 := spc_gt hi hx
                  show (if (if true = true then isSt (lk (gd l) l.length x) else isNm (lk (gd l) l.length x)) = true then some (sk isNm (gd l) l.length (x + 1)) else none) = none
                  rw [if_pos rfl, g5.2.2, hy, hlk, if_neg (by decide)]
                · rw [if_neg c47]
                  have hno : atk (gd l) l.length (l.length + 1) i = some i → False := fun ha => by
                    rw [ha] at hwd
                    have hwd2 : wd (gd l) l.length [62] (if mt (gd l) l.length (sk isSp (gd l) l.length i) [47] = true then some (sk isSp (gd l) l.length i + 1) else some (sk isSp (gd l) l.length i)) = some k := hwd
                    rw [hy, if_neg c47] at hwd2
                    have hwd3 : (if mt (gd l) l.length y [62] = true then some (y + 1) else none) = some k := hwd2
                    rw [if_neg c62] at hwd3
                    cases hwd3
                  cases hsp : spc (gd l) l.length (some i) with
                  | none => rw [hsp] at hst; exact (hno hst).elim
                  | some x =>
                    have g5 := spc_gt hi hsp
                    have hxy : x = y := by rw [g5.2.2, hy]
                    rw [hxy] at hsp g5
                    rw [hsp] at hst hLs
                    dsimp only at hst hLs
                    cases hnm : nmg (gd l) l.length true (some y) with
                    | none => rw [hnm] at hst; exact (hno hst).elim
                    | some b =>
                      rw [hnm] at hst hLs
                      dsimp only at hst hLs
                      have g6 := nmg_lt hnm
                      cases hev : eqs (gd l) l.length (some b) with
                      | none => rw [hev] at hst; have hst2 : atk (gd l) l.length (l.length + 1) i = none := hst; rw [hst2] at hwd; cases hwd
                      | some v =>
                        rw [hev] at hst hLs
                        dsimp only at hst hLs
                        have g7 := eqs_gt g6.2.2 hev
                        cases hvl : vlp (gd l) l.length (some v) with
                        | none => rw [hvl] at hst; dsimp only at hst; rw [hst] at hwd; cases hwd
                        | some j =>
                          rw [hvl] at hst hLs
                          dsimp only at hst hLs
                          have g8 := vlp_gt hvl
                          rw [hst] at hwd
                          rw [hLs] at hgv
                          refine WJ_dir ?_
                          dsimp only
                          rw [if_neg (by rw [hsv, if_neg (by omega)]; decide)]
                          have hgs : (if sl (gd l) y (b - y) ∈ acc.map (fun z => z.1) then (.inl 8 : Nat ⊕ (Nat × Nat × List Att)) else match val rm a (sl (gd l) (v + 1) (j - 1 - (v + 1))) c m with
                            | .inl f => .inl f
                            | .inr (c', m', o) => gvs rm a (gd l) nm (atL (gd l) l.length (l.length + 1) j) c' m' (acc ++ [(sl (gd l) y (b - y), nrt (match adf (aA a) nm (sl (gd l) y (b - y)) with
                              | none => 0
                              | some d => ((aA a).getD d ([], [], 0, 0, [], [])).2.2.1) o, adf (aA a) nm (sl (gd l) y (b - y)))])) = R := hgv
                          have hn3e := hTX.1
                          have h12ρ := hRi.1.2.2.2.2.2.2.2
                          have hTX3 := hTX.2.2.1
                          refine j_at1 (B := sN (sN (trr a n3 L' B' S' O') 0 c) 1 m) (el := nm) (KK := fun v73 σ72 => inR (cnt + 1) ∧ K (v73, (cnt + 1)) σ72) hln hRi hF h22 h23 hTρ htρ hJe hMK hnm hev hvl (by omega) gO (show (aE a).length < _ by omega) gp.2.2.1 u3 (show l.length ≤ c by omega) (show m ≤ 700000 by omega) (show jtp ρ + (j - v) + (rm - c) ≤ L 101 by omega) (show (aA a).length ≤ _ by omega) hTX3.1 hTX3.2.1 (show n3 ≤ 300000 by omega) (fun e r hO => ?_) (show evl S' ≤ rm by omega) (fun hin v ρ' hB => ?_) (fun hin f hvf v ρ' hB => ?_) (fun hin c' m' out vl od L2 B2 ρ' hvo hod hvl2 hR2 hs2 hMK2 hg2 hjw2 hjt2 hcr hkp => ?_)
                          · have := hTX.2.2.2 e r hO
                            refine ⟨this.1, ?_, ?_⟩
                            · show (L'.getD e elD).2.2.2.1 ≤ 300000
                              omega
                            · show (L'.getD e elD).2.2.2.2.1 ≤ 300000
                              omega
                          · rw [if_pos hin] at hgs
                            refine ⟨⟨by omega, by omega⟩, hK _ _ (Or.inr ⟨8, hgs.symm, by rw [hpl] at hB; exact hB⟩) (by dsimp only; omega)⟩
                          · rw [if_neg hin] at hgs
                            have hvf' : val rm a (sl (gd l) (v + 1) (j - 1 - (v + 1))) c m = .inl f := hvf
                            rw [hvf'] at hgs
                            refine ⟨⟨by omega, by omega⟩, hK _ _ (Or.inr ⟨f, hgs.symm, by rw [hpl] at hB; exact hB⟩) (by dsimp only; omega)⟩
                          · rw [if_neg hin] at hgs
                            have hvo' : val rm a (sl (gd l) (v + 1) (j - 1 - (v + 1))) c m = .inr (c', m', out) := hvo
                            rw [hvo'] at hgs
                            dsimp only at hgs
                            have hvm := val_mk hvo'
                            rw [sl_len2] at hvm
                            have hod' : od = adf (aA a) nm (sl (gd l) y (b - y)) := hod
                            have hvl3 : vl = nrt (tyO (aA a) od) out := hvl2
                            have hvle := nrt_len (tyO (aA a) od) out
                            rw [← hvl3] at hvle
                            have hx : (sl (gd l) y (b - y), nrt (match adf (aA a) nm (sl (gd l) y (b - y)) with
                              | none => 0
                              | some d => ((aA a).getD d ([], [], 0, 0, [], [])).2.2.1) out, adf (aA a) nm (sl (gd l) y (b - y))) = ((sl (gd l) y (b - y), vl, od) : Att) := by
                              rw [hvl3, hod']
                              rfl
                            rw [hx] at hgs
                            have hR3 : RJ L rm nd ρ' (adv (trr (sN (sN (sN (sN (trr a n3 L' B' S' O') 0 c) 1 m) 0 c') 1 m') (n3 + 1) L2 B2 S' O') (sk isSp (gd l) l.length j)) := hR2
                            rw [trr_mg2] at hR3
                            have hT2 := hTX.add (x := (sl (gd l) y (b - y), vl, od)) (gn := 1) hG (by omega) hs2
                            have hla2 : (acc ++ [(sl (gd l) y (b - y), vl, od)]).length = acc.length + 1 := by rw [List.length_append, List.length_singleton]
                            rw [← hla2] at hT2
                            have hrs := rsv_XT1 (a := a) (nm := nm) (acc := acc) (x := (sl (gd l) y (b - y), vl, od)) (g := 0)
                            dsimp only at hrs
                            have hsp3 : (if spt (sl (gd l) y (b - y)) = true then 4 else 0) + y ≤ b + 1 := by
                              by_cases c3 : spt (sl (gd l) y (b - y)) = true
                              · rw [if_pos c3]
                                have := spt_len c3
                                rw [sl_len2] at this
                                omega
                              · rw [if_neg c3]
                                omega
                            have hdv : (if vl = [] then 0 else 1) ≤ vl.length := by
                              by_cases cv : vl = []
                              · rw [if_pos cv]; omega
                              · rw [if_neg cv]
                                exact List.length_pos_iff.mpr cv
                            generalize (if spt (sl (gd l) y (b - y)) = true then 4 else 0) = svv at *
                            generalize (if vl = [] then 0 else 1) = dv at *
                            have hyj := sk_le (p := isSp) (T := gd l) g8.2.1
                            obtain ⟨kp1, kp2, kp3, kp4, kp5⟩ := hkp
                            have hJe2 := hJe.gr hg2
                            obtain ⟨p', g', t', hF', hp', hS', -, -, -⟩ := hR3.at hln
                            have hFB2 : aF (sN (sN (trr a (n3 + 1) L2 B2 S' O') 0 c') 1 m') = (l, g) :: t := hF
                            have hc3 : (cur (adv (sN (sN (trr a (n3 + 1) L2 B2 S' O') 0 c') 1 m') (sk isSp (gd l) l.length j))).length = l.length - sk isSp (gd l) l.length j := by
                              rw [adv_of hFB2]
                              show (l.drop _).length = _
                              rw [List.length_drop]
                            have hS1 := hS'.1
                            rw [kp4, h23, hc3] at hS1
                            refine ⟨⟨by omega, by omega⟩, hK _ _ (Or.inl ⟨j, c', m', acc ++ [(sl (gd l) y (b - y), vl, od)], ⟨⟨n3 + 1, L2, B2, S', O', hR3, hT2⟩, ⟨by rw [hp']; omega, by rw [kp4]; exact h23, hTρ.gr htρ hg2, by have := hg2.2.1; omega, hJe2⟩, ?_, ⟨hyj.2, by omega, hcr, by omega, by rw [hla2]; omega⟩, ⟨by omega, by rw [kp1]; omega, by rw [kp2]; omega, by omega⟩, by rw [kp3]; exact hpl, by rw [kp5]; exact h16⟩, g8.2.1, by omega, hwd, hgs, vl_last hvl, rfl, by dsimp only; omega, by dsimp only; omega⟩) (by dsimp only; omega)⟩
                            rw [List.map_append]
                            exact hMK2
            · rw [if_neg (fun z => hB.ne z.2)]
              exact hJ _ _ (Or.inr ⟨f, hRf, hB⟩)
          · rintro _ ρ1 (⟨i, c, m, acc, hTJ, hi, hi1, hwd, hRe, hla⟩ | ⟨f, hRf, hB⟩)
            · obtain ⟨hJS, hjs⟩ := hTJ.js hln
              have hTρ := hTJ.2.1.2.2.1
              have hyl := sk_le (p := isSp) (T := gd l) hi
              generalize hy : sk isSp (gd l) l.length i = y at *
              refine p_skip hJS (by omega) ti_1020 (by decide) hjs (fun v28 ρ2 h2 _ hv28 => p_need hJS (by omega) ti_1018 (by decide) h2 (fun ρ3 h3 => ?_))
              have hsk := sh_skp hTρ (l := [47]) (some y)
              rw [mvo_some] at hsk
              rw [hsk, sh_wd hTρ, hwd, mvo_some] at h3
              have hv28' := hv28 (p + y) rfl
              rw [sh_mt hTρ] at hv28'
              have hkl : k ≤ l.length := by have := h3.at.2; omega
              -- a slash or none
              have hsl : y < k ∧ (v28 = 0 ↔ ¬ gd l (k - 2) = 47) ∧ (gd l (k - 2) = 47 → i + 1 < k) := by
                have hwd2 : wd (gd l) l.length [62] (if mt (gd l) l.length y [47] = true then some (y + 1) else some y) = some k := hwd
                by_cases c47 : mt (gd l) l.length y [47] = true
                · rw [if_pos c47] at hwd2
                  have hw1 := wd1 (by decide) hwd2
                  have hlk : lk (gd l) l.length y = 47 := by rw [mt1] at c47; simpa using c47
                  have hlt := lk_lt (by decide) hlk
                  have e1 : gd l (k - 2) = 47 := by rw [hw1.1, show y + 1 + 1 - 2 = y by omega]; exact hlt.2
                  refine ⟨by omega, ⟨fun z => ?_, fun z => absurd e1 z⟩, fun _ => by omega⟩
                  rw [hv28', c47] at z
                  exact absurd z (by decide)
                · rw [if_neg c47] at hwd2
                  have hw1 := wd1 (by decide) hwd2
                  have e1 : gd l (k - 2) ≠ 47 := by
                    rw [hw1.1, show y + 1 - 2 = y - 1 by omega]
                    by_cases cy : i < y
                    · exact sp_last hy cy
                    · rw [show y = i by omega]
                      exact hla
                  have c47' : mt (gd l) l.length y [47] = false := by simpa using c47
                  refine ⟨by omega, ⟨fun _ => e1, fun _ => ?_⟩, fun z => absurd z e1⟩
                  rw [hv28', c47']
                  rfl
              have hTJ3 := hTJ.mv hln hF (by omega) hkl h3
              obtain ⟨⟨n3, L', B', S', O', hRi, hTX⟩, ⟨h22, h23, hTρ3, htρ, hJe⟩, hMK, ⟨u1, u2, u3, u4, u5⟩, ⟨k1, k2, k3, k4⟩, hpl, h16⟩ := hTJ3
              refine WJ_dir ?_
              dsimp only
              rw [if_pos ⟨by decide, hRi.2.2.2.2.2.2.2.2.2.2.2.1⟩]
              rw [hRe] at hid0
              dsimp only at hid0
              refine j_finish hln hG hF h4 (by omega) hRi hTX hJe (fun w hw => ?_) (by omega) (fun hov ρ' hB => ?_) (fun hov h30 ρ' hR' hf' => ?_) (fun hov h31 ρ' hR' hf' => ?_)
              · have hJw : Jn ρ3 (w : Int) (wst ρ3 w) := ⟨w, rfl, hw, rfl⟩
                have := hMK.hit hRi.1.1 hJw
                rw [show Int.toNat (w : Int) = w by omega] at this
                exact this
              · rw [if_pos hov] at hid0
                rw [hpl] at hB
                exact hq.1 4 hid0 ρ' hB
              · rw [if_neg hov, if_neg (hsl.2.1.mp h30)] at hid0
                have hj' : jw ρ' = jw ρ3 ∧ jtp ρ' = jtp ρ3 := by unfold jw jtp; rw [hf' 1 14 (by decide), hf' 1 3 (by decide)]; exact ⟨rfl, rfl⟩
                refine hq.2 _ hid0 ρ' hR' ?_ (by rw [hf' 2 5 (by decide)]; exact hpl)
                exact (JC.tag (ρ := ρ') (i := i) hF hkl (by omega) (by rw [hj'.1]; exact k1) (by rw [hj'.2, hf' 1 2 (by decide)]; exact k2) (by rw [hf' 4 16 (by decide)]; exact k3) (by rw [hj'.1]; exact k4) (by rw [hf' 1 16 (by decide)]; exact h16)).1
              · have h47 : gd l (k - 2) = 47 := Classical.byContradiction (fun z => h31 (hsl.2.1.mpr z))
                rw [if_neg hov, if_pos h47] at hid0
                have hj' : jw ρ' = jw ρ3 ∧ jtp ρ' = jtp ρ3 := by unfold jw jtp; rw [hf' 1 14 (by decide), hf' 1 3 (by decide)]; exact ⟨rfl, rfl⟩
                refine hq.2 _ hid0 ρ' hR' ?_ (by rw [hf' 2 5 (by decide)]; exact hpl)
                exact (JC.tag (ρ := ρ') (i := i) hF hkl (by omega) (by rw [hj'.1]; exact k1) (by rw [hj'.2, hf' 1 2 (by decide)]; exact k2) (by rw [hf' 4 16 (by decide)]; exact k3) (by rw [hj'.1]; exact k4) (by rw [hf' 1 16 (by decide)]; exact h16)).2 (hsl.2.2 h47)
            · refine br_skip ti_1020 (by decide) hB (fun v28 ρ2 h2 => br_need ti_1018 (by decide) h2 (fun ρ3 h3 => WJ_dir ?_))
              dsimp only
              rw [if_neg (fun z => h3.ne z.2)]
              refine hq.1 f ?_ ρ3 h3.1
              rw [hid0, hRf]
/-- the item: read twice -/
theorem jI_tag (hln : JLn L rm nd) (h : RJ L rm nd σ a) (hG : GA rm nd a) (hGc : GC a) (hC : JC L σ a) (hm : mt (gd (cur a)) (cur a).length 0 [60] = true) (h4 : aN a 4 ≠ 1) (hq : JO L rm nd σ Q (iTag rm nd a)) : w_Content_readTag L 0 (fun σ26 => if (σ26.1 2 4) = 0 then w_Content_readTag L 1 (fun σ29 => Q σ29) (pf σ26 2 2 (σ.1 2 2)) else Q σ26) σ := by
  obtain ⟨p, g, t, hF, hp, hS, hT, htp, hj⟩ := h.at hln
  have hm' : mt (σ.2 101) (p + (cur a).length) p [60] = true := by
    have := sh_mt hT [60] 0
    rw [show p + 0 = p by omega] at this
    rw [this]; exact hm
  have hal := sh_tgk hT 0 (fun n hn => (nmg_lt hn).2.2)
  rw [show p + 0 = p by omega] at hal
  refine j_readTag0 hS h.1.2.1 hm' hj (fun τ hτ => ?_)
  rw [hal] at hτ
  cases hk : tgk (gd (cur a)) (cur a).length 0 with
  | none =>
    rw [hk] at hτ
    have hτ' : jp (p + (cur a).length) 0 σ none τ := hτ
    rw [if_neg (by rw [jp.f5 hτ']; decide)]
    refine hq.1 5 ?_ τ (h.bad hτ')
    unfold iTag
    rw [hk]
  | some k =>
    rw [hk, mvo_some] at hτ
    rw [if_pos (hτ.f0 hS)]
    obtain ⟨hR, hg⟩ := h.back hln hτ
    obtain ⟨s1, s2, s3, s4, s5⟩ := hτ.store
    have e5 : (pf τ 2 2 (σ.1 2 2)).1 2 5 = σ.1 2 5 := by rw [pf_nk (by decide)]; exact s5
    refine j_readTag1 hln hR hG hGc (hC.same (by unfold jw at s1 ⊢; rw [pf_no (by decide)]; exact s1) (by unfold jtp at s2 ⊢; rw [pf_no (by decide)]; exact s2) (by rw [pf_no (by decide)]; exact s3) (by rw [pf_no (by decide)]; exact s4) rfl rfl rfl rfl rfl rfl rfl rfl (by rw [pf_no (by decide)]; exact hτ.keep (by omega) (by omega)) (Nat.le_refl _)) hm hk h4 ?_
    unfold JO
    rw [e5]
    exact hq
end JI40
