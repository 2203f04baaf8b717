section Rt13
variable {el : List Elm} {at_ : List Att} {S r : List Evt} {N0 rm nd m z : Nat} {sk : List Nat} {b b' : AS} {t s : Str}
theorem WQa_cut {e : Nat} : (WQa el at_ e).map cutA = WQa el at_ e := by
  unfold WQa
  rw [List.map_map]
  rfl
theorem WQa_ok (hc : RTc el at_ S) {e : Nat} (he : e < el.length) : (∀ t ∈ WQa el at_ e, lgn t.1 ∧ chz t.2.1) ∧ ((WQa el at_ e).map (fun z => z.1)).Nodup := by
  refine ⟨fun t ht => ?_, ?_⟩
  · obtain ⟨u, u1, rfl⟩ := List.mem_map.mp ht
    exact (hc.2.1 e he).2 u (mem_wat.mp u1).1
  · unfold WQa
    rw [cut_nm]
    exact pw_nd (wat_pw (hc.1.2 e he).1)
theorem nel_fl {a : AS} {nm : Str} {gv al : List Att} {k c m : Nat} : aF (nel a nm gv al k c m) = aF (adv (tch a false) k) ∧ aE (nel a nm gv al k c m) = aE a ∧ aR (nel a nm gv al k c m) = aR a ∧ aD (nel a nm gv al k c m) = aD a ∧ aA (nel a nm gv al k c m) = aA a ∧ aT (nel a nm gv al k c m) = aT a ∧ aO (nel a nm gv al k c m) = (aL a).length :: aO a ∧ aL (nel a nm gv al k c m) = aL (tch a false) ++ [(nm, par a, (aB a).length, al.length, gv.length, false, false)] ∧ aB (nel a nm gv al k c m) = aB a ++ al ∧ aS (nel a nm gv al k c m) = aS a ++ [.inl (-3 - ((aL a).length : Int))] := by
  obtain ⟨o1, o2, o3, o4, o5, o6, o7, o8, o9, o10⟩ := tch_other (a := a) (sp := false)
  obtain ⟨p1, p2, p3, p4, p5, p6, p7, p8, p9, p10⟩ := adv_other (a := tch a false) (k := k)
  exact ⟨rfl, p1.trans o2, p3.trans o4, p4.trans o5, p5.trans o6, p6.trans o7, rfl, rfl, rfl, rfl⟩
theorem nel_N {a : AS} {nm : Str} {gv al : List Att} {k c m : Nat} : aN (nel a nm gv al k c m) 0 = c ∧ aN (nel a nm gv al k c m) 1 = m ∧ aN (nel a nm gv al k c m) 3 = aN a 3 + 1 + al.length ∧ aN (nel a nm gv al k c m) 4 = 2 ∧ ∀ j, j ≠ 0 → j ≠ 1 → j ≠ 3 → j ≠ 4 → aN (nel a nm gv al k c m) j = aN a j := by
  obtain ⟨o1, o2, o3, -⟩ := tch_other (a := a) (sp := false)
  obtain ⟨p1, p2, -⟩ := adv_other (a := tch a false) (k := k)
  refine ⟨rfl, rfl, rfl, rfl, fun j j0 j1 j3 j4 => ?_⟩
  show (if j = 4 then 2 else if j = 3 then _ else if j = 1 then m else if j = 0 then c else aN (adv (tch a false) k) j) = _
  rw [if_neg j4, if_neg j3, if_neg j1, if_neg j0, p2, o3]
/-- a tag -/
theorem RT.tag (hc : RTc el at_ S) (hrm : N0 ≤ rm) (hnd : el.length + (flW el at_ el.length).length + pis S ≤ nd) (h : RT el at_ S N0 b r sk m 0) {c : Int} {r' : List Evt} (hr : r = .inl c :: r') (c1 : c ≠ -1) (c2 : c < 0) : ∃ b', stp rm nd b = .inr b' ∧ RT el at_ S N0 b' r' (m :: sk) (m + 1) 0 ∧ (cur b').length < (cur b).length := by
  have hcur := h.txt
  have hL := h.len
  have hpb := h.pisB
  have hn4 := h.n4
  have hlt : ∀ x ∈ sk, x < m := fun x hx => by rw [← hL]; exact och_lt h.2.2.1.2.2.1 x hx
  obtain ⟨⟨f1, f2, f3, f4, f5, f6, f7⟩, ⟨n0, n1, n3, n4, n5, n6, n8⟩, ⟨t1, t2, t3, t4⟩, ⟨d, d1, d2⟩, ⟨q1, q2⟩, ⟨e1, e2⟩, -⟩ := h
  rw [hr, stR_c, if_neg c1, if_pos c2] at q1
  rw [hr, nst_c, if_neg c1, if_pos c2] at q2
  split at q1
  · rename_i hcc
    obtain ⟨g1, g2, g3⟩ := hcc
    rw [List.length_map] at g2
    have g3' : (el.getD m elD).2.1 = opn sk := by
      rw [← g3, List.getD_eq_getElem?_getD, List.getD_eq_getElem?_getD, List.getElem?_map, List.getElem?_eq_getElem g2]
      rfl
    split at q2
    · cases q2
    · rename_i hns
      have hw : txR el at_ 0 r sk m = wTag (el.getD m elD).1 (WQa el at_ m) ++ wrS el at_ r' (m :: sk) (m + 1) := by
        rw [txR0, hr, wrS_c, if_neg c1, if_pos c2, wTg_tag]
        rfl
      have hcur' := hcur.trans hw
      obtain ⟨hnm, -⟩ := hc.2.1 m g2
      obtain ⟨w1, w2⟩ := WQa_ok hc g2
      have hph : aN b 4 = 0 ∨ aN b 4 = 2 := by
        by_cases ck : sk = []
        · left
          refine hn4.2.2.2 ck ?_
          by_cases c0 : m = 0
          · exact c0
          · exact absurd ⟨by rw [ck]; rfl, decide_eq_true (by omega)⟩ hns
        · exact Or.inr (hn4.2.2.1 ck)
      obtain ⟨c', y, hy, hst⟩ := wTag_hd (w := WQa el at_ m) hnm
      have hs : stp rm nd b = iTag rm nd b := stp_tagW (r := y ++ wrS el at_ r' (m :: sk) (m + 1)) (by rw [hcur', hy]; rfl) hst hph
      have hlen : (cur b).length ≤ rm := by rw [hcur]; omega
      have hfl : (flW el at_ (m + 1)).length ≤ (flW el at_ el.length).length := by
        have := flW_mono (el := el) (at_ := at_) (m := m + 1) (el.length - (m + 1))
        rw [Nat.add_sub_cancel' (by omega)] at this
        exact this
      rw [flW_s, List.length_append] at hfl
      have ht := rd_tag (rm := rm) (nd := nd) hcur' hnm (fun t ht => (w1 t ht).1) w2 f5 hlen (by rw [n3, t2]; omega)
      rw [WQa_cut] at ht
      refine ⟨_, hs.trans ht, ?_⟩
      obtain ⟨u1, u2, u3, u4, u5, u6, u7, u8, u9, u10⟩ := nel_fl (a := b) (nm := (el.getD m elD).1) (gv := WQa el at_ m) (al := WQa el at_ m) (k := (wTag (el.getD m elD).1 (WQa el at_ m)).length) (c := aN b 0) (m := aN b 1)
      obtain ⟨v0, v1, v3, v4, v5⟩ := nel_N (a := b) (nm := (el.getD m elD).1) (gv := WQa el at_ m) (al := WQa el at_ m) (k := (wTag (el.getD m elD).1 (WQa el at_ m)).length) (c := aN b 0) (m := aN b 1)
      have hpar : par b = opn sk := by rw [par_opn, f7]
      have hdr : (txR el at_ 0 r sk m).drop (wTag (el.getD m elD).1 (WQa el at_ m)).length = txR el at_ 0 r' (m :: sk) (m + 1) := by rw [hw, List.drop_left, txR0]
      have hF : aF (nel b (el.getD m elD).1 (WQa el at_ m) (WQa el at_ m) (wTag (el.getD m elD).1 (WQa el at_ m)).length (aN b 0) (aN b 1)) = [(txR el at_ 0 r' (m :: sk) (m + 1), 0, 0)] := by
        rw [u1, adv_1 (tch_other.1.trans f1), hdr]
      have hln := congrArg List.length hw
      rw [List.length_append, hy] at hln
      have hln2 : (60 :: c' :: y : List Int).length = y.length + 2 := rfl
      have hx0 : (txR el at_ 0 r' (m :: sk) (m + 1)).length + 2 ≤ (txR el at_ 0 r sk m).length := by rw [txR0]; omega
      have hcn : (-3 - ((aL b).length : Int)) = c := by rw [hL]; exact g1.symm
      obtain ⟨tr1, tr2, -⟩ := nel_tre (a := b) (nm := (el.getD m elD).1) (gv := WQa el at_ m) (al := WQa el at_ m) (k := (wTag (el.getD m elD).1 (WQa el at_ m)).length) (c := aN b 0) (m := aN b 1)
      generalize nel b (el.getD m elD).1 (WQa el at_ m) (WQa el at_ m) (wTag (el.getD m elD).1 (WQa el at_ m)).length (aN b 0) (aN b 1) = Y at *
      refine ⟨⟨⟨hF, by rw [u2, f2], by rw [u3, f3], by rw [u4, f4], by rw [u5, f5], by rw [u6, f6], by rw [u7, hL, f7]⟩, ⟨by rw [v0, n0], by rw [v1, n1], ?_, ?_, by rw [v5 5 (by decide) (by decide) (by decide) (by decide), n5], by rw [v5 6 (by decide) (by decide) (by decide) (by decide), n6], by rw [v5 8 (by decide) (by decide) (by decide) (by decide), n8]⟩, ⟨?_, ?_, ?_, by omega⟩, ⟨d ++ [.inl c], by rw [d1, hr, List.append_assoc]; rfl, ?_⟩, ⟨q1, ?_⟩, ⟨?_, ?_⟩, ⟨Nat.zero_le _, fun e => absurd e (by decide), fun e => absurd e (by decide)⟩⟩, ?_⟩
      · rw [v3, u9, u10, n3, List.length_append, pis_app]
        show _ = _ + _ + (_ + 0)
        omega
      · rw [v4]
        unfold phs
        rw [if_neg (by simp)]
      · rw [tr1, t1, List.range_succ, List.map_append, hpar, ← g3', t2]
        rfl
      · rw [tr2, t2, flW_s]
      · rw [u8]
        have hl2 : (aL (tch b false)).length = m := by rw [tch_ln, hL]
        refine ⟨by rw [List.length_append, hl2]; exact Nat.lt_succ_self _, ?_, hlt, ?_⟩
        · rw [List.getD_eq_getElem?_getD, List.getElem?_append_right (by omega), hl2, Nat.sub_self]
          exact hpar
        · exact och_ext (och_e5 (S0.tchE (a := b) (b := false)).1 t3)
      · rw [u10, hcn, d2, List.map_append]
        rfl
      · rw [decide_eq_true (by omega)]
        exact q2
      · rw [u10, evl_app]
        show evl (aS b) + (0 + 1) + _ ≤ _
        omega
      · rw [v5 2 (by decide) (by decide) (by decide) (by decide)]
        omega
      · unfold cur
        rw [hF]
        have : cur b = txR el at_ 0 r sk m := hcur
        unfold cur at this
        rw [this]
        show (txR el at_ 0 r' (m :: sk) (m + 1)).length < _
        omega
  · cases q1
/-- the end of an element -/
theorem RT.end_ (hc : RTc el at_ S) (h : RT el at_ S N0 b r sk m 0) {r' : List Evt} (hr : r = .inl (-1) :: r') : ∃ b' sk', stp rm nd b = .inr b' ∧ RT el at_ S N0 b' r' sk' m 0 ∧ (cur b').length < (cur b).length := by
  have hcur := h.txt
  have hL := h.len
  have hn4 := h.n4
  have hgN := fun e he => h.getN (e := e) he
  have hlt : ∀ x ∈ sk, x < m := fun x hx => by rw [← hL]; exact och_lt h.2.2.1.2.2.1 x hx
  obtain ⟨⟨f1, f2, f3, f4, f5, f6, f7⟩, ⟨n0, n1, n3, n4, n5, n6, n8⟩, ⟨t1, t2, t3, t4⟩, ⟨d, d1, d2⟩, ⟨q1, q2⟩, ⟨e1, e2⟩, -⟩ := h
  rw [hr, stR_c, if_pos rfl] at q1
  rw [hr, nst_c, if_pos rfl] at q2
  cases sk with
  | nil => cases q1
  | cons e sk =>
    dsimp only at q1
    have hem : e < m := hlt e List.mem_cons_self
    have hw : txR el at_ 0 r (e :: sk) m = wEn (el.getD e elD).1 ++ wrS el at_ r' sk m := by
      rw [txR0, hr, wrS_c, if_pos rfl]
    have hcur' := hcur.trans hw
    have hwe : ∃ y, wEn (el.getD e elD).1 = 60 :: 47 :: y := ⟨_, by unfold wEn; rw [ti_1086]; rfl⟩
    obtain ⟨y, hy⟩ := hwe
    have hs : stp rm nd b = iEnd b := stp_endW (r := y ++ wrS el at_ r' sk m) (by rw [hcur', hy]; rfl) (hn4.2.2.1 (by simp))
    have ht := rd_end hcur' (hc.2.1 e (by omega)).1 f7 f1 rfl (hgN e hem).1
    refine ⟨_, sk, hs.trans ht, ?_⟩
    obtain ⟨p1, p2, p3, p4, p5, p6, p7, p8, p9, p10⟩ := adv_other (a := b) (k := (wEn (el.getD e elD).1).length)
    have hO : aO (adv b (wEn (el.getD e elD).1).length) = e :: sk := by rw [p10, f7]
    have hdr : (txR el at_ 0 r (e :: sk) m).drop (wEn (el.getD e elD).1).length = txR el at_ 0 r' sk m := by rw [hw, List.drop_left, txR0]
    have hF : aF (cls (adv b (wEn (el.getD e elD).1).length)) = [(txR el at_ 0 r' sk m, 0, 0)] := by
      rw [cls_F.1, adv_1 f1, hdr]
    have hcl : cls (adv b (wEn (el.getD e elD).1).length) = sN (sO (sS (adv b (wEn (el.getD e elD).1).length) (aS (adv b (wEn (el.getD e elD).1).length) ++ [.inl (-1)])) sk) 4 (if sk = [] then 3 else 2) := by
      unfold cls
      rw [hO]
    have hln := congrArg List.length hw
    rw [List.length_append, hy] at hln
    have hln2 : (60 :: 47 :: y : List Int).length = y.length + 2 := rfl
    have hx0 : (txR el at_ 0 r' sk m).length + 2 ≤ (txR el at_ 0 r (e :: sk) m).length := by rw [txR0]; omega
    generalize hbb : adv b (wEn (el.getD e elD).1).length = bb at *
    refine ⟨⟨⟨hF, ?_, ?_, ?_, ?_, ?_, ?_⟩, ⟨?_, ?_, ?_, ?_, ?_, ?_, ?_⟩, ⟨?_, ?_, ?_, t4⟩, ⟨d ++ [.inl (-1)], by rw [d1, hr, List.append_assoc]; rfl, ?_⟩, ⟨q1, ?_⟩, ⟨?_, ?_⟩, ⟨Nat.zero_le _, fun e => absurd e (by decide), fun e => absurd e (by decide)⟩⟩, ?_⟩
    · rw [hcl]; exact p1.trans f2
    · rw [hcl]; exact p3.trans f3
    · rw [hcl]; exact p4.trans f4
    · rw [hcl]; exact p5.trans f5
    · rw [hcl]; exact p6.trans f6
    · rw [hcl]; rfl
    · rw [hcl]; exact (congrFun p2 0).trans n0
    · rw [hcl]; exact (congrFun p2 1).trans n1
    · rw [hcl]
      show aN bb 3 = m + (aB bb).length + pis (aS bb ++ [.inl (-1)])
      rw [p2, p8, p9, n3, pis_app]
      rfl
    · rw [hcl]
      show (if sk = [] then 3 else 2) = phs sk m
      unfold phs
      by_cases c : sk = []
      · rw [if_pos c, if_pos c, if_neg (by omega)]
      · rw [if_neg c, if_neg c]
    · rw [hcl]; exact (congrFun p2 5).trans n5
    · rw [hcl]; exact (congrFun p2 6).trans n6
    · rw [hcl]; exact (congrFun p2 8).trans n8
    · rw [hcl]
      show (aL bb).map e5 = _
      rw [p7, t1]
    · rw [hcl]
      show aB bb = _
      rw [p8, t2]
    · rw [hcl]
      show och (aL bb) sk
      rw [p7]
      exact t3.2.2.2
    · rw [hcl]
      show aS bb ++ [.inl (-1)] = _
      rw [p9, d2, List.map_append]
      rfl
    · rw [if_neg (by simp)] at q2
      exact q2
    · rw [hcl]
      show evl (aS bb ++ [.inl (-1)]) + _ ≤ _
      rw [evl_app, p9]
      show evl (aS b) + (0 + 1) + _ ≤ _
      omega
    · rw [hcl]
      show aN bb 2 + _ ≤ _
      rw [p2]
      omega
    · unfold cur
      rw [hF]
      have : cur b = txR el at_ 0 r (e :: sk) m := hcur
      unfold cur at this
      rw [this]
      show (txR el at_ 0 r' sk m).length < _
      omega
/-- ONE ITEM of what is written -/
theorem RT.step (hc : RTc el at_ S) (hrm : N0 ≤ rm) (hnd : el.length + (flW el at_ el.length).length + pis S ≤ nd) (h : RT el at_ S N0 b r sk m z) : (fin b = true ∧ r = [] ∧ sk = [] ∧ m = el.length ∧ z = 0) ∨ ∃ b' r' sk' m' z', stp rm nd b = .inr b' ∧ RT el at_ S N0 b' r' sk' m' z' ∧ (cur b').length < (cur b).length := by
  have hcur := h.txt
  have hn4 := h.n4
  have hz := h.2.2.2.2.2.2
  obtain ⟨z0, z1, z2⟩ := hz
  have hst := h.2.2.2.2.1.1
  have hns := h.2.2.2.2.1.2
  have hlt : ∀ x ∈ sk, x < m := fun x hx => by rw [← h.len]; exact och_lt h.2.2.1.2.2.1 x hx
  have spc : ∀ z' : Nat, (z' ≤ 2 ∧ (z' = 1 → sk = [] ∧ m = 0) ∧ (z' = 2 → sk = [] ∧ 0 < m ∧ ∃ t s r'', r = .inr (t, s) :: r'')) → sk = [] → txR el at_ z r sk m = [10] ++ txR el at_ z' r sk m → (∃ y, txR el at_ z' r sk m = 60 :: y) → ∃ b' r' sk' m' z', stp rm nd b = .inr b' ∧ RT el at_ S N0 b' r' sk' m' z' ∧ (cur b').length < (cur b).length := fun z' hz' hk htx ⟨y, hy⟩ => by
    have hcur' := hcur.trans htx
    have hs : stp rm nd b = iSpc b := stp_spcW (r := txR el at_ z' r sk m) hcur' hn4.1 (hn4.2.1 hk)
    have hp := rd_spc (a := b) (r := txR el at_ z' r sk m) hcur' (by rw [hy]; exact hdn_cons (by decide))
    exact ⟨_, _, _, _, _, hs.trans hp, h.nx (X := b) (x := []) (p := 0) (y := [10]) rfl htx rfl ⟨rfl, rfl, rfl, rfl, rfl, rfl, rfl⟩ ⟨rfl, rfl, rfl, rfl, rfl, rfl, rfl⟩ ⟨rfl, rfl, (List.append_nil _).symm⟩ rfl (by omega) (Nat.zero_le _) (fun q hq => hq) (fun q hq => hq) hz' (by simp)⟩
  rcases (show z = 0 ∨ z = 1 ∨ z = 2 by omega) with rfl | rfl | rfl
  · cases r with
    | nil =>
      left
      have e1 := congrArg Prod.fst (Option.some.inj hst)
      have e2 := congrArg Prod.snd (Option.some.inj hst)
      dsimp only at e1 e2
      refine ⟨?_, rfl, e1, e2, rfl⟩
      have h0 : txR el at_ 0 [] sk m = [] := by rw [txR0]; rfl
      unfold fin
      rw [hcur, h0, h.1.1, h.2.1.2.2.2.1]
      unfold phs
      rw [if_pos e1, if_neg (by have := hc.2.2.2.2; omega)]
      rfl
    | cons v r' =>
      right
      cases v with
      | inr x =>
        obtain ⟨t, s⟩ := x
        have hw : txR el at_ 0 (.inr (t, s) :: r') sk m = (if (!sk.isEmpty) = false ∧ decide (0 < m) = true then [10] else []) ++ (wPiC t (s.flatMap crE) ++ ((if decide (0 < m) = false then [10] else []) ++ wrS el at_ r' sk m)) := by
          rw [txR0, wrS_pi, wPi_C]
          simp only [List.append_assoc]
        by_cases ck : sk = []
        · by_cases cm : m = 0
          · have hw' : txR el at_ 0 (.inr (t, s) :: r') sk m = wPiC t (s.flatMap crE) ++ txR el at_ 1 r' sk m := by
              rw [hw, txR1, cm, if_neg (by simp), if_pos (by simp)]
              rfl
            obtain ⟨b', y1, y2, y3⟩ := h.pin (rm := rm) hc hnd rfl hw' ⟨by omega, fun _ => ⟨ck, cm⟩, fun e => absurd e (by decide)⟩
            exact ⟨b', _, _, _, _, y1, y2, y3⟩
          · have hw' : txR el at_ 0 (.inr (t, s) :: r') sk m = [10] ++ txR el at_ 2 (.inr (t, s) :: r') sk m := by
              rw [hw, txR2, if_pos ⟨by rw [ck]; rfl, decide_eq_true (by omega)⟩, if_neg (by rw [decide_eq_true (by omega)]; simp)]
              rfl
            obtain ⟨y, hy⟩ := wPiC_hd (t := t) (s := s.flatMap crE)
            exact spc 2 ⟨by omega, fun e => absurd e (by decide), fun _ => ⟨ck, by omega, t, s, r', rfl⟩⟩ ck hw' ⟨63 :: (y ++ wrS el at_ r' sk m), by rw [txR2, hy]; rfl⟩
        · have hm0 : 0 < m := by
            cases sk with
            | nil => exact absurd rfl ck
            | cons e q => have := hlt e List.mem_cons_self; omega
          have hw' : txR el at_ 0 (.inr (t, s) :: r') sk m = wPiC t (s.flatMap crE) ++ txR el at_ 0 r' sk m := by
            rw [hw, txR0, if_neg (by
              rintro ⟨y, -⟩
              cases sk with
              | nil => exact ck rfl
              | cons e q => cases y), if_neg (by rw [decide_eq_true hm0]; simp)]
            rfl
          obtain ⟨b', y1, y2, y3⟩ := h.pin (rm := rm) hc hnd rfl hw' ⟨by omega, fun e => absurd e (by decide), fun e => absurd e (by decide)⟩
          exact ⟨b', _, _, _, _, y1, y2, y3⟩
      | inl c =>
        by_cases c1 : c = -1
        · subst c1
          obtain ⟨b', sk', y1, y2, y3⟩ := h.end_ (rm := rm) (nd := nd) hc rfl
          exact ⟨b', _, _, _, _, y1, y2, y3⟩
        by_cases c2 : c < 0
        · obtain ⟨b', y1, y2, y3⟩ := h.tag hc hrm hnd rfl c1 c2
          exact ⟨b', _, _, _, _, y1, y2, y3⟩
        -- a letter
        have hsk : sk ≠ [] := fun e => by
          rw [nst_c, if_neg c1, if_neg c2, if_pos (by rw [e]; rfl)] at hns
          cases hns
        have h42 := hn4.2.2.1 hsk
        rcases escL_or (v := false) (c := c) with ⟨g1, g2, g3, g4, -, g6⟩ | hx
        · obtain ⟨x, r2, x1, x2, x3⟩ := pln r'
          have hr : (Sum.inl c :: r' : List Evt) = (c :: x).map (fun c => (Sum.inl c : Evt)) ++ r2 := by rw [x1]; rfl
          have x2' : ∀ d ∈ c :: x, 0 ≤ d ∧ escL false d = [d] ∧ d ≠ 60 ∧ d ≠ 38 ∧ d ≠ 62 := fun d hd => by
            rcases List.mem_cons.mp hd with rfl | q
            · exact ⟨by omega, g1, g3, g2, g6 rfl⟩
            · exact x2 d q
          have hw : wrS el at_ (.inl c :: r') sk m = (c :: x) ++ wrS el at_ r2 sk m := by
            rw [hr]
            exact wr_pln _ (fun d hd => ⟨(x2' d hd).1, (x2' d hd).2.1⟩)
          have hcur' : cur b = (c :: x) ++ wrS el at_ r2 sk m := by rw [hcur, txR0, hw]
          have hs : stp rm nd b = iRun b := stp_runW (r := x ++ wrS el at_ r2 sk m) hcur' g2 g3 h42
          have hp := rd_run hcur' (fun d hd => (x2' d hd).2.2) (wr_hd2 hsk x3)
          obtain ⟨b', y1, y2, y3⟩ := h.chrs (rm := rm) (nd := nd) hr (fun d hd => (x2' d hd).1) hw (Nat.le_refl _) (by simp) hsk (hs.trans hp)
          exact ⟨b', _, _, _, _, y1, y2, y3⟩
        · have hw : wrS el at_ (.inl c :: r') sk m = escL false c ++ wrS el at_ r' sk m := by rw [wrS_c, if_neg c1, if_neg c2]
          have hcur' : cur b = escL false c ++ wrS el at_ r' sk m := by rw [hcur, txR0, hw]
          obtain ⟨y, hy⟩ := hx.hd
          have hs : stp rm nd b = iRef rm b := stp_refW (r := y ++ wrS el at_ r' sk m) (by rw [hcur', hy]; rfl) h42
          have hp := rd_ref (rm := rm) hcur' hx
          obtain ⟨b', y1, y2, y3⟩ := h.chrs (rm := rm) (nd := nd) (x := [c]) (r' := r') rfl (fun d hd => by rw [List.mem_singleton.mp hd]; omega) hw (by have := hx.len; simp only [List.length_cons, List.length_nil]; omega) (by rw [hy]; simp) hsk (hs.trans hp)
          exact ⟨b', _, _, _, _, y1, y2, y3⟩
  · right
    obtain ⟨k1, k2⟩ := z1 rfl
    have hst' : stR (el.map (fun x => x.2.1)) r ([], 0) = some ([], el.length) := by rw [k1, k2] at hst; exact hst
    have hns' : nst r (0, false) = some (0, true) := by rw [k1, k2] at hns; exact hns
    obtain ⟨y, hy⟩ := wr_hd0 (at_ := at_) hst' ⟨_, hns'⟩ hc.2.2.2.2
    exact spc 0 ⟨by omega, fun e => absurd e (by decide), fun e => absurd e (by decide)⟩ k1 (by rw [txR1, txR0]; rfl) ⟨y, by rw [txR0, k1, k2]; exact hy⟩
  · right
    obtain ⟨k1, k2, t, s, r', rfl⟩ := z2 rfl
    obtain ⟨b', y1, y2, y3⟩ := h.pin (rm := rm) (z' := 0) hc hnd rfl (by rw [txR2, txR0]) ⟨by omega, fun e => absurd e (by decide), fun e => absurd e (by decide)⟩
    exact ⟨b', _, _, _, _, y1, y2, y3⟩
/-- what is written, read as a whole -/
theorem RT.run (hc : RTc el at_ S) (hrm : N0 ≤ rm) (hnd : el.length + (flW el at_ el.length).length + pis S ≤ nd) : ∀ (n : Nat) {b : AS} {r : List Evt} {sk : List Nat} {m z : Nat}, RT el at_ S N0 b r sk m z → (cur b).length < n → ∃ b', arn rm nd n b = .inr b' ∧ fin b' = true ∧ RT el at_ S N0 b' [] [] el.length 0
  | 0, b, r, sk, m, z, h, hn => absurd hn (Nat.not_lt_zero _)
  | n + 1, b, r, sk, m, z, h, hn => by
    rcases RT.step hc hrm hnd h with ⟨h1, rfl, rfl, rfl, rfl⟩ | ⟨b', r', sk', m', z', h1, h2, h3⟩
    · refine ⟨b, ?_, h1, h⟩
      unfold arn
      rw [if_pos h1]
    · obtain ⟨b2, k1, k2, k3⟩ := RT.run hc hrm hnd n h2 (by omega)
      refine ⟨b2, ?_, k2, k3⟩
      unfold arn
      have hnf : ¬ fin b = true := fun hf => by
        unfold fin at hf
        simp only [Bool.and_eq_true] at hf
        have := List.isEmpty_iff.mp hf.1.1
        rw [this] at h3
        exact absurd h3 (Nat.not_lt_zero _)
      rw [if_neg hnf, h1]
      exact k1
end Rt13
