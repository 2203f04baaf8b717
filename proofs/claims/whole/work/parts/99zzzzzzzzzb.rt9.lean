section Rt14
variable {el : List Elm} {at_ : List Att} {S r : List Evt} {N0 rm nd rm' nd' m z : Nat} {sk : List Nat} {a b : AS}
theorem ins_len {k : Att → Key} {x : Att} : ∀ {l : List Att}, (ins k x l).length = l.length + 1
  | [] => rfl
  | y :: l => by
    unfold ins
    split
    · rfl
    · rw [List.length_cons, ins_len (l := l), List.length_cons]
theorem srt_len {k : Att → Key} : ∀ {l : List Att}, (srt k l).length = l.length
  | [] => rfl
  | x :: l => by
    show (ins k x (srt k l)).length = _
    rw [ins_len, srt_len (l := l), List.length_cons]
theorem WQa_len {e : Nat} : (WQa el at_ e).length ≤ (el.getD e elD).2.2.2.1 := by
  unfold WQa wat
  rw [List.length_map, srt_len, ← ats_len (at_ := at_)]
  exact List.length_filter_le _ _
theorem flW_segs : ∀ (m : Nat), m ≤ el.length → (flW el at_ m).length ≤ (segs (el.take m)).length
  | 0, _ => Nat.zero_le _
  | m + 1, h => by
    rw [flW_s, segs_take h, List.length_append, List.length_append]
    have h1 := flW_segs m (by omega)
    have h2 := WQa_len (el := el) (at_ := at_) (e := m)
    have h3 : (seg (el.getD m elD)).length = (el.getD m elD).2.2.2.1 := by
      unfold seg
      rw [List.length_map, List.length_range]
    omega
theorem fl_get {W : Nat → List Att} : ∀ {m e i : Nat}, e < m → i < (W e).length → ((List.range e).flatMap W).length + i < ((List.range m).flatMap W).length ∧ ((List.range m).flatMap W).getD (((List.range e).flatMap W).length + i) atD = (W e).getD i atD
  | m + 1, e, i, he, hi => by
    have hs : (List.range (m + 1)).flatMap W = (List.range m).flatMap W ++ W m := by rw [List.range_succ, List.flatMap_append, List.flatMap_singleton]
    rw [hs, List.length_append]
    by_cases c : e = m
    · subst c
      refine ⟨by omega, ?_⟩
      rw [List.getD_eq_getElem?_getD, List.getElem?_append_right (by omega), Nat.add_sub_cancel_left, List.getD_eq_getElem?_getD]
    · obtain ⟨h1, h2⟩ := fl_get (W := W) (m := m) (e := e) (i := i) (by omega) hi
      refine ⟨by omega, ?_⟩
      rw [List.getD_eq_getElem?_getD, List.getElem?_append_left h1, ← List.getD_eq_getElem?_getD]
      exact h2
/-- at the end, the tree is the same -/
theorem RT.sam (h : RT el at_ S N0 b r sk el.length z) : SAM el at_ (aL b) (aB b) := by
  refine ⟨h.len, fun e he => ?_⟩
  obtain ⟨h1, h2, h3, h4⟩ := h.getN he
  refine ⟨h1, h2, ?_⟩
  have hB := h.2.2.1.2.1
  unfold ats
  rw [h3, h4, hB]
  refine List.ext_getElem (by rw [List.length_map, List.length_range]) (fun i i1 i2 => ?_)
  rw [List.getElem_map, List.getElem_range]
  have := (fl_get (W := WQa el at_) he i2).2
  unfold flW
  rw [this, List.getD_eq_getElem?_getD, List.getElem?_eq_getElem i2]
  rfl
theorem RTc_of (hG : GOK rm nd a) (hX : GX a) (hS : ¬ ∃ k, k < 6 ∧ 0 < cnS a k) : RTc (aL a) (aB a) (aS a) := by
  obtain ⟨gi, gf, gv, gs, gd, gw, gn⟩ := hG
  have hgn : ∀ e, e < (aL a).length → e5 ((aL a).getD e elD) ∈ (aL a).map e5 := fun e he => List.mem_map.mpr ⟨_, by rw [List.getD_eq_getElem?_getD, List.getElem?_eq_getElem he]; exact List.getElem_mem he, rfl⟩
  have hat : ∀ e, e < (aL a).length → ∀ t ∈ ats (aB a) ((aL a).getD e elD), t ∈ aB a := fun e he t ht => by
    unfold ats at ht
    obtain ⟨i, i1, rfl⟩ := List.mem_map.mp ht
    have h1 := (gn.2 _ (hgn e he)).1
    have h2 := List.mem_range.mp i1
    have h3 : ((aL a).getD e elD).2.2.1 + ((aL a).getD e elD).2.2.2.1 ≤ (aB a).length := h1
    rw [List.getD_eq_getElem?_getD, List.getElem?_eq_getElem (by omega)]
    exact List.getElem_mem _
  refine ⟨⟨?_, ?_⟩, ?_, hX.2.2.2.1, gw.2.2, ?_⟩
  · intro i hi
    have := gv.2 i (e5 ((aL a).getD i elD)) (by rw [List.getElem?_map, List.getElem?_eq_getElem hi, List.getD_eq_getElem?_getD, List.getElem?_eq_getElem hi]; rfl)
    exact this
  · intro e he
    refine ⟨KD_all gn hS e he, ?_⟩
    have := (gn.2 _ (hgn e he)).2
    unfold ats
    rw [List.map_map]
    exact this
  · intro e he
    exact ⟨hX.2.1 _ (hgn e he), fun t ht => hX.2.2.1 t (hat e he t ht)⟩
  · have h4 : aN a 4 = 3 := by
      unfold fin at gf
      simp only [Bool.and_eq_true, beq_iff_eq] at gf
      exact gf.2
    have := gi.2.1.2.2 h4
    exact List.length_pos_iff.mpr this
theorem GOK.O (hG : GOK rm nd a) : aO a = [] := by
  obtain ⟨gi, gf, -⟩ := hG
  have h4 : aN a 4 = 3 := by
    unfold fin at gf
    simp only [Bool.and_eq_true, beq_iff_eq] at gf
    exact gf.2
  have := gi.1.2.2.2.2.2.1.2.1
  by_cases c : aO a = []
  · exact c
  · have := this.mpr c
    omega
theorem RT_first (hG : GOK rm nd a) (hX : GX a) (hY : GY a) (hS : ¬ ∃ k, k < 6 ∧ 0 < cnS a k) : RT (aL a) (aB a) (aS a) (cnW a).length (a0 (cnW a)) (aS a) [] 0 0 := by
  have hO := hG.O
  have hl := (RTc_of hG hX hS).2.2.2.2
  obtain ⟨gi, gf, gv, gs, gd, gw, gn⟩ := hG
  have hw : txR (aL a) (aB a) 0 (aS a) [] 0 = cnW a := txR0
  refine ⟨⟨by rw [hw]; rfl, rfl, rfl, rfl, rfl, rfl, rfl⟩, ⟨rfl, rfl, rfl, rfl, rfl, rfl, rfl⟩, ⟨rfl, rfl, trivial, Nat.zero_le _⟩, ⟨[], rfl, rfl⟩, ⟨?_, ?_⟩, ⟨?_, ?_⟩, ⟨Nat.zero_le _, fun e => absurd e (by decide), fun e => absurd e (by decide)⟩⟩
  · have := gw.2.1
    rw [hO] at this
    exact this
  · unfold GY at hY
    rw [hO] at hY
    have he : (aL a).isEmpty = false := by
      cases hq : aL a with
      | nil => rw [hq] at hl; cases hl
      | cons _ _ => rfl
    rw [he] at hY
    exact hY
  · rw [hw]
    show 0 + _ ≤ _
    omega
  · rw [hw]
    show 0 + _ ≤ _
    omega
theorem nodes_of (hG : GOK rm nd a) (hX : GX a) : (aL a).length + (flW (aL a) (aB a) (aL a).length).length + pis (aS a) ≤ nd := by
  obtain ⟨gi, gf, gv, gs, gd, gw, gn⟩ := hG
  have h1 := flW_segs (el := aL a) (at_ := aB a) (aL a).length (Nat.le_refl _)
  rw [List.take_length] at h1
  have h2 := congrArg List.length gs.1
  rw [List.length_map, List.length_range] at h2
  have h3 := hX.2.2.2.2
  have h4 : aN a 3 ≤ nd := gi.1.2.2.2.2.1.2
  omega
/-- no head -/
theorem wr_noH (hG : GOK rm nd a) (hX : GX a) (hY : GY a) (hS : ¬ ∃ k, k < 6 ∧ 0 < cnS a k) : hasH (cnW a) = false := by
  have hR := RT_first hG hX hY hS
  have hc := RTc_of hG hX hS
  have hst := hR.2.2.2.2.1.1
  have hns := hR.2.2.2.2.1.2
  by_cases hh : hasH (cnW a) = true
  · exfalso
    unfold hasH at hh
    simp only [Bool.and_eq_true, decide_eq_true_eq] at hh
    obtain ⟨h1, h2, h3⟩ := hh
    cases hs : aS a with
    | nil =>
      rw [hs] at hst
      have := congrArg Prod.snd (Option.some.inj hst)
      have h5 : 0 = (aL a).length := this
      have := hc.2.2.2.2
      omega
    | cons v r =>
      cases v with
      | inr x =>
        obtain ⟨t, s⟩ := x
        have hg := hc.2.2.1 t s (by rw [hs]; exact List.mem_cons_self)
        have hw : ∃ u w, cnW a = [60, 63] ++ (t ++ (u :: w)) ∧ (u = 32 ∨ u = 63) := by
          unfold cnW
          rw [hs, wrS_pi, wPi_C, if_neg (by simp)]
          unfold wPiC
          by_cases c : s.flatMap crE = []
          · rw [c, if_pos rfl]
            exact ⟨63, _, by simp only [List.append_assoc, List.nil_append, List.cons_append]; rfl, Or.inr rfl⟩
          · rw [if_neg c]
            exact ⟨32, _, by simp only [List.append_assoc, List.nil_append, List.cons_append]; rfl, Or.inl rfl⟩
        obtain ⟨u, w, hw, hu⟩ := hw
        have d0 : (cnW a).drop 2 = t ++ (u :: w) := by rw [hw]; rfl
        have k1 : ∀ i, i < 5 → gd (cnW a) i = [(60 : Int), 63, 120, 109, 108].getD i 0 := fun i hi => by
          have := mt_c1 h1
          have q0 : lk (gd (cnW a)) (cnW a).length 0 = 60 := mt_c1 h1
          unfold mt at h1
          simp only [Bool.and_eq_true, beq_iff_eq] at h1
          obtain ⟨p0, p1⟩ := h1
          unfold mt at p1
          simp only [Bool.and_eq_true, beq_iff_eq] at p1
          obtain ⟨p1, p2⟩ := p1
          unfold mt at p2
          simp only [Bool.and_eq_true, beq_iff_eq] at p2
          obtain ⟨p2, p3⟩ := p2
          unfold mt at p3
          simp only [Bool.and_eq_true, beq_iff_eq] at p3
          obtain ⟨p3, p4⟩ := p3
          unfold mt at p4
          simp only [Bool.and_eq_true, beq_iff_eq] at p4
          obtain ⟨p4, -⟩ := p4
          rw [lk_b (by omega)] at p0 p1 p2 p3 p4
          rcases (show i = 0 ∨ i = 1 ∨ i = 2 ∨ i = 3 ∨ i = 4 by omega) with rfl | rfl | rfl | rfl | rfl
          · exact p0
          · exact p1
          · exact p2
          · exact p3
          · exact p4
        have k2 : gd (cnW a) 2 = 120 := k1 2 (by decide)
        have k3 : gd (cnW a) 3 = 109 := k1 3 (by decide)
        have k4 : gd (cnW a) 4 = 108 := k1 4 (by decide)
        obtain ⟨c, y, rfl, y1, y2⟩ := lgn_cons hg.1
        have d1 := dr_c (l := cnW a) (i := 2) (c := c) d0
        have e1 : c = 120 := d1.2.1.symm.trans k2
        -- the name is x m l, and what comes next is blank
        have hux : isNm u = false ∧ u ≠ 109 ∧ u ≠ 108 := by rcases hu with rfl | rfl <;> decide
        cases y with
        | nil =>
          have d2 := dr_c (l := cnW a) (i := 3) (c := u) (r := w) d1.2.2
          exact hux.2.1 (d2.2.1.symm.trans k3)
        | cons c2 y =>
          have d2 := dr_c (l := cnW a) (i := 3) (c := c2) d1.2.2
          have e2 : c2 = 109 := d2.2.1.symm.trans k3
          cases y with
          | nil =>
            have d3 := dr_c (l := cnW a) (i := 4) (c := u) (r := w) d2.2.2
            exact hux.2.2 (d3.2.1.symm.trans k4)
          | cons c3 y =>
            have d3 := dr_c (l := cnW a) (i := 4) (c := c3) d2.2.2
            have e3 : c3 = 108 := d3.2.1.symm.trans k4
            cases y with
            | nil =>
              refine hg.2.1 ?_
              rw [e1, e2, e3]
              decide
            | cons c4 y =>
              have d4 := dr_c (l := cnW a) (i := 5) (c := c4) d3.2.2
              rw [d4.2.1] at h3
              have := y2 c4 (by simp)
              have hno : isSp c4 = true → isNm c4 = true → False := fun z1 z2 => by
                unfold isSp at z1
                simp only [Bool.or_eq_true, beq_iff_eq] at z1
                rcases z1 with z | z | z | z <;> rw [z] at z2 <;> exact absurd z2 (by decide)
              exact hno h3 this
      | inl c =>
        rw [hs] at hst hns
        rw [stR_c] at hst
        rw [nst_c] at hns
        by_cases c1 : c = -1
        · rw [if_pos c1] at hst; cases hst
        · rw [if_neg c1] at hst hns
          by_cases c2 : c < 0
          · rw [if_pos c2] at hst
            split at hst
            · rename_i hcc
              have hw : cnW a = wTag ((aL a).getD 0 elD).1 (WQa (aL a) (aB a) 0) ++ wrS (aL a) (aB a) r [0] 1 := by
                unfold cnW
                rw [hs, wrS_c, if_neg c1, if_pos c2, wTg_tag]
                rfl
              have hg := (hc.2.1 0 hc.2.2.2.2).1
              obtain ⟨c', y, hy, hst'⟩ := wTag_hd (w := WQa (aL a) (aB a) 0) hg
              rw [hy] at hw
              have hf := dr_mtn2 (l := cnW a) (i := 0) (c := 60) (d := 60) (q := [120, 109, 108]) (c' := c') (d' := 63) (r := y ++ wrS (aL a) (aB a) r [0] 1) (by rw [List.drop_zero, hw]; rfl) (isSt_nE hst').2.2.1
              rw [hf] at h1
              cases h1
            · cases hst
          · rw [if_neg c2, if_pos (show (([] : List Nat).length, decide (0 < 0)).1 = 0 from rfl)] at hns
            cases hns
  · exact Bool.eq_false_iff.mpr hh
/-- THE ROUND TRIP: what is written is read as a document whose canonical text it is -/
theorem round_trip (hG : GOK rm nd a) (hX : GX a) (hY : GY a) (hS : ¬ ∃ k, k < 6 ∧ 0 < cnS a k) (hrm : (cnW a).length ≤ rm') (hnd : nd ≤ nd') {N : Nat} (hN : (cnW a).length < N) {w : Bool} : ∃ b, rdA rm' nd' N w (a0 (cnW a)) = .inr b ∧ fin b = true ∧ RT (aL a) (aB a) (aS a) (cnW a).length b [] [] (aL a).length 0 ∧ cnW b = cnW a := by
  have hc := RTc_of hG hX hS
  have hR := RT_first hG hX hY hS
  have hn := nodes_of hG hX
  obtain ⟨b, b1, b2, b3⟩ := RT.run (rm := rm') (nd := nd') hc hrm (by omega) N hR hN
  refine ⟨b, ?_, b2, b3, ?_⟩
  · unfold rdA
    rw [show cur (a0 (cnW a)) = cnW a from rfl, wr_noH hG hX hY hS, if_neg (by decide)]
    exact b1
  · have hsam := b3.sam
    obtain ⟨d, d1, d2⟩ := b3.2.2.2.1
    rw [List.append_nil] at d1
    unfold cnW
    rw [d2, ← d1]
    exact hsam.wr hc.1.1 hc.1.2 (aS a) [] 0 hR.2.2.2.2.1.1 (fun e he => by cases he)
end Rt14
