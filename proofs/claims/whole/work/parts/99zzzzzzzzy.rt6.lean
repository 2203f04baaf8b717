/-! ===== reading what is written (pure) ===== -/
section Rt10
variable {rm nd : Nat} {b : AS} {c d : Int} {r : List Int}
theorem cur_dr (h : cur b = r) : (cur b).drop 0 = r := by rw [List.drop_zero, h]
theorem cur_ne (h : cur b = c :: r) : cur b ≠ [] := by rw [h]; exact List.cons_ne_nil _ _
theorem gd_0 (h : cur b = c :: r) : gd (cur b) 0 = c := (dr_c (cur_dr h)).2.1
theorem stp_tagW (h : cur b = 60 :: c :: r) (hc : isSt c = true) (h4 : aN b 4 = 0 ∨ aN b 4 = 2) : stp rm nd b = iTag rm nd b := by
  obtain ⟨n1, n2, n3, -⟩ := isSt_nE hc
  have hd := cur_dr h
  have h0 := gd_0 h
  have m1 : ∀ q, mt (gd (cur b)) (cur b).length 0 (60 :: 33 :: q) = false := fun q => dr_mtn2 hd n1
  have m2 : ∀ q, mt (gd (cur b)) (cur b).length 0 (60 :: 63 :: q) = false := fun q => dr_mtn2 hd n3
  have m3 : ∀ q, mt (gd (cur b)) (cur b).length 0 (60 :: 47 :: q) = false := fun q => dr_mtn2 hd n2
  unfold stp
  rw [if_neg (cur_ne h), if_neg (by omega)]
  rcases h4 with h4 | h4
  · rw [if_neg (by omega)]
    unfold iOut
    rw [h0, if_neg (by decide), m1, if_neg (by decide), m2, if_neg (by decide), m3, m1, if_neg (by rw [h4]; simp), m1, if_pos rfl]
  · rw [if_pos h4]
    unfold iCon
    rw [h0, if_neg (by decide), if_neg (by decide), m3, if_neg (by decide), m1, if_neg (by decide), m2, if_neg (by decide), m1, if_neg (by decide), m1, if_neg (by decide)]
theorem stp_pinW (h : cur b = 60 :: 63 :: r) (h4 : aN b 4 ≠ 1) : stp rm nd b = iPin nd true b := by
  have hd := cur_dr h
  have h0 := gd_0 h
  have m1 : ∀ q, mt (gd (cur b)) (cur b).length 0 (60 :: 33 :: q) = false := fun q => dr_mtn2 hd (by decide)
  have m2 : mt (gd (cur b)) (cur b).length 0 [60, 63] = true := dr_mt (x := [60, 63]) hd
  have m3 : ∀ q, mt (gd (cur b)) (cur b).length 0 (60 :: 47 :: q) = false := fun q => dr_mtn2 hd (by decide)
  unfold stp
  rw [if_neg (cur_ne h), if_neg h4]
  by_cases c2 : aN b 4 = 2
  · rw [if_pos c2]
    unfold iCon
    rw [h0, if_neg (by decide), if_neg (by decide), m3, if_neg (by decide), m1, if_neg (by decide), m2, if_pos rfl]
  · rw [if_neg c2]
    unfold iOut
    rw [h0, if_neg (by decide), m1, if_neg (by decide), m2, if_pos rfl]
theorem stp_endW (h : cur b = 60 :: 47 :: r) (h4 : aN b 4 = 2) : stp rm nd b = iEnd b := by
  have hd := cur_dr h
  have h0 := gd_0 h
  have m3 : mt (gd (cur b)) (cur b).length 0 [60, 47] = true := dr_mt (x := [60, 47]) hd
  unfold stp
  rw [if_neg (cur_ne h), if_neg (by omega), if_pos h4]
  unfold iCon
  rw [h0, if_neg (by decide), if_neg (by decide), m3, if_pos rfl]
theorem stp_spcW (h : cur b = 10 :: r) (h4 : aN b 4 ≠ 1) (h5 : aN b 4 ≠ 2) : stp rm nd b = iSpc b := by
  unfold stp
  rw [if_neg (cur_ne h), if_neg h4, if_neg h5]
  unfold iOut
  rw [gd_0 h, if_pos (by decide)]
theorem stp_refW (h : cur b = 38 :: r) (h4 : aN b 4 = 2) : stp rm nd b = iRef rm b := by
  unfold stp
  rw [if_neg (cur_ne h), if_neg (by omega), if_pos h4]
  unfold iCon
  rw [gd_0 h, if_pos rfl]
theorem stp_runW (h : cur b = c :: r) (h1 : c ≠ 38) (h2 : c ≠ 60) (h4 : aN b 4 = 2) : stp rm nd b = iRun b := by
  unfold stp
  rw [if_neg (cur_ne h), if_neg (by omega), if_pos h4]
  unfold iCon
  rw [gd_0 h, if_neg h1, if_pos h2]
end Rt10
noncomputable def flW (el : List Elm) (at_ : List Att) (m : Nat) : List Att := (List.range m).flatMap (WQa el at_)
def phs (sk : List Nat) (m : Nat) : Nat := if sk = [] then (if m = 0 then 0 else 3) else 2
/-- the text that is left: between items, behind an instruction that stands before the root, before one that stands behind it -/
noncomputable def txR (el : List Elm) (at_ : List Att) (z : Nat) (r : List Evt) (sk : List Nat) (m : Nat) : Str := if z = 0 then wrS el at_ r sk m else if z = 1 then 10 :: wrS el at_ r sk m else match r with
  | .inr (t, s) :: r' => wPiC t (s.flatMap crE) ++ wrS el at_ r' sk m
  | _ => []
noncomputable def e5W (el : List Elm) (at_ : List Att) (e : Nat) : Str × Int × Nat × Nat × Nat := ((el.getD e elD).1, (el.getD e elD).2.1, (flW el at_ e).length, (WQa el at_ e).length, (WQa el at_ e).length)
/-- what is wanted of a document for it to be read again -/
def RTc (el : List Elm) (at_ : List Att) (S : List Evt) : Prop := (PAR el ∧ KDA el at_) ∧ (∀ e, e < el.length → lgn (el.getD e elD).1 ∧ ∀ t ∈ ats at_ (el.getD e elD), lgn t.1 ∧ chz t.2.1) ∧ (∀ t s, Sum.inr (t, s) ∈ S → PIg t s) ∧ (∀ v ∈ S, ∀ c, v = .inl c → c < 0 ∨ isCh c = true) ∧ 0 < el.length
/-- the picture: how far the reading of what is written has come -/
def RT (el : List Elm) (at_ : List Att) (S : List Evt) (N0 : Nat) (b : AS) (r : List Evt) (sk : List Nat) (m z : Nat) : Prop :=
  (aF b = [(txR el at_ z r sk m, 0, 0)] ∧ aE b = [] ∧ aR b = none ∧ aD b = [] ∧ aA b = [] ∧ aT b = [] ∧ aO b = sk) ∧
  (aN b 0 = N0 ∧ aN b 1 = 0 ∧ aN b 3 = m + (aB b).length + pis (aS b) ∧ aN b 4 = phs sk m ∧ aN b 5 = 0 ∧ aN b 6 = 0 ∧ aN b 8 = N0) ∧
  ((aL b).map e5 = (List.range m).map (e5W el at_) ∧ aB b = flW el at_ m ∧ och (aL b) sk ∧ m ≤ el.length) ∧
  (∃ d, S = d ++ r ∧ aS b = d.map evm) ∧
  (stR (el.map (fun x => x.2.1)) r (sk, m) = some ([], el.length) ∧ nst r (sk.length, decide (0 < m)) = some (0, true)) ∧
  (evl (aS b) + (txR el at_ z r sk m).length ≤ N0 ∧ aN b 2 + (txR el at_ z r sk m).length ≤ N0) ∧
  (z ≤ 2 ∧ (z = 1 → sk = [] ∧ m = 0) ∧ (z = 2 → sk = [] ∧ 0 < m ∧ ∃ t s r', r = .inr (t, s) :: r'))
section Rt11
variable {el : List Elm} {at_ : List Att} {S r : List Evt} {N0 rm nd m z : Nat} {sk : List Nat} {b b' : AS} {t s : Str}
theorem wPi_C {op bh : Bool} : wPi op bh t s = (if op = false ∧ bh = true then [10] else []) ++ (wPiC t (s.flatMap crE) ++ (if bh = false then [10] else [])) := by
  have h2 : (s.flatMap crE = []) ↔ s = [] := by
    cases s with
    | nil => exact ⟨fun _ => rfl, fun _ => rfl⟩
    | cons c s =>
      rw [List.flatMap_cons]
      constructor
      · intro z
        have := (List.append_eq_nil_iff.mp z).1
        unfold crE at this
        split at this
        · rw [ti_1088] at this; cases this
        · cases this
      · intro z; cases z
  have h3 : (if s.flatMap crE = [] then ([] : Str) else [32]) = if s = [] then [] else [32] := by
    by_cases c : s = []
    · rw [if_pos c, if_pos (h2.mpr c)]
    · rw [if_neg c, if_neg (fun z => c (h2.mp z))]
  unfold wPi wPiC
  rw [h3, ti_1087, ti_1089]
  have h4 : s.flatMap (fun c => if c = 13 then ti 1088 else [c]) = s.flatMap crE := rfl
  rw [h4]
  simp only [List.append_assoc]
theorem wPiC_hd : ∃ y, wPiC t s = 60 :: 63 :: y := ⟨_, rfl⟩
theorem wPiC_len (ht : lgn t) : 5 ≤ (wPiC t s).length := by
  obtain ⟨c, y, rfl, -⟩ := lgn_cons ht
  unfold wPiC
  simp only [List.length_append, List.length_cons, List.length_nil]
  omega
theorem wTg_tag {E E0 : Str → Str} {nm : Str} {l : List Att} : wTg E0 E nm l = wTag nm ((wat E0 E l).map cutA) := by
  unfold wTg wTag
  rw [cut_wAt]
  rfl
theorem RT.txt (h : RT el at_ S N0 b r sk m z) : cur b = txR el at_ z r sk m := by
  unfold cur
  rw [h.1.1]
theorem RT.len (h : RT el at_ S N0 b r sk m z) : (aL b).length = m := by
  have := congrArg List.length h.2.2.1.1
  rw [List.length_map, List.length_map, List.length_range] at this
  exact this
theorem och_e5 : ∀ {sk : List Nat} {l l' : List Elm}, l'.map e5 = l.map e5 → och l sk → och l' sk
  | [], l, l', _, _ => trivial
  | x :: sk, l, l', he, h => by
    obtain ⟨h1, h2, h3, h4⟩ := h
    have hl : l'.length = l.length := by
      have := congrArg List.length he
      rw [List.length_map, List.length_map] at this
      exact this
    have hg : e5 (l'.getD x elD) = e5 (l.getD x elD) := by
      have := congrArg (fun w => w.getD x (e5 elD)) he
      try dsimp only at this
      rw [List.getD_eq_getElem?_getD, List.getD_eq_getElem?_getD, List.getElem?_map, List.getElem?_map, List.getElem?_eq_getElem (by rw [hl]; exact h1), List.getElem?_eq_getElem h1] at this
      rw [List.getD_eq_getElem?_getD, List.getD_eq_getElem?_getD, List.getElem?_eq_getElem (by rw [hl]; exact h1), List.getElem?_eq_getElem h1]
      exact this
    exact ⟨by rw [hl]; exact h1, by rw [show (l'.getD x elD).2.1 = (l.getD x elD).2.1 from congrArg (fun w => w.2.1) hg]; exact h2, h3, och_e5 he h4⟩
theorem RT.getN (h : RT el at_ S N0 b r sk m z) {e : Nat} (he : e < m) : ((aL b).getD e elD).1 = (el.getD e elD).1 ∧ ((aL b).getD e elD).2.1 = (el.getD e elD).2.1 ∧ ((aL b).getD e elD).2.2.1 = (flW el at_ e).length ∧ ((aL b).getD e elD).2.2.2.1 = (WQa el at_ e).length := by
  have hl := h.len
  have h1 := congrArg (fun w => w.getD e (e5 elD)) h.2.2.1.1
  try dsimp only at h1
  rw [List.getD_eq_getElem?_getD, List.getD_eq_getElem?_getD, List.getElem?_map, List.getElem?_map, List.getElem?_eq_getElem (by omega), List.getElem?_eq_getElem (by rw [List.length_range]; exact he), List.getElem_range] at h1
  have h2 : e5 ((aL b).getD e elD) = e5W el at_ e := by
    rw [List.getD_eq_getElem?_getD, List.getElem?_eq_getElem (by omega)]
    exact h1
  exact ⟨congrArg (fun w => w.1) h2, congrArg (fun w => w.2.1) h2, congrArg (fun w => w.2.2.1) h2, congrArg (fun w => w.2.2.2.1) h2⟩
theorem flW_s : flW el at_ (m + 1) = flW el at_ m ++ WQa el at_ m := by
  unfold flW
  rw [List.range_succ, List.flatMap_append, List.flatMap_singleton]
theorem flW_mono : ∀ (k : Nat), (flW el at_ m).length ≤ (flW el at_ (m + k)).length
  | 0 => Nat.le_refl _
  | k + 1 => by
    rw [← Nat.add_assoc, flW_s, List.length_append]
    have := flW_mono k
    omega
theorem adv_1 {X : AS} {l : List Int} {k : Nat} (h : aF X = [(l, 0, 0)]) : aF (adv X k) = [(l.drop k, 0, 0)] := by
  unfold adv
  rw [h]
  rfl
/-- a step that adds to the stream, and not to the tree -/
theorem RT.nx (h : RT el at_ S N0 b r sk m z) {X : AS} {x r' : List Evt} {k z' p : Nat} {y : List Int} (hr : r = x ++ r') (htx : txR el at_ z r sk m = y ++ txR el at_ z' r' sk m) (hk : k = y.length)
    (hX : aF X = aF b ∧ aE X = aE b ∧ aR X = aR b ∧ aD X = aD b ∧ aA X = aA b ∧ aT X = aT b ∧ aO X = aO b) (hXN : aN X 0 = aN b 0 ∧ aN X 1 = aN b 1 ∧ aN X 3 = aN b 3 + p ∧ aN X 4 = aN b 4 ∧ aN X 5 = aN b 5 ∧ aN X 6 = aN b 6 ∧ aN X 8 = aN b 8)
    (hXL : (aL X).map e5 = (aL b).map e5 ∧ aB X = aB b ∧ aS X = aS b ++ x.map evm) (hp : p = pis (x.map evm)) (h2 : aN X 2 ≤ aN b 2 + y.length) (hev : evl (x.map evm) ≤ y.length)
    (hst : ∀ q, stR (el.map (fun x => x.2.1)) (x ++ r') (sk, m) = some q → stR (el.map (fun x => x.2.1)) r' (sk, m) = some q) (hns : ∀ q, nst (x ++ r') (sk.length, decide (0 < m)) = some q → nst r' (sk.length, decide (0 < m)) = some q)
    (hz : z' ≤ 2 ∧ (z' = 1 → sk = [] ∧ m = 0) ∧ (z' = 2 → sk = [] ∧ 0 < m ∧ ∃ t s r'', r' = .inr (t, s) :: r'')) (hy : y ≠ []) : RT el at_ S N0 (adv X k) r' sk m z' ∧ (cur (adv X k)).length < (cur b).length := by
  have hcur := h.txt
  obtain ⟨⟨f1, f2, f3, f4, f5, f6, f7⟩, ⟨n0, n1, n3, n4, n5, n6, n8⟩, ⟨t1, t2, t3, t4⟩, ⟨d, d1, d2⟩, ⟨q1, q2⟩, ⟨e1, e2⟩, -⟩ := h
  obtain ⟨g1, g2, g3, g4, g5, g6, g7⟩ := hX
  obtain ⟨m0, m1, m3, m4, m5, m6, m8⟩ := hXN
  obtain ⟨l1, l2, l3⟩ := hXL
  obtain ⟨o1, o2, o3, o4, o5, o6, o7, o8, o9, o10⟩ := adv_other (a := X) (k := k)
  have hF : aF (adv X k) = [(txR el at_ z' r' sk m, 0, 0)] := by
    rw [adv_1 (g1.trans f1), htx, hk, List.drop_left]
  have hln := congrArg List.length htx
  rw [List.length_append] at hln
  have hy1 : 0 < y.length := List.length_pos_iff.mpr hy
  refine ⟨⟨⟨hF, by rw [o1, g2, f2], by rw [o3, g3, f3], by rw [o4, g4, f4], by rw [o5, g5, f5], by rw [o6, g6, f6], by rw [o10, g7, f7]⟩, ⟨by rw [o2, m0, n0], by rw [o2, m1, n1], ?_, by rw [o2, m4, n4], by rw [o2, m5, n5], by rw [o2, m6, n6], by rw [o2, m8, n8]⟩, ⟨by rw [o7, l1, t1], by rw [o8, l2, t2], by rw [o7]; exact och_e5 l1 t3, t4⟩, ⟨d ++ x, by rw [List.append_assoc, ← hr]; exact d1, by rw [o9, l3, d2, List.map_append]⟩, ⟨hst _ (by rw [← hr]; exact q1), hns _ (by rw [← hr]; exact q2)⟩, ⟨?_, ?_⟩, hz⟩, ?_⟩
  · rw [o2, o8, o9, m3, n3, l2, l3, pis_app, hp]
    omega
  · rw [o9, l3, evl_app]
    omega
  · rw [o2]
    omega
  · unfold cur
    rw [hF]
    have : cur b = txR el at_ z r sk m := hcur
    unfold cur at this
    rw [this]
    show (txR el at_ z' r' sk m).length < _
    omega
end Rt11
