/-! ===== items of the class: tags (8): the attributes of a tag ===== -/
/-- between two attributes -/
def TJ (L : Nat → Nat) (rm nd : Nat) (pl : Int) (a : AS) (l : List Int) (p : Nat) (nm : Str) (xe s11 : Int) (i y c m : Nat) (acc : List Att) (ρ : IS) : Prop :=
  (∃ n3 L' B' S' O', RJ L rm nd ρ (adv (sN (sN (trr a n3 L' B' S' O') 0 c) 1 m) y) ∧ TX nd a nm acc acc.length n3 L' B' S' O') ∧ (ρ.1 2 2 = ((p + y : Nat) : Int) ∧ ρ.1 2 3 = ((p + l.length : Nat) : Int) ∧ SHT (gd l) (ρ.2 101) l.length p ∧ p + l.length ≤ jtp ρ ∧ Jn ρ xe nm) ∧ MK s11 (acc.map (fun z => z.1)) ρ ∧ (y ≤ l.length ∧ aN a 0 ≤ c ∧ c ≤ rm ∧ m + rem a ≤ c + i ∧ acc.length ≤ i) ∧ (2 * jw ρ + rsv (XT a nm acc 0) + rem a ≤ c + 38 + (aO a).length + 2 + i ∧ jtp ρ + rem a ≤ (ρ.1 1 2).toNat + aN a 8 + c + i ∧ 2 * (ρ.1 4 16).toNat + rem a ≤ c + i ∧ 2 * jw ρ + rem a ≤ c + 38 + i) ∧ ρ.1 2 5 = pl ∧ ρ.1 1 16 ≤ (L 999 : Int) + (aN a 3 : Int) + 1
section JI39
variable {L : Nat → Nat} {rm nd : Nat} {ρ ρ' σ τ : IS} {a : AS} {Q : IS → Prop}
theorem TJ.mv {l : List Int} {g : Nat × Nat} {t : List Frm} {pl xe s11 : Int} {p i y y' c m : Nat} {nm : Str} {acc : List Att} (hln : JLn L rm nd) (hF : aF a = (l, g) :: t) (h : TJ L rm nd pl a l p nm xe s11 i y c m acc ρ) (hy : y ≤ y') (hy' : y' ≤ l.length) (hj : jp (p + l.length) 0 ρ (some (p + y')) ρ') : TJ L rm nd pl a l p nm xe s11 i y' c m acc ρ' := by
  obtain ⟨⟨n3, L', B', S', O', h1, h1'⟩, ⟨h2, h3, h4, h5, h6⟩, h7, ⟨h8, h8'⟩, h9, h10, h11⟩ := h
  have hFB : aF (sN (sN (trr a n3 L' B' S' O') 0 c) 1 m) = (l, g) :: t := hF
  have hc : (cur (adv (sN (sN (trr a n3 L' B' S' O') 0 c) 1 m) y)).length = l.length - y := by
    rw [adv_of hFB]
    show (l.drop y).length = _
    rw [List.length_drop]
  obtain ⟨hR, hg⟩ := h1.rd hln h2 (show y' - y ≤ _ by rw [hc]; omega) (show jp (p + l.length) 0 ρ (some (p + y + (y' - y))) ρ' from by rw [show p + y + (y' - y) = p + y' by omega]; exact hj)
  rw [adv_adv, show y + (y' - y) = y' by omega] at hR
  obtain ⟨s1, s2, s3, s4, s5⟩ := hj.store
  have e16 : ρ'.1 1 16 = ρ.1 1 16 := hj.keep (by omega) (by omega)
  refine ⟨⟨n3, L', B', S', O', hR, h1'⟩, ⟨hj.at.1, by rw [hj.keep (by omega) (by omega)]; exact h3, by rw [hj.row]; exact h4, by rw [s2]; exact h5, h6.gr hg⟩, h7.gr hg e16 (by rw [hj.row]), ⟨hy', h8'⟩, by rw [s1, s2, s3, s4]; exact h9, by rw [s5]; exact h10, by rw [e16]; exact h11⟩
theorem TJ.js {l : List Int} {pl xe s11 : Int} {p i y c m : Nat} {nm : Str} {acc : List Att} (hln : JLn L rm nd) (h : TJ L rm nd pl a l p nm xe s11 i y c m acc ρ) : JS L ρ (p + l.length) ∧ jp (p + l.length) 0 ρ (some (p + y)) ρ := by
  obtain ⟨⟨n3, L', B', S', O', h1, h1'⟩, ⟨h2, h3, h4, h5, h6⟩, h7, ⟨h8, h8'⟩, h9, h10, h11⟩ := h
  have h9 : L 101 < 1000000 := hln.1.2.2.2.2.2.2.2
  have hjl := h1.1.1.jtp_le
  have hJS : JS L ρ (p + l.length) := ⟨h3, by omega, h9, h1.2.2.2.2.2.2.2.2.2.2.2.1, h1.1.2.2.2.2.2.1⟩
  exact ⟨hJS, jp.start' hJS (by omega) h2⟩
theorem trr_mg2 {n3 n3' c m c' m' : Nat} {L' L'' : List Elm} {B' B'' : List Att} {S' S'' : List Evt} {O' O'' : List Nat} : trr (sN (sN (sN (sN (trr a n3 L' B' S' O') 0 c) 1 m) 0 c') 1 m') n3' L'' B'' S'' O'' = sN (sN (trr a n3' L'' B'' S'' O'') 0 c') 1 m' := by
  unfold trr sO sS sB sL sN
  dsimp only
  congr 3
  funext j
  by_cases h3 : j = 3
  · rw [if_pos h3, if_neg (by omega), if_neg (by omega), if_pos h3]
  · by_cases h1 : j = 1
    · simp [h1]
    · by_cases h0 : j = 0
      · simp [h0]
      · simp [h0, h1, h3]
theorem sN_id2 : sN (sN a 0 (aN a 0)) 1 (aN a 1) = a := sN_id
theorem tch_nms : (aL (tch a false)).map (fun x => x.1) = (aL a).map (fun x => x.1) := by
  cases hO : aO a with
  | nil => unfold tch; rw [hO]
  | cons e r =>
    rw [tch_L hO]
    apply List.ext_getElem?
    intro i
    rw [List.getElem?_map, List.getElem?_map, List.getElem?_modify]
    cases (aL a)[i]? with
    | none => rfl
    | some x =>
      by_cases c : e = i
      · simp [c]
      · simp [c]
theorem nms_XT {nm : Str} {acc : List Att} {g : Nat} : nms (XT a nm acc g) = ((aL a).map (fun x => x.1) ++ [nm]) ++ (((aB a).map (fun x => x.1) ++ acc.map (fun x => x.1)) ++ (aA a).map (fun x => x.2.1)) := by
  show (aL (tch a false) ++ [(nm, par a, (aB a).length, acc.length, g, false, false)]).map (fun x => x.1) ++ ((aB a ++ acc).map (fun x => x.1) ++ (aA a).map (fun x => x.2.1)) = _
  rw [List.map_append, List.map_append, tch_nms]
  rfl
theorem rsv_XT0 {nm : Str} {g : Nat} : rsv (XT a nm [] g) ≤ rsv a + (if spt nm = true then 4 else 0) := by
  have h1 := dst_le (l := nms a) (l' := nms (XT a nm [] g)) (m := if spt nm = true then [nm] else []) (fun s hs hsp => by
    rw [nms_XT] at hs
    unfold nms
    simp only [List.mem_append, List.mem_singleton, List.map_nil, List.not_mem_nil, or_false] at hs ⊢
    rcases hs with (hs | hs) | (hs | hs)
    · exact Or.inl (Or.inl hs)
    · subst hs
      rw [if_pos hsp]
      exact Or.inr (List.mem_singleton.mpr rfl)
    · exact Or.inl (Or.inr (Or.inl hs))
    · exact Or.inl (Or.inr (Or.inr hs)))
  have h2 : cnl (aD (XT a nm [] g)) = cnl (aD a) := rfl
  unfold rsv
  rw [h2]
  by_cases c : spt nm = true
  · rw [if_pos c] at h1 ⊢
    rw [List.length_singleton] at h1
    omega
  · rw [if_neg c] at h1 ⊢
    rw [List.length_nil] at h1
    omega
theorem rsv_XT1 {nm : Str} {acc : List Att} {x : Att} {g : Nat} : rsv (XT a nm (acc ++ [x]) g) ≤ rsv (XT a nm acc g) + (if spt x.1 = true then 4 else 0) := by
  have h1 := dst_le (l := nms (XT a nm acc g)) (l' := nms (XT a nm (acc ++ [x]) g)) (m := if spt x.1 = true then [x.1] else []) (fun s hs hsp => by
    rw [nms_XT] at hs ⊢
    simp only [List.mem_append, List.mem_singleton, List.map_append, List.map_cons, List.map_nil] at hs ⊢
    rcases hs with (hs | hs) | ((hs | (hs | hs)) | hs)
    · exact Or.inl (Or.inl (Or.inl hs))
    · exact Or.inl (Or.inl (Or.inr hs))
    · exact Or.inl (Or.inr (Or.inl (Or.inl hs)))
    · exact Or.inl (Or.inr (Or.inl (Or.inr hs)))
    · subst hs
      rw [if_pos hsp]
      exact Or.inr (List.mem_singleton.mpr rfl)
    · exact Or.inl (Or.inr (Or.inr hs)))
  have h2 : cnl (aD (XT a nm (acc ++ [x]) g)) = cnl (aD (XT a nm acc g)) := rfl
  unfold rsv
  rw [h2]
  by_cases c : spt x.1 = true
  · rw [if_pos c] at h1 ⊢
    rw [List.length_singleton] at h1
    omega
  · rw [if_neg c] at h1 ⊢
    rw [List.length_nil] at h1
    omega
/-- defaults bring no new names -/
theorem dfl_nms {ad : List ADc} {el : Str} {gv : List Att} {x : Att} (h : x ∈ dfl ad el gv) : x.1 ∈ ad.map (fun z => z.2.1) := by
  unfold dfl at h
  rw [List.mem_filterMap] at h
  obtain ⟨d, hd, hx⟩ := h
  rw [List.mem_range] at hd
  split at hx
  · cases hx
    exact List.mem_map.mpr ⟨_, getD_mem hd, rfl⟩
  · cases hx
theorem rsv_nel {nm : Str} {gv : List Att} {k c m : Nat} : rsv (nel a nm gv (gv ++ dfl (aA a) nm gv) k c m) ≤ rsv (XT a nm gv 0) := by
  obtain ⟨o1, o2, o3, o4, o5, o6, o7, o8, o9, o10⟩ := adv_other (a := tch a false) (k := k)
  obtain ⟨t1, t2, t3, t4, t5, t6, t7, t8, t9, t10⟩ := tch_other (a := a) (sp := false)
  have eA : aA (nel a nm gv (gv ++ dfl (aA a) nm gv) k c m) = aA a := by
    show aA (adv (tch a false) k) = _
    rw [o5, t6]
  have eD : aD (nel a nm gv (gv ++ dfl (aA a) nm gv) k c m) = aD a := by
    show aD (adv (tch a false) k) = _
    rw [o4, t5]
  have h1 := dst_le (l := nms (XT a nm gv 0)) (l' := nms (nel a nm gv (gv ++ dfl (aA a) nm gv) k c m)) (m := []) (fun s hs hsp => by
    left
    have e1 : nms (nel a nm gv (gv ++ dfl (aA a) nm gv) k c m) = ((aL a).map (fun x => x.1) ++ [nm]) ++ (((aB a).map (fun x => x.1) ++ (gv.map (fun x => x.1) ++ (dfl (aA a) nm gv).map (fun x => x.1))) ++ (aA a).map (fun x => x.2.1)) := by
      unfold nms
      rw [eA]
      show (aL (tch a false) ++ [(nm, par a, (aB a).length, (gv ++ dfl (aA a) nm gv).length, gv.length, false, false)]).map (fun x => x.1) ++ ((aB a ++ (gv ++ dfl (aA a) nm gv)).map (fun x => x.1) ++ _) = _
      rw [List.map_append, List.map_append, List.map_append, tch_nms]
      rfl
    rw [e1] at hs
    rw [nms_XT]
    simp only [List.mem_append] at hs ⊢
    rcases hs with hs | ((hs | (hs | hs)) | hs)
    · exact Or.inl hs
    · exact Or.inr (Or.inl (Or.inl hs))
    · exact Or.inr (Or.inl (Or.inr hs))
    · obtain ⟨x, hx1, hx2⟩ := List.mem_map.mp hs
      rw [← hx2]
      exact Or.inr (Or.inr (dfl_nms hx1))
    · exact Or.inr (Or.inr hs))
  rw [List.length_nil] at h1
  unfold rsv
  rw [eD]
  have h2 : cnl (aD (XT a nm gv 0)) = cnl (aD a) := rfl
  rw [h2]
  omega
end JI39
