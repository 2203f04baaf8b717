/-! ===== what was read again: the tree, as the reference's end wants it (pure) ===== -/
section Rt17
variable {el : List Elm} {at_ : List Att} {S r : List Evt} {N0 rm nd m z : Nat} {sk : List Nat} {a b : AS}
theorem pfN_ext {el' : List Elm} : ∀ (n : Nat), (∀ e, e < n → (el'.getD e elD).1 = (el.getD e elD).1) → pfN el' n = pfN el n
  | 0, _ => rfl
  | n + 1, h => by
    show pfN el' n ++ _ = pfN el n ++ _
    rw [pfN_ext n (fun e he => h e (by omega)), h n (by omega)]
theorem RT.segs (h : RT el at_ S N0 b r sk m z) : (segs (aL b)).map Prod.fst = List.range (aB b).length := by
  rw [segs_e5, h.2.2.1.1, h.2.2.1.2.1]
  have key : ∀ k, (((List.range k).map (e5W el at_)).flatMap seg5).map Prod.fst = List.range (flW el at_ k).length := fun k => by
    induction k with
    | zero => rfl
    | succ k ih =>
      rw [List.range_succ, List.map_append, List.flatMap_append, List.map_append, ih, flW_s, List.length_append, List.range_add]
      congr 1
      show ((List.flatMap seg5 [e5W el at_ k]).map Prod.fst) = _
      rw [List.flatMap_singleton]
      unfold seg5 e5W
      rw [List.map_map]
      rfl
  exact key m
theorem RT.gs (h : RT el at_ S N0 b r sk m z) : GS b := by
  refine ⟨h.segs, fun w hw hw2 => ?_⟩
  exfalso
  rw [segs_e5, h.2.2.1.1] at hw
  obtain ⟨x, x1, x2⟩ := List.mem_flatMap.mp hw
  obtain ⟨e, e1, rfl⟩ := List.mem_map.mp x1
  unfold seg5 at x2
  obtain ⟨i, i1, rfl⟩ := List.mem_map.mp x2
  have i2 := List.mem_range.mp i1
  have i3 : (e5W el at_ e).2.2.2.2 ≤ i := of_decide_eq_true hw2
  have i4 : i < (WQa el at_ e).length := i2
  have i5 : (WQa el at_ e).length ≤ i := i3
  omega
theorem RT.gm (hc : RTc el at_ S) (h : RT el at_ S N0 b r sk m z) : GM b := by
  refine ⟨fun x hx => ?_, fun x hx => ?_, fun x hx => ?_⟩
  · rw [h.1.2.2.2.2.1] at hx; cases hx
  · obtain ⟨e, e1, rfl⟩ := h.nmE x hx
    exact (hc.2.1 e e1).1.2
  · obtain ⟨e, e1, t, t1, rfl⟩ := h.nmA x hx
    exact ((hc.2.1 e e1).2 t t1).1.2
theorem RT.dst (hc : RTc el at_ S) (h : RT el at_ S N0 b [] [] el.length 0) {e : Nat} (he : e < el.length) : DST (aB b) ((aL b).getD e elD) := by
  intro i j hij hj p h1 h2
  have hat := (h.sam.2 e he).2.2
  have hnd := (WQa_ok hc he).2
  rw [← hat] at hnd
  have hl : ((ats (aB b) ((aL b).getD e elD)).map (fun z => z.1)).length = ((aL b).getD e elD).2.2.2.1 := by rw [List.length_map, ats_len]
  have h3 := List.pairwise_iff_getElem.mp hnd i j (by rw [hl]; omega) (by rw [hl]; exact hj) hij
  refine h3 ?_
  rw [List.getElem_map, List.getElem_map]
  have ei : ∀ m (hm : m < (ats (aB b) ((aL b).getD e elD)).length), (ats (aB b) ((aL b).getD e elD))[m] = (aB b).getD (((aL b).getD e elD).2.2.1 + m) atD := fun m hm => by
    have h7 := ats_get (at_ := aB b) (x := (aL b).getD e elD) (i := m) (by rw [ats_len] at hm; exact hm)
    rw [List.getD_eq_getElem?_getD, List.getElem?_eq_getElem hm] at h7
    exact h7
  rw [ei, ei]
  exact dcl_inj h1 h2
theorem RT.pdx {L : Nat → Nat} {o : Nat} (hc : RTc el at_ S) (hnd : el.length + (flW el at_ el.length).length + pis S ≤ nd) (hnd2 : nd ≤ 16384) (hL8 : 16500 ≤ L (rfo o 8)) (h : RT el at_ S N0 b [] [] el.length 0) : PDx L o b := by
  have hL := h.len
  have hB := h.2.2.1.2.1
  refine ⟨fun i hi => ?_, fun i hi => ⟨?_, h.dst hc (by omega)⟩, by rw [hB]; omega, by omega, h.gm hc⟩
  · rw [(h.getN (by omega)).2.1]
    exact hc.1.1 i (by omega)
  · obtain ⟨-, -, h3, h4⟩ := h.getN (show i < el.length by omega)
    rw [h3, h4, hB]
    have := flW_mono (el := el) (at_ := at_) (m := i + 1) (el.length - (i + 1))
    rw [Nat.add_sub_cancel' (by omega), flW_s, List.length_append] at this
    exact this
end Rt17
