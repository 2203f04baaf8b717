/-! ===== documents that may be written (pure) ===== -/
section Rt16
variable {el : List Elm} {at_ : List Att} {S : List Evt} {N0 rm nd : Nat} {a b : AS}
theorem nm3_all (h0 : ¬ ∃ k, k < 6 ∧ 0 < cnS a k) {e : Nat} (he : e < (aL a).length) : ∀ t ∈ ats (aB a) ((aL a).getD e elD), nm3 t = 0 := by
  have h3 : cnS a 3 = 0 := by
    by_cases c : cnS a 3 = 0
    · exact c
    · exact absurd ⟨3, by decide, by omega⟩ h0
  unfold cnS at h3
  rw [if_neg (by decide), Nat.zero_add] at h3
  have h4 := sn_zero h3 e he
  unfold spE at h4
  rw [if_pos rfl] at h4
  have h5 : sn (fun i => nm3 ((aB a).getD (((aL a).getD e elD).2.2.1 + i) atD)) ((aL a).getD e elD).2.2.2.1 = 0 := by omega
  intro t ht
  unfold ats at ht
  obtain ⟨i, i1, rfl⟩ := List.mem_map.mp ht
  exact sn_zero h5 i (List.mem_range.mp i1)
theorem lgn_ok {s : Str} (h : lgn s) : ∀ c ∈ s, 0 ≤ c ∧ c ≤ 1114111 := fun c hc => isCh_rg (isNm_nE (h.2 c hc)).2.2.2.2
theorem PIg.ok {t s : Str} (h : PIg t s) : okL t ∧ okL s := ⟨lgn_ok h.1, fun c hc => isCh_rg (h.2.2.2.2 c hc)⟩
theorem WDo_of (hG : GOK rm nd a) (hX : GX a) (h0 : ¬ ∃ k, k < 6 ∧ 0 < cnS a k) : WDo (aL a) (aB a) (aS a) := by
  obtain ⟨gi, gf, gv, gs, gd, gw, gn⟩ := hG
  refine ⟨⟨fun i hi c hc => ?_, fun i hi => ?_, fun i hi => ?_⟩, fun e he => ⟨KD_all gn h0 e he, nm3_all h0 he⟩, ⟨_, gw.2.1⟩, fun v hv c hc => ?_, fun t s hm => (hX.2.2.2.1 t s hm).ok⟩
  · exact isCh_rg ((hX.2.2.1 _ (by rw [List.getD_eq_getElem?_getD, List.getElem?_eq_getElem hi]; exact List.getElem_mem hi)).2 c hc)
  · exact lgn_ok (hX.2.1 (e5 ((aL a).getD i elD)) (List.mem_map.mpr ⟨_, by rw [List.getD_eq_getElem?_getD, List.getElem?_eq_getElem hi]; exact List.getElem_mem hi, rfl⟩))
  · exact lgn_ok (hX.2.2.1 _ (by rw [List.getD_eq_getElem?_getD, List.getElem?_eq_getElem hi]; exact List.getElem_mem hi)).1
  · rcases gw.2.2 v hv c hc with z | z
    · omega
    · exact (isCh_rg z).2
theorem stR_evm {pl : List Int} : ∀ {st : List Evt} {q : List Nat × Nat}, stR pl (st.map evm) q = stR pl st q
  | [], q => rfl
  | .inr x :: r, q => by
    show stR pl (r.map evm) q = stR pl r q
    exact stR_evm
  | .inl c :: r, (sk, m) => by
    show stR pl (.inl c :: r.map evm) (sk, m) = _
    rw [stR_c, stR_c]
    split
    · cases sk with
      | nil => rfl
      | cons e q => exact stR_evm
    · split
      · split
        · exact stR_evm
        · rfl
      · exact stR_evm
theorem RT.pars (h : RT el at_ S N0 b [] [] el.length 0) : (aL b).map (fun x => x.2.1) = el.map (fun x => x.2.1) := by
  refine List.ext_getElem (by rw [List.length_map, List.length_map, h.len]) (fun i i1 i2 => ?_)
  rw [List.length_map] at i1 i2
  rw [List.getElem_map, List.getElem_map]
  have := (h.getN i2).2.1
  rw [List.getD_eq_getElem?_getD, List.getD_eq_getElem?_getD, List.getElem?_eq_getElem i1, List.getElem?_eq_getElem i2] at this
  exact this
/-- what was read again may be written again -/
theorem WDo_b (hc : RTc el at_ S) (h : RT el at_ S N0 b [] [] el.length 0) (h3 : ∀ e, e < el.length → ∀ t ∈ ats at_ (el.getD e elD), nm3 t = 0) (hst : ∃ q, stR (el.map (fun x => x.2.1)) S ([], 0) = some q) : WDo (aL b) (aB b) (aS b) := by
  have hs := h.sam
  have hL := h.len
  have hgB : ∀ i, i < (aB b).length → ∃ e, e < el.length ∧ ∃ t ∈ ats at_ (el.getD e elD), (aB b).getD i atD = cutA t := fun i hi => h.nmA _ (by rw [List.getD_eq_getElem?_getD, List.getElem?_eq_getElem hi]; exact List.getElem_mem hi)
  obtain ⟨d, d1, d2⟩ := h.2.2.2.1
  rw [List.append_nil] at d1
  subst d1
  refine ⟨⟨fun i hi c hcc => ?_, fun i hi => ?_, fun i hi => ?_⟩, fun e he => ⟨?_, fun t ht => ?_⟩, ?_, fun v hv c hcc => ?_, fun t s hm => ?_⟩
  · obtain ⟨e, e1, t, t1, t2⟩ := hgB i hi
    rw [t2] at hcc
    exact isCh_rg (((hc.2.1 e e1).2 t t1).2 c hcc)
  · rw [(h.getN (by omega)).1]
    exact lgn_ok (hc.2.1 i (by omega)).1
  · obtain ⟨e, e1, t, t1, t2⟩ := hgB i hi
    rw [t2]
    exact lgn_ok ((hc.2.1 e e1).2 t t1).1
  · have he' : e < el.length := by omega
    rw [hs.en hc.1.1 hc.1.2 (e + 1) (e : Int) (by omega) (by omega) (by omega), (hs.2 e he').2.2]
    unfold KD WQa
    refine List.Pairwise.imp (fun {x y} hxy z => ?_) (cut_pw (wat_pw (E0 := EN el at_ (el.getD e elD).2.1) (hc.1.2 e he').1))
    rw [z, klt_irr] at hxy
    cases hxy
  · have he' : e < el.length := by omega
    rw [(hs.2 e he').2.2] at ht
    obtain ⟨u, u1, rfl⟩ := List.mem_map.mp ht
    exact h3 e he' u (mem_wat.mp u1).1
  · obtain ⟨q, hq⟩ := hst
    exact ⟨q, by rw [h.pars, d2, stR_evm]; exact hq⟩
  · rw [d2] at hv
    obtain ⟨w, w1, w2⟩ := List.mem_map.mp hv
    cases w with
    | inr y => rw [hcc] at w2; cases w2
    | inl c' =>
      have : c' = c := by rw [hcc] at w2; exact Sum.inl.inj w2
      rcases hc.2.2.2.1 _ w1 c' rfl with z | z
      · omega
      · have := (isCh_rg z).2; omega
  · rw [d2] at hm
    obtain ⟨w, w1, w2⟩ := List.mem_map.mp hm
    cases w with
    | inl c' => cases w2
    | inr y =>
      obtain ⟨t', s'⟩ := y
      cases w2
      exact (hc.2.2.1 _ _ w1).cr.ok
/-- relative names of spaces, attribute by attribute -/
theorem dvA_mem : ∀ {m : Nat} {v : Str}, v ∈ dvA el at_ m ↔ ∃ e, e < m ∧ ∃ i, i < (el.getD e elD).2.2.2.1 ∧ (dcl (at_.getD ((el.getD e elD).2.2.1 + i) atD).1).isSome = true ∧ v = (at_.getD ((el.getD e elD).2.2.1 + i) atD).2.1
  | 0, v => ⟨fun h => (by cases h), fun ⟨e, h, _⟩ => absurd h (Nat.not_lt_zero _)⟩
  | m + 1, v => by
    show v ∈ dvA el at_ m ++ dvs at_ (el.getD m elD).2.2.1 (el.getD m elD).2.2.2.1 ↔ _
    rw [List.mem_append, dvA_mem]
    unfold dvs
    rw [List.mem_filterMap]
    constructor
    · rintro (⟨e, e1, e2⟩ | ⟨i, i1, i2⟩)
      · exact ⟨e, by omega, e2⟩
      · split at i2
        · rename_i hd
          exact ⟨m, by omega, i, List.mem_range.mp i1, hd, (Option.some.inj i2).symm⟩
        · cases i2
    · rintro ⟨e, e1, i, i1, i2, i3⟩
      by_cases c : e = m
      · subst c
        exact Or.inr ⟨i, List.mem_range.mpr i1, by rw [if_pos i2, i3]⟩
      · exact Or.inl ⟨e, by omega, i, i1, i2, i3⟩
theorem rlv_iff (hS : (segs el).map Prod.fst = List.range at_.length) : rlv (dvA el at_ el.length) = true ↔ ∃ i, i < at_.length ∧ (dcl (at_.getD i atD).1).isSome = true ∧ (at_.getD i atD).2.1 ≠ [] ∧ isAbs (at_.getD i atD).2.1 = false := by
  have hmem : ∀ j, j < at_.length ↔ ∃ e, e < el.length ∧ ∃ i, i < (el.getD e elD).2.2.2.1 ∧ j = (el.getD e elD).2.2.1 + i := fun j => by
    rw [← List.mem_range, ← hS, List.mem_map]
    unfold segs
    constructor
    · rintro ⟨z, z1, z2⟩
      obtain ⟨x, x1, x2⟩ := List.mem_flatMap.mp z1
      unfold seg at x2
      obtain ⟨i, i1, i2⟩ := List.mem_map.mp x2
      obtain ⟨e, e1, e2⟩ := List.getElem_of_mem x1
      have he : el.getD e elD = x := by rw [List.getD_eq_getElem?_getD, List.getElem?_eq_getElem e1]; exact e2
      exact ⟨e, e1, i, by rw [he]; exact List.mem_range.mp i1, by rw [he, ← z2, ← i2]⟩
    · rintro ⟨e, e1, i, i1, rfl⟩
      refine ⟨((el.getD e elD).2.2.1 + i, decide ((el.getD e elD).2.2.2.2.1 ≤ i)), List.mem_flatMap.mpr ⟨el.getD e elD, by rw [List.getD_eq_getElem?_getD, List.getElem?_eq_getElem e1]; exact List.getElem_mem e1, List.mem_map.mpr ⟨i, List.mem_range.mpr i1, rfl⟩⟩, rfl⟩
  unfold rlv
  rw [List.any_eq_true]
  constructor
  · rintro ⟨v, v1, v2⟩
    obtain ⟨e, e1, i, i1, i2, i3⟩ := dvA_mem.mp v1
    rw [Bool.and_eq_true, Bool.not_eq_true', decide_eq_true_eq] at v2
    exact ⟨_, (hmem _).mpr ⟨e, e1, i, i1, rfl⟩, i2, by rw [← i3]; exact v2.1, by rw [← i3]; exact v2.2⟩
  · rintro ⟨j, j1, j2, j3, j4⟩
    obtain ⟨e, e1, i, i1, rfl⟩ := (hmem j).mp j1
    exact ⟨_, dvA_mem.mpr ⟨e, e1, i, i1, j2, rfl⟩, by rw [decide_eq_true j3, j4]; rfl⟩
end Rt16
