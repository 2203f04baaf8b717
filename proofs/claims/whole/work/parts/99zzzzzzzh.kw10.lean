/-! ===== room (10): strings that are kept (pure) ===== -/
/-- names with what is split from them -/
noncomputable def LLm (M : List Str) : List Str := M.flatMap (fun m => m :: plk m)
section KwA
variable {rm nd : Nat} {a a' : AS} {X : TT} {bk M V U : List Str}
theorem sub_sum (f : Str → Nat) : ∀ (l L : List Str), l.Nodup → (∀ s ∈ l, s ∈ L) → (l.map f).sum ≤ (L.map f).sum
  | [], _, _, _ => Nat.zero_le _
  | s :: l, L, hn, h => by
    obtain ⟨A, B, hAB⟩ := List.append_of_mem (h s List.mem_cons_self)
    subst hAB
    have hn' := List.nodup_cons.mp hn
    have ih := sub_sum f l (A ++ B) hn'.2 (fun x hx => by
      have := h x (List.mem_cons_of_mem _ hx)
      rcases List.mem_append.mp this with y | y
      · exact List.mem_append_left _ y
      · rcases List.mem_cons.mp y with y | y
        · rw [y] at hx; exact absurd hx hn'.1
        · exact List.mem_append_right _ y)
    simp only [List.map_append, List.map_cons, List.sum_append, List.sum_cons] at ih ⊢
    omega
theorem ltS_sub {l L : List Str} (h : l.Nodup) (hs : ∀ s ∈ l, s ∈ L) : ltS l ≤ ltS L := sub_sum List.length l L h hs
theorem plk_lt {s : Str} : ltS (plk s) ≤ s.length := by
  unfold plk
  split
  · rename_i h
    have h1 := prf_1 h
    have e1 : pfx s = s.take (clk s s.length).1.toNat := by unfold pfx; rw [h1.1]; rfl
    rw [ltS_cons, ltS_cons, ltS_nil, e1, h1.2, List.length_take, List.length_drop]
    omega
  · exact Nat.zero_le _
theorem LLm_app {N : List Str} : LLm (M ++ N) = LLm M ++ LLm N := by unfold LLm; rw [List.flatMap_append]
theorem LLm_lt : ltS (LLm M) ≤ 2 * ltS M := by
  induction M with
  | nil => exact Nat.le_refl _
  | cons s M ih =>
    have e1 : LLm (s :: M) = (s :: plk s) ++ LLm M := rfl
    rw [e1, ltS_app, ltS_cons, ltS_cons]
    have := plk_lt (s := s)
    omega
theorem LLm_mem {s : Str} (h : s ∈ M) : s ∈ LLm M := List.mem_flatMap.mpr ⟨s, h, List.mem_cons_self⟩
theorem LLm_plk {s m : Str} (h : m ∈ M) (hs : s ∈ plk m) : s ∈ LLm M := List.mem_flatMap.mpr ⟨m, h, List.mem_cons_of_mem _ hs⟩
theorem LLm_sub {N : List Str} (h : ∀ s ∈ M, s ∈ N) {s : Str} (hs : s ∈ LLm M) : s ∈ LLm N := by
  obtain ⟨m, h1, h2⟩ := List.mem_flatMap.mp hs
  exact List.mem_flatMap.mpr ⟨m, h m h1, h2⟩
theorem kpS_mem {s t : Str} : t ∈ kpS bk s ↔ t ∈ bk ∨ t = s := by
  unfold kpS
  split
  · rename_i h
    exact ⟨fun z => Or.inl z, fun z => by rcases z with z | z; exact z; rw [z]; exact h⟩
  · rw [List.mem_append, List.mem_singleton]
theorem kpL_mem : ∀ {l bk : List Str} {t : Str}, t ∈ kpL bk l ↔ t ∈ bk ∨ t ∈ l
  | [], bk, t => by rw [kpL_nil]; exact ⟨fun z => Or.inl z, fun z => by rcases z with z | z; exact z; cases z⟩
  | s :: l, bk, t => by
    have e1 : kpL bk (s :: l) = kpL (kpS bk s) l := rfl
    rw [e1, kpL_mem, kpS_mem, List.mem_cons]
    constructor
    · rintro ((z | z) | z)
      · exact Or.inl z
      · exact Or.inr (Or.inl z)
      · exact Or.inr (Or.inr z)
    · rintro (z | z | z)
      · exact Or.inl (Or.inl z)
      · exact Or.inl (Or.inr z)
      · exact Or.inr z
theorem kpL_nd : ∀ {l bk : List Str}, bk.Nodup → (kpL bk l).Nodup
  | [], bk, h => by rw [kpL_nil]; exact h
  | s :: l, bk, h => by
    have e1 : kpL bk (s :: l) = kpL (kpS bk s) l := rfl
    rw [e1]
    exact kpL_nd (kpS_nd h)
theorem kpL_lt : ∀ {l bk : List Str}, ltS (kpL bk l) ≤ ltS bk + ltS l
  | [], bk => by rw [kpL_nil, ltS_nil]; omega
  | s :: l, bk => by
    have e1 : kpL bk (s :: l) = kpL (kpS bk s) l := rfl
    have h1 : ltS (kpS bk s) ≤ ltS bk + s.length := by
      unfold kpS
      split
      · omega
      · rw [ltS_app, ltS_cons, ltS_nil]; omega
    have := kpL_lt (l := l) (bk := kpS bk s)
    rw [e1, ltS_cons]
    omega
/-- room for strings, by two lists that hold them all -/
theorem kcL_of : ∀ {l bk : List Str}, bk.Nodup → (∀ s ∈ bk, s ∈ U) → (∀ s ∈ l, s ∈ U) → U.length ≤ 50000 → (∀ s ∈ bk, s ∈ M) → (∀ s ∈ l, s ∈ M) → ltS M ≤ 170000 → kcL bk l
  | [], _, _, _, _, _, _, _, _ => trivial
  | s :: l, bk, hn, h1, h2, h3, h4, h5, h6 => by
    have hU : ∀ t ∈ kpS bk s, t ∈ U := fun t ht => by
      rcases kpS_mem.mp ht with z | z
      · exact h1 t z
      · rw [z]; exact h2 s List.mem_cons_self
    have hM : ∀ t ∈ kpS bk s, t ∈ M := fun t ht => by
      rcases kpS_mem.mp ht with z | z
      · exact h4 t z
      · rw [z]; exact h5 s List.mem_cons_self
    refine ⟨?_, kcL_of (kpS_nd hn) hU (fun t ht => h2 t (List.mem_cons_of_mem _ ht)) h3 hM (fun t ht => h5 t (List.mem_cons_of_mem _ ht)) h6⟩
    by_cases c : s ∈ bk
    · exact Or.inl c
    · refine Or.inr ?_
      have e1 : kpS bk s = bk ++ [s] := by unfold kpS; rw [if_neg c]
      have hn' := kpS_nd (s := s) hn
      rw [e1] at hn' hU hM
      have l1 := nodup_sub hn' hU
      have l2 := ltS_sub hn' hM
      rw [List.length_append, List.length_singleton] at l1
      rw [ltS_app, ltS_cons, ltS_nil] at l2
      unfold ltS at l2 h6
      exact ⟨by omega, by omega⟩
/-- strings: M names, V values, U all that are or may be kept -/
def GR (a : AS) (bk : List Str) (X : TT) (M V U : List Str) : Prop :=
  (M.Nodup ∧ ∀ s ∈ M, s ∈ X.1) ∧ (∀ s ∈ bk, s ∈ LLm M ∧ s ∈ U) ∧ (ltS V + ltS M + rem a ≤ aN a 0 ∧ 2 * U.length + rem a ≤ aN a 0) ∧
  (∀ x ∈ aA a, ((x.2.1 ∈ M ∧ x.2.1 ∈ U) ∧ (∀ s ∈ plk x.2.1, s ∈ U) ∧ x.2.2.2.2.1 ∈ V ∧ x.2.2.2.2.1 ∈ U ∧ (x.1, x.2.1) ∈ X.2.1) ∧ x.2.2.1 ≤ 9 ∧ x.2.2.2.1 ≤ 4 ∧ ∀ c ∈ x.2.1, isNm c = true) ∧
  (∀ x ∈ (aL a).map e5, x.1 ∈ M ∧ ∀ s ∈ (plk x.1).take 1, s ∈ U) ∧ (∀ x ∈ aB a, x.1 ∈ M ∧ x.2.1 ∈ V ∧ (x.2.2 ≠ none → x.2.1 ∈ U))
theorem adf_in {ad : List ADc} {el s : Str} {d : Nat} (h : adf ad el s = some d) : ad.getD d adD ∈ ad ∧ (ad.getD d adD).1 = el ∧ (ad.getD d adD).2.1 = s := by
  unfold adf at h
  obtain ⟨h1, h2, -⟩ := List.findIdx?_eq_some_iff_getElem.mp h
  have e1 : ad.getD d adD = ad[d] := by rw [List.getD_eq_getElem?_getD, List.getElem?_eq_getElem h1]; rfl
  rw [Bool.and_eq_true, beq_iff_eq, beq_iff_eq] at h2
  rw [e1]
  exact ⟨List.getElem_mem _, h2.1, h2.2⟩
/-- an entity's name is the one that the text has -/
theorem nmE_s (h8 : 8 ≤ (cur a).length) : ∀ s ∈ nmE a, s ∈ nmEs (cur a) := by
  intro s hs
  unfold nmE at hs
  split at hs
  · rename_i b f n hb hf hn
    obtain ⟨f', n', t', m, k, tx, h1, h2, h3, h4, h5, h6, h7, h9, h10, h11, h12, h13⟩ := iEnt_at h8 hb
    obtain ⟨b', hb1, hb2⟩ := h13 (a0 (cur a)) rfl
    rw [hf] at h1
    cases h1
    rw [hf, h2] at hn
    cases hn
    have : enS (cur a) = some (sl (gd (cur a)) f (n - f), enP (gd (cur a)) (cur a).length 0, tx) := by
      unfold enS
      rw [hb1]
      dsimp only
      rw [hb2]
      have e1 : eno (aE (a0 (cur a))) (sl (gd (cur a)) f (n - f)) (enP (gd (cur a)) (cur a).length 0) = none := rfl
      rw [e1, if_neg (by decide)]
      rw [(adv_other (a := sN (sE (a0 (cur a)) (aE (a0 (cur a)) ++ [(sl (gd (cur a)) f (n - f), enP (gd (cur a)) (cur a).length 0, tx)])) 2 (aN (a0 (cur a)) 2 + (hasc (sl (gd (cur a)) f (n - f))).toNat)) (k := k)).1]
      rfl
    unfold nmEs
    rw [this]
    exact hs
  · cases hs
end KwA
