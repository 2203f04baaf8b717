/-! ===== names in a tag are different (pure) ===== -/
/-- no attribute is declared twice -/
def UQ (ad : List ADc) : Prop := ∀ i j, i < j → j < ad.length → ¬ ((ad.getD i adD).1 = (ad.getD j adD).1 ∧ (ad.getD i adD).2.1 = (ad.getD j adD).2.1)
def nmL (at_ : List Att) (f n : Nat) : List Str := (List.range n).map (fun i => (at_.getD (f + i) atD).1)
def GN (a : AS) : Prop := UQ (aA a) ∧ ∀ x ∈ (aL a).map e5, x.2.2.1 + x.2.2.2.1 ≤ (aB a).length ∧ (nmL (aB a) x.2.2.1 x.2.2.2.1).Nodup
section Uqs
variable {rm nd n : Nat} {a a' : AS} {B : Nat → Int} {k : Nat}
theorem UQ.app {ad : List ADc} {u : ADc} (h : UQ ad) (hn : adf ad u.1 u.2.1 = none) : UQ (ad ++ [u]) := by
  intro i j hij hj
  rw [List.length_append, List.length_singleton] at hj
  by_cases c : j < ad.length
  · rw [getD_app_l (by omega), getD_app_l c]
    exact h i j hij c
  · have ej : j = ad.length := by omega
    have e1 : (ad ++ [u]).getD j adD = u := by
      rw [ej, List.getD_eq_getElem?_getD, List.getElem?_append_right (Nat.le_refl _), Nat.sub_self]
      rfl
    rw [e1, getD_app_l (by omega)]
    rintro ⟨y1, y2⟩
    unfold adf at hn
    rw [List.findIdx?_eq_none_iff] at hn
    have hi : i < ad.length := by omega
    have := hn (ad.getD i adD) (by rw [List.getD_eq_getElem?_getD, List.getElem?_eq_getElem hi]; exact List.getElem_mem hi)
    rw [y1, y2] at this
    simp at this
theorem dfs_UQ {T : Nat → Int} {e : Nat} {el : Str} : ∀ (l : List Nat) (c m : Nat) (ad : List ADc) (r : Nat × Nat × List ADc), dfs rm a T e el l c m ad = .inr r → UQ ad → UQ r.2.2 := by
  intro l
  induction l with
  | nil => intro c m ad r h hu; cases h; exact hu
  | cons x l ih =>
    intro c m ad r h hu
    unfold dfs at h
    split at h
    · cases h
    · rename_i c1 m1 ad1 hd
      refine ih _ _ _ r h ?_
      have hone : ∀ u : ADc, UQ (if (adf ad u.1 u.2.1).isSome = true then ad else ad ++ [u]) := fun u => by
        split
        · exact hu
        · rename_i hno
          refine hu.app ?_
          cases hh : adf ad u.1 u.2.1 with
          | none => rfl
          | some d => rw [hh] at hno; exact absurd rfl hno
      unfold dfa at hd
      split at hd
      · cases hd
      · split at hd
        · cases hd
        · split at hd
          · cases hd
          · split at hd
            · cases hd
              exact hone (el, _, _, _, _, _)
            · split at hd
              · cases hd
              · split at hd
                · cases hd
                · cases hd
                  exact hone (el, _, _, _, _, _)
theorem gvs_nd {T : Nat → Int} {el : Str} : ∀ (l : List (Nat × Nat × Nat × Nat)) (c m : Nat) (acc : List Att) (r : Nat × Nat × List Att), gvs rm a T el l c m acc = .inr r → (acc.map (fun z => z.1)).Nodup → (r.2.2.map (fun z => z.1)).Nodup := by
  intro l
  induction l with
  | nil => intro c m acc r h ha; cases h; exact ha
  | cons q l ih =>
    intro c m acc r h ha
    obtain ⟨x, b, v, j⟩ := q
    unfold gvs at h
    split at h
    · cases h
    · rename_i hno
      split at h
      · cases h
      · refine ih _ _ _ r h ?_
        rw [List.map_append, List.nodup_append]
        refine ⟨ha, by simp, fun y hy z hz => ?_⟩
        have hz' : z = sl T x (b - x) := by simpa using hz
        intro hyz
        rw [hyz, hz'] at hy
        exact hno hy
theorem dfl_nd {ad : List ADc} {el : Str} {gv : List Att} (h : UQ ad) : ((dfl ad el gv).map (fun z => z.1)).Nodup ∧ ∀ s ∈ (dfl ad el gv).map (fun z => z.1), ¬ s ∈ gv.map (fun z => z.1) := by
  have key : ∀ n, n ≤ ad.length → (((List.range n).filterMap (fun d => if (ad.getD d ([], [], 0, 0, [], [])).1 = el ∧ 3 ≤ (ad.getD d ([], [], 0, 0, [], [])).2.2.2.1 ∧ ¬ (ad.getD d ([], [], 0, 0, [], [])).2.1 ∈ gv.map (fun z => z.1) then some ((ad.getD d ([], [], 0, 0, [], [])).2.1, (ad.getD d ([], [], 0, 0, [], [])).2.2.2.2.1, some d) else none)).map (fun z : Att => z.1)).Nodup ∧ ∀ s ∈ ((List.range n).filterMap (fun d => if (ad.getD d ([], [], 0, 0, [], [])).1 = el ∧ 3 ≤ (ad.getD d ([], [], 0, 0, [], [])).2.2.2.1 ∧ ¬ (ad.getD d ([], [], 0, 0, [], [])).2.1 ∈ gv.map (fun z => z.1) then some ((ad.getD d ([], [], 0, 0, [], [])).2.1, (ad.getD d ([], [], 0, 0, [], [])).2.2.2.2.1, some d) else none)).map (fun z : Att => z.1), (¬ s ∈ gv.map (fun z => z.1)) ∧ ∃ d, d < n ∧ (ad.getD d adD).1 = el ∧ (ad.getD d adD).2.1 = s := by
    intro n
    induction n with
    | zero => intro _; exact ⟨List.nodup_nil, fun s hs => by cases hs⟩
    | succ n ih =>
      intro hn
      obtain ⟨h1, h2⟩ := ih (by omega)
      rw [List.range_succ, List.filterMap_append, List.map_append]
      by_cases c : (ad.getD n adD).1 = el ∧ 3 ≤ (ad.getD n adD).2.2.2.1 ∧ ¬ (ad.getD n adD).2.1 ∈ gv.map (fun z => z.1)
      · have e1 : ([n] : List Nat).filterMap (fun d => if (ad.getD d ([], [], 0, 0, [], [])).1 = el ∧ 3 ≤ (ad.getD d ([], [], 0, 0, [], [])).2.2.2.1 ∧ ¬ (ad.getD d ([], [], 0, 0, [], [])).2.1 ∈ gv.map (fun z => z.1) then some ((ad.getD d ([], [], 0, 0, [], [])).2.1, (ad.getD d ([], [], 0, 0, [], [])).2.2.2.2.1, some d) else (none : Option Att)) = [((ad.getD n adD).2.1, (ad.getD n adD).2.2.2.2.1, some n)] := by
          rw [List.filterMap_cons, List.filterMap_nil]
          rw [if_pos c]
        rw [e1]
        refine ⟨?_, fun s hs => ?_⟩
        · rw [List.nodup_append]
          refine ⟨h1, by simp, fun y hy z hz => ?_⟩
          have hz' : z = (ad.getD n adD).2.1 := by simpa using hz
          intro hyz
          obtain ⟨-, d, d1, d2, d3⟩ := h2 y hy
          exact h d n d1 (by omega) ⟨by rw [d2, c.1], by rw [d3, hyz, hz']⟩
        · rcases List.mem_append.mp hs with y | y
          · obtain ⟨y1, d, y2, y3⟩ := h2 s y
            exact ⟨y1, d, by omega, y3⟩
          · have hs' : s = (ad.getD n adD).2.1 := by simpa using y
            rw [hs']
            exact ⟨c.2.2, n, by omega, c.1, rfl⟩
      · have e1 : ([n] : List Nat).filterMap (fun d => if (ad.getD d ([], [], 0, 0, [], [])).1 = el ∧ 3 ≤ (ad.getD d ([], [], 0, 0, [], [])).2.2.2.1 ∧ ¬ (ad.getD d ([], [], 0, 0, [], [])).2.1 ∈ gv.map (fun z => z.1) then some ((ad.getD d ([], [], 0, 0, [], [])).2.1, (ad.getD d ([], [], 0, 0, [], [])).2.2.2.2.1, some d) else (none : Option Att)) = [] := by
          rw [List.filterMap_cons, List.filterMap_nil]
          rw [if_neg c]
        rw [e1, List.map_nil, List.append_nil]
        refine ⟨h1, fun s hs => ?_⟩
        obtain ⟨y1, d, y2, y3⟩ := h2 s hs
        exact ⟨y1, d, by omega, y3⟩
  have := key ad.length (Nat.le_refl _)
  exact ⟨this.1, fun s hs => (this.2 s hs).1⟩
theorem nmL_app {b c : List Att} {f n : Nat} (h : f + n ≤ b.length) : nmL (b ++ c) f n = nmL b f n := by
  unfold nmL
  refine List.map_congr_left (fun i hi => ?_)
  have := List.mem_range.mp hi
  rw [getD_app_l (by omega)]
theorem nmL_new {b c : List Att} : nmL (b ++ c) b.length c.length = c.map (fun z => z.1) := by
  unfold nmL
  refine List.ext_getElem (by simp) (fun i h1 h2 => ?_)
  rw [List.length_map, List.length_range] at h1
  simp only [List.getElem_map, List.getElem_range]
  rw [List.getD_eq_getElem?_getD, List.getElem?_append_right (by omega), show b.length + i - b.length = i by omega, List.getElem?_eq_getElem h1]
  rfl
theorem GN.stpE (h : GN a) (hs : stp rm nd a = .inr a') : GN a' := by
  obtain ⟨h1, h2⟩ := h
  rcases stp_shp hs with ⟨q1, q2, q3, -⟩ | h1' | h1' | h1'
  · unfold GN
    rw [q1, q2, q3]
    exact ⟨h1, h2⟩
  · unfold iEld at h1'
    split at h1'
    · split at h1'
      · split at h1'
        · cases h1'
        · cases h1'
          obtain ⟨-, -, -, -, h5, -, h7, h8, -, -⟩ := adv_other (a := sD a (aD a ++ [(sl (gd (cur a)) _ _, cnK (gd (cur a)) (cur a).length _, sl (gd (cur a)) _ _)])) (k := _)
          unfold GN
          rw [h5, h7, h8]
          exact ⟨h1, h2⟩
      · cases h1'
    · cases h1'
  · unfold iAtl at h1'
    split at h1'
    · split at h1'
      · split at h1'
        · cases h1'
        · rename_i c m ad hd
          cases h1'
          have hA : ∀ k, aA (adv (sN (sN (sA a ad) 0 c) 1 m) k) = ad := fun k => (adv_other (a := sN (sN (sA a ad) 0 c) 1 m) (k := k)).2.2.2.2.1
          have hB : ∀ k, aB (adv (sN (sN (sA a ad) 0 c) 1 m) k) = aB a := fun k => (adv_other (a := sN (sN (sA a ad) 0 c) 1 m) (k := k)).2.2.2.2.2.2.2.1
          have hL : ∀ k, aL (adv (sN (sN (sA a ad) 0 c) 1 m) k) = aL a := fun k => (adv_other (a := sN (sN (sA a ad) 0 c) 1 m) (k := k)).2.2.2.2.2.2.1
          unfold GN
          rw [hA, hB, hL]
          exact ⟨dfs_UQ _ _ _ _ _ hd h1, h2⟩
      · cases h1'
    · cases h1'
  · unfold iTag at h1'
    split at h1'
    · rename_i k n hk hn
      split at h1'
      · cases h1'
      · rename_i c m gv hg
        split at h1'
        · cases h1'
        · cases h1'
          have hgn := gvs_nd _ _ _ _ _ hg List.nodup_nil
          have hdn := dfl_nd (el := sl (gd (cur a)) 1 (n - 1)) (gv := gv) h1
          have hal : ((gv ++ dfl (aA a) (sl (gd (cur a)) 1 (n - 1)) gv).map (fun z => z.1)).Nodup := by
            rw [List.map_append, List.nodup_append]
            refine ⟨hgn, hdn.1, fun y hy z hz hyz => ?_⟩
            rw [hyz] at hy
            exact hdn.2 z hz hy
          have hne : GN (nel a (sl (gd (cur a)) 1 (n - 1)) gv (gv ++ dfl (aA a) (sl (gd (cur a)) 1 (n - 1)) gv) k c m) := by
            obtain ⟨n1, n2, n3⟩ := nel_tre (a := a) (nm := sl (gd (cur a)) 1 (n - 1)) (gv := gv) (al := gv ++ dfl (aA a) (sl (gd (cur a)) 1 (n - 1)) gv) (k := k) (c := c) (m := m)
            unfold GN
            rw [n1, n2, n3]
            refine ⟨h1, fun x hx => ?_⟩
            rcases List.mem_append.mp hx with y | y
            · obtain ⟨z1, z2⟩ := h2 x y
              refine ⟨by rw [List.length_append]; omega, ?_⟩
              rw [nmL_app z1]
              exact z2
            · rw [List.mem_singleton.mp y]
              refine ⟨?_, ?_⟩
              · show (aB a).length + (gv ++ dfl (aA a) (sl (gd (cur a)) 1 (n - 1)) gv).length ≤ (aB a ++ (gv ++ dfl (aA a) (sl (gd (cur a)) 1 (n - 1)) gv)).length
                rw [List.length_append (as := aB a)]
                exact Nat.le_refl _
              · show (nmL (aB a ++ (gv ++ dfl (aA a) (sl (gd (cur a)) 1 (n - 1)) gv)) (aB a).length (gv ++ dfl (aA a) (sl (gd (cur a)) 1 (n - 1)) gv).length).Nodup
                rw [nmL_new]
                exact hal
          split
          · obtain ⟨q1, q2, q3, -⟩ := S0.clsE (S0.refl (a := nel a (sl (gd (cur a)) 1 (n - 1)) gv (gv ++ dfl (aA a) (sl (gd (cur a)) 1 (n - 1)) gv) k c m))
            unfold GN at hne ⊢
            rw [q1, q2, q3]
            exact hne
          · exact hne
    · cases h1'
theorem jdg_GN (hn : n ≤ 65536) (h : jdg rm nd B n = .inr a') : GN a' :=
  jdg_inv GN (fun _ _ _ hV hs => GN.stpE hV hs) (fun l st k => by
    have h0 : GN (a0 l) := ⟨fun i j _ hj => (by cases hj), fun x hx => (by cases hx)⟩
    refine ⟨h0, ?_⟩
    obtain ⟨q1, q2, q3, -⟩ := S0.advE (a := a0 l) (X := sN (a0 l) 5 st) (k := k) ⟨rfl, rfl, rfl, rfl⟩
    unfold GN at h0 ⊢
    rw [q1, q2, q3]
    exact h0) hn h
/-- a declaration's name is known from its prefix -/
theorem dcl_okq {s p : Str} (hs : s ≠ sXn) (h : dcl s = some p) : p ≠ [] ∧ s = sXn ++ 58 :: p := by
  unfold dcl at h
  rw [if_neg hs] at h
  split at h
  · rename_i hp
    have hlp : lcl s = p := Option.some.inj h
    by_cases c0 : (clk s s.length).2 = 0
    · rw [(prf_0 c0).1] at hp
      exact absurd (Option.some.inj hp).symm str_ne.2.1
    · rcases okq_dec s with hok | hno
      · obtain ⟨y1, y2⟩ := prf_1 hok
        rw [y1] at hp
        have hpre := Option.some.inj hp
        obtain ⟨z1, z2, z3, -⟩ := hok
        have z58 := ((clk_in (s := s) s.length).2.2.1 (by omega)).2
        obtain ⟨k, hk⟩ : ∃ k : Nat, (clk s s.length).1 = (k : Int) := ⟨(clk s s.length).1.toNat, by omega⟩
        rw [hk, show Int.toNat (k : Int) = k from rfl] at hpre z58 y2
        rw [hk] at z2 z3
        have hkl : k < s.length := by omega
        rw [List.getD_eq_getElem?_getD, List.getElem?_eq_getElem hkl] at z58
        have z58' : s[k] = 58 := z58
        rw [hlp] at y2
        refine ⟨fun y => ?_, ?_⟩
        · rw [y] at y2
          have := congrArg List.length y2
          rw [List.length_drop, List.length_nil] at this
          omega
        · rw [y2, ← hpre, ← z58', ← List.drop_eq_getElem_cons hkl, List.take_append_drop]
      · rw [(prf_n c0 hno).1] at hp
        cases hp
  · cases h
theorem dcl_inj {s s' p : Str} (h : dcl s = some p) (h' : dcl s' = some p) : s = s' := by
  by_cases c : s = sXn
  · have hp : p = [] := by
      unfold dcl at h
      rw [if_pos c] at h
      exact (Option.some.inj h).symm
    by_cases c' : s' = sXn
    · rw [c, c']
    · exact absurd hp (dcl_okq c' h').1
  · have h1 := dcl_okq c h
    by_cases c' : s' = sXn
    · have hp : p = [] := by
        unfold dcl at h'
        rw [if_pos c'] at h'
        exact (Option.some.inj h').symm
      exact absurd hp h1.1
    · rw [h1.2, (dcl_okq c' h').2]
theorem GN.dst {x : Elm} (h : GN a) (hx : x ∈ aL a) : DST (aB a) x := by
  have h2 := (h.2 (e5 x) (List.mem_map.mpr ⟨x, hx, rfl⟩)).2
  have h2' : (nmL (aB a) x.2.2.1 x.2.2.2.1).Nodup := h2
  intro i j hij hj p h3 h4
  have hs := dcl_inj h3 h4
  have hl : (nmL (aB a) x.2.2.1 x.2.2.2.1).length = x.2.2.2.1 := by unfold nmL; rw [List.length_map, List.length_range]
  have h5 := List.pairwise_iff_getElem.mp h2' i j (by rw [hl]; omega) (by rw [hl]; exact hj) hij
  refine h5 ?_
  unfold nmL
  simp only [List.getElem_map, List.getElem_range]
  exact hs
end Uqs
