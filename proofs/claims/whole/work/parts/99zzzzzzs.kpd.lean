/-! ===== definitions of attributes (pure), as the reference reads them ===== -/
/-- where the value of a definition stands, and its end -/
def dfZ (T : Nat → Int) (e w : Nat) : Option (Nat × Nat) := match dfV T e w with
  | none => none
  | some v => match vlp T e (some v) with
    | none => none
    | some j => some (v, j)
/-- all that the declarations so far violate, each when it was made -/
def dAs (ad : List ADc) (k : Nat) : Nat := ((List.range ad.length).map (fun j => dvD (ad.take j) (ad.getD j adD) k)).sum
/-- the names that the definitions keep, the second time through -/
def adXn (T : Nat → Int) (e : Nat) : Nat → Nat → List Str
  | 0, _ => []
  | m + 1, k => match spc T e (some k) with
    | none => []
    | some x => match nmg T e true (some x) with
      | none => []
      | some b => match dfn T e x with
        | none => []
        | some j => sl T x (b - x) :: (tyWo T e (spc T e (nmg T e true (some x))) ++ adXn T e m j)
section Kpd
variable {T : Nat → Int} {e rm : Nat} {a : AS} {el : Str} {ad : List ADc}
theorem dAs_s {x : ADc} {k : Nat} : dAs (ad ++ [x]) k = dAs ad k + dvD ad x k := by
  unfold dAs
  rw [List.length_append, List.length_singleton, List.range_succ, List.map_append, List.sum_append, List.map_singleton, List.sum_singleton]
  have e1 : (List.range ad.length).map (fun j => dvD ((ad ++ [x]).take j) ((ad ++ [x]).getD j adD) k) = (List.range ad.length).map (fun j => dvD (ad.take j) (ad.getD j adD) k) := by
    refine List.map_congr_left (fun j hj => ?_)
    have hj' := List.mem_range.mp hj
    rw [List.take_append_of_le_length (by omega), getD_snoc, if_pos hj']
  rw [e1, List.take_append_of_le_length (Nat.le_refl _), List.take_length, getD_snoc, if_neg (Nat.lt_irrefl _), if_pos rfl]
/-- one definition, from where its parts stand -/
theorem dfa_eq {x b y w0 w j c m : Nat} (h1 : nmg T e true (some x) = some b) (h2 : spc T e (some b) = some y) (h3 : typ T e y = some w0) (h4 : spc T e (some w0) = some w) (h5 : dft T e w = some j) : dfa rm a T e el x c m ad = match dvR rm (sN (sN a 0 c) 1 m) (bsy a) T (dfZ T e w) with
    | .inl f => .inl f
    | .inr (c', m', o) => .inr (c', m', if (adf ad el (sl T x (b - x))).isSome = true then ad else ad ++ [(el, sl T x (b - x), atyN T e y, dfK T e w, nrt (atyN T e y) o, (atyL T e y).map (fun q => sl T q.1 (q.2 - q.1)))]) := by
  unfold dfa
  rw [h1]
  dsimp only
  rw [h2]
  dsimp only
  rw [h3, h4]
  dsimp only
  unfold dfZ
  cases hv : dfV T e w with
  | none =>
    dsimp only
    show _ = Sum.inr (c, m, if (adf ad el (sl T x (b - x))).isSome = true then ad else ad ++ [(el, sl T x (b - x), atyN T e y, dfK T e w, nrt (atyN T e y) [], (atyL T e y).map (fun q => sl T q.1 (q.2 - q.1)))])
    rw [nrt_nilK]
  | some v =>
    dsimp only
    have hvl : vlp T e (some v) = some j := by
      unfold dft at h5
      by_cases c1 : dfK T e w = 1
      · unfold dfV at hv
        rw [if_neg (by omega), if_neg (by omega)] at hv
        cases hv
      · rw [if_neg c1] at h5
        by_cases c2 : dfK T e w = 2
        · unfold dfV at hv
          rw [if_neg (by omega), if_neg (by omega)] at hv
          cases hv
        · rw [if_neg c2, hv] at h5
          exact h5
    rw [hvl]
    rfl
theorem dfK_le {w : Nat} : 1 ≤ dfK T e w ∧ dfK T e w ≤ 4 := by
  unfold dfK
  split
  · omega
  · split
    · omega
    · split <;> omega
/-- a value stands there just where one is given -/
theorem dfZ_iff {w j : Nat} (h5 : dft T e w = some j) : 3 ≤ dfK T e w ↔ dfZ T e w ≠ none := by
  unfold dfZ
  have hk := dfK_le (T := T) (e := e) (w := w)
  by_cases c3 : 3 ≤ dfK T e w
  · refine ⟨fun _ => ?_, fun _ => c3⟩
    unfold dft at h5
    rw [if_neg (by omega), if_neg (by omega)] at h5
    cases hv : dfV T e w with
    | none => rw [hv] at h5; cases h5
    | some v =>
      rw [hv] at h5
      dsimp only
      rw [h5]
      exact fun z => by cases z
  · refine ⟨fun z => absurd z c3, fun z => ?_⟩
    have hv : dfV T e w = none := by
      unfold dfV
      rw [if_neg (by omega), if_neg (by omega)]
    rw [hv] at z
    exact absurd rfl z
theorem dfZ_some {w : Nat} {z : Nat × Nat} (h : dfZ T e w = some z) : dfV T e w = some z.1 ∧ vlp T e (some z.1) = some z.2 := by
  unfold dfZ at h
  cases hv : dfV T e w with
  | none => rw [hv] at h; cases h
  | some v =>
    rw [hv] at h
    dsimp only at h
    cases hj : vlp T e (some v) with
    | none => rw [hj] at h; cases h
    | some j =>
      rw [hj] at h
      have := Option.some.inj h
      rw [← this]
      exact ⟨rfl, hj⟩
/-- the name of a definition -/
def nmx (T : Nat → Int) (e x : Nat) : Str := match nmg T e true (some x) with
  | none => []
  | some b => sl T x (b - x)
/-- declared attributes, all of them among some pairs of element and name -/
def PQ (P : List (Str × Str)) (ad : List ADc) : Prop := UQ ad ∧ (∀ x ∈ ad, (x.1, x.2.1) ∈ P) ∧ P.length < 8300
theorem nd_len {α : Type} : ∀ (l M : List α), l.Nodup → (∀ s ∈ l, s ∈ M) → l.length ≤ M.length
  | [], _, _, _ => Nat.zero_le _
  | s :: l, M, hn, h => by
    obtain ⟨A, B, hAB⟩ := List.append_of_mem (h s List.mem_cons_self)
    subst hAB
    have hn' := List.nodup_cons.mp hn
    have ih := nd_len l (A ++ B) hn'.2 (fun x hx => by
      have := h x (List.mem_cons_of_mem _ hx)
      rcases List.mem_append.mp this with y | y
      · exact List.mem_append_left _ y
      · rcases List.mem_cons.mp y with y | y
        · rw [y] at hx; exact absurd hx hn'.1
        · exact List.mem_append_right _ y)
    rw [List.length_append] at ih
    rw [List.length_cons, List.length_append, List.length_cons]
    omega
theorem UQ.nd {ad : List ADc} (h : UQ ad) : (ad.map (fun x => (x.1, x.2.1))).Nodup := by
  refine List.pairwise_iff_getElem.mpr (fun i j hi hj hij => ?_)
  rw [List.length_map] at hi hj
  rw [List.getElem_map, List.getElem_map]
  intro z
  refine h i j hij hj ?_
  rw [List.getD_eq_getElem?_getD, List.getD_eq_getElem?_getD, List.getElem?_eq_getElem hi, List.getElem?_eq_getElem hj]
  exact ⟨(Prod.mk.inj z).1, (Prod.mk.inj z).2⟩
theorem PQ.len {P : List (Str × Str)} {ad : List ADc} (h : PQ P ad) : ad.length < 8300 := by
  have := nd_len _ P h.1.nd (fun s hs => by
    obtain ⟨x, h1, h2⟩ := List.mem_map.mp hs
    rw [← h2]; exact h.2.1 x h1)
  rw [List.length_map] at this
  have := h.2.2
  omega
theorem PQ.snoc {P : List (Str × Str)} {ad : List ADc} {u : ADc} (h : PQ P ad) (hn : (adf ad u.1 u.2.1).isSome = false) (hu : (u.1, u.2.1) ∈ P) : PQ P (ad ++ [u]) := by
  refine ⟨h.1.app (by cases hz : adf ad u.1 u.2.1 with | none => rfl | some d => rw [hz] at hn; cases hn), fun x hx => ?_, h.2.2⟩
  rcases List.mem_append.mp hx with hx | hx
  · exact h.2.1 x hx
  · rw [List.mem_singleton] at hx
    rw [hx]; exact hu
end Kpd
