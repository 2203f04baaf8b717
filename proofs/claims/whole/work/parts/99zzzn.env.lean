/-! ===== what prefixes mean (pure) ===== -/
def sXm : Str := ti 1070
def sXn : Str := ti 1071
def sXM : Str := ti 1072
def sNM : Str := ti 1073
/-- the prefix of a name, if it has one -/
noncomputable def pfx (s : Str) : Str := (prf s).getD []
/-- the prefix that an attribute declares -/
noncomputable def dcl (s : Str) : Option Str := if s = sXn then some [] else if prf s = some sXn then some (lcl s) else none
/-- what prefixes mean where nothing is declared -/
def env0 : Str → Str := fun p => if p = sXm then sXM else []
/-- and behind an attribute -/
noncomputable def upN (E : Str → Str) (t : Att) : Str → Str := match dcl t.1 with
  | none => E
  | some p => if p = sXm ∨ p = sXn then E else fun q => if q = p then t.2.1 else E q
noncomputable def ent2 (E : Str → Str) (l : List Att) : Str → Str := l.foldl upN E
/-- the attributes of an element -/
def ats (at_ : List Att) (x : Elm) : List Att := (List.range x.2.2.2.1).map (fun i => at_.getD (x.2.2.1 + i) atD)
/-- what a name means -/
noncomputable def mng (E : Str → Str) (s : Str) : Str := if pfx s = [] then [] else E (pfx s)
section Env
variable {E : Str → Str}
theorem str_ne : sXm ≠ [] ∧ sXn ≠ [] ∧ sXm ≠ sXn ∧ sXM ≠ [] ∧ sNM ≠ [] := by
  unfold sXm sXn sXM sNM
  decide +kernel
theorem ats_len {at_ : List Att} {x : Elm} : (ats at_ x).length = x.2.2.2.1 := by unfold ats; rw [List.length_map, List.length_range]
theorem ats_get {at_ : List Att} {x : Elm} {i : Nat} (h : i < x.2.2.2.1) : (ats at_ x).getD i atD = at_.getD (x.2.2.1 + i) atD := by
  unfold ats
  rw [List.getD_eq_getElem?_getD, List.getElem?_map, List.getElem?_eq_getElem (by rw [List.length_range]; exact h)]
  simp
theorem ats_take {at_ : List Att} {x : Elm} {i : Nat} (h : i < x.2.2.2.1) : (ats at_ x).take (i + 1) = (ats at_ x).take i ++ [at_.getD (x.2.2.1 + i) atD] := by
  rw [List.take_succ, List.getElem?_eq_getElem (by rw [ats_len]; exact h)]
  unfold ats
  simp
theorem ent2_s {l : List Att} {t : Att} : ent2 E (l ++ [t]) = upN (ent2 E l) t := by
  unfold ent2
  rw [List.foldl_append]
  rfl
theorem upN_no {t : Att} {q : Str} (h : dcl t.1 ≠ some q) : upN E t q = E q := by
  unfold upN
  cases hd : dcl t.1 with
  | none => rfl
  | some p =>
    dsimp only
    by_cases c : p = sXm ∨ p = sXn
    · rw [if_pos c]
    · rw [if_neg c, if_neg (fun z => h (by rw [hd, z]))]
theorem upN_at {t : Att} {p : Str} (h : dcl t.1 = some p) : upN E t = if p = sXm ∨ p = sXn then E else fun q => if q = p then t.2.1 else E q := by
  unfold upN
  rw [h]
theorem upN_none {t : Att} (h : dcl t.1 = none) : upN E t = E := by
  unfold upN
  rw [h]
theorem ent2_no {l : List Att} {q : Str} (h : ∀ t ∈ l, dcl t.1 ≠ some q) : ent2 E l q = E q := by
  induction l generalizing E with
  | nil => rfl
  | cons t l ih =>
    show ent2 (upN E t) l q = E q
    rw [ih (fun u hu => h u (List.mem_cons_of_mem _ hu)), upN_no (h t List.mem_cons_self)]
theorem pfx_cases {s : Str} : (prf s = none ∧ pfx s = []) ∨ ∃ p, prf s = some p ∧ pfx s = p := by
  unfold pfx
  cases prf s with
  | none => exact Or.inl ⟨rfl, rfl⟩
  | some p => exact Or.inr ⟨p, rfl, rfl⟩
end Env
/-! ===== the class's prefixes ===== -/
/-- words that are always there -/
def CWd (τ : IS) : Prop := 19 ≤ jw τ ∧ wst τ 0 = [] ∧ wst τ 6 = sXm ∧ wst τ 7 = sXn ∧ wst τ 8 = sXM ∧ wst τ 9 = sNM
/-- a word that was parted -/
def SPo (τ : IS) (x : Int) (s : Str) : Prop := ∃ w : Nat, x = (w : Int) ∧ w < jw τ ∧ wst τ w = s ∧ SPW τ w
def MEp (τ : IS) (E : Str → Str) : Prop := ∀ w, w < jw τ → Jn τ (τ.2 158 w) (E (wst τ w))
section Mns
variable {L : Nat → Nat} {τ : IS} {E : Str → Str} {Q : Int → IS → Prop}
theorem sp_Meanings_prefix {x : Int} {s : Str} (hS : SI L τ) (hl : SL L) (h6 : L 156 = L 102) (hC : CWd τ) (hx : SPo τ x s) (hq : ∀ v, Jn τ v (pfx s) → Q v τ) : w_Meanings_prefix L x Q τ := by
  obtain ⟨w, rfl, hw, rfl, h1, -⟩ := hx
  have hj := hS.jw_le
  have h102 : L 102 < 1000000 := hl.2.2.2.2.2.2.1
  unfold w_Meanings_prefix
  rw [show Int.toNat (w : Int) = w from rfl]
  rcases h1 with ⟨y1, y2⟩ | ⟨p, y1, y2⟩
  · rw [y2, if_pos rfl]
    refine ⟨⟨by omega, by omega⟩, fun z => absurd rfl z, hq _ ?_⟩
    unfold pfx
    rw [y1]
    exact ⟨0, rfl, by have := hC.1; omega, hC.2.1⟩
  · have := y2.rng hS
    rw [if_neg (by omega)]
    refine ⟨⟨by omega, by omega⟩, fun _ => ⟨⟨by omega, by omega⟩, ⟨by omega, by omega⟩⟩, hq _ ?_⟩
    unfold pfx
    rw [y1]
    exact y2
theorem Jn_num {x : Int} {s : Str} {w : Nat} (hS : SI L τ) (h : Jn τ x s) (hw : w < jw τ) : x = (w : Int) ↔ s = wst τ w := by
  constructor
  · intro y
    rw [y] at h
    obtain ⟨v, v1, v2, v3⟩ := h
    rw [← v3, show v = w by omega]
  · intro y
    exact Jn.inj hS h ⟨w, rfl, hw, y.symm⟩
theorem sp_Meanings_declares {a : Nat} {s : Str} (hS : SI L τ) (hl : SL L) (h6 : L 156 = L 102 ∧ L 157 = L 102) (hC : CWd τ) (ha : a < L 161) (hx : SPo τ (τ.2 161 a) s) (hq0 : dcl s = none → Q (-1) τ) (hq : ∀ v p, dcl s = some p → Jn τ v p → Q v τ) : w_Meanings_declares L (a : Int) Q τ := by
  obtain ⟨w, hw1, hw2, hw3, hw4⟩ := id hx
  have hj := hS.jw_le
  obtain ⟨c1, c2, c3, c4, c5, c6⟩ := id hC
  have h7 : τ.2 161 a = 7 ↔ s = sXn := by
    have h := Jn_num (w := 7) hS (show Jn τ (τ.2 161 a) s from ⟨w, hw1, hw2, hw3⟩) (by omega)
    rw [c4] at h
    exact h
  unfold w_Meanings_declares
  rw [show Int.toNat (a : Int) = a from rfl]
  refine ⟨⟨by omega, by omega⟩, ?_⟩
  by_cases y : s = sXn
  · rw [if_pos (h7.mpr y)]
    exact hq 0 [] (by unfold dcl; rw [if_pos y]) ⟨0, rfl, by omega, c2⟩
  · rw [if_neg (fun z => y (h7.mp z))]
    refine sp_Meanings_prefix hS hl h6.1 hC hx (fun v hv => ?_)
    have hv7 : v = 7 ↔ pfx s = sXn := by
      have h := Jn_num (w := 7) hS hv (by omega)
      rw [c4] at h
      exact h
    rw [hw1, show Int.toNat (w : Int) = w from rfl]
    refine ⟨fun _ => ⟨by omega, by omega⟩, ?_⟩
    have hpr : pfx s = sXn ↔ prf s = some sXn := by
      rcases pfx_cases (s := s) with ⟨z1, z2⟩ | ⟨p, z1, z2⟩
      · rw [z1, z2]
        exact ⟨fun z => absurd z.symm str_ne.2.1, fun z => by cases z⟩
      · rw [z1, z2]
        exact ⟨fun z => by rw [z], fun z => Option.some.inj z⟩
    by_cases y7 : pfx s = sXn
    · rw [if_pos (hv7.mpr y7)]
      refine hq _ (lcl s) (by unfold dcl; rw [if_neg y, if_pos (hpr.mp y7)]) ?_
      have := hw4.2
      rw [hw3] at this
      exact this
    · rw [if_neg (fun z => y7 (hv7.mp z))]
      exact hq0 (by unfold dcl; rw [if_neg y, if_neg (fun z => y7 (hpr.mpr z))])
theorem sp_Meanings_meaning {a : Nat} {s : Str} (hS : SI L τ) (hl : SL L) (h6 : L 156 = L 102 ∧ L 158 = L 102) (hC : CWd τ) (ha : a < L 161) (hx : SPo τ (τ.2 161 a) s) (hE : MEp τ E) (hq : ∀ v, Jn τ v (mng E s) → Q v τ) : w_Meanings_meaning L (a : Int) Q τ := by
  have hj := hS.jw_le
  unfold w_Meanings_meaning
  rw [show Int.toNat (a : Int) = a from rfl]
  refine ⟨⟨by omega, by omega⟩, sp_Meanings_prefix hS hl h6.1 hC hx (fun v hv => ?_)⟩
  have hv0 : v = 0 ↔ pfx s = [] := by
    have h := Jn_num (w := 0) hS hv (by have := hC.1; omega)
    rw [hC.2.1] at h
    exact h
  obtain ⟨w, w1, w2, w3⟩ := id hv
  refine ⟨fun _ => ⟨by omega, by omega⟩, hq _ ?_⟩
  unfold mng
  by_cases y : pfx s = []
  · rw [if_pos (hv0.mpr y), if_pos y]
    exact ⟨0, rfl, by have := hC.1; omega, hC.2.1⟩
  · rw [if_neg (fun z => y (hv0.mp z)), if_neg y, w1, show Int.toNat (w : Int) = w from rfl, ← w3]
    exact hE w w2
theorem sp_Meanings_local {a : Nat} {s : Str} (hS : SI L τ) (h7 : L 157 = L 102) (ha : a < L 161) (hx : SPo τ (τ.2 161 a) s) (hq : ∀ v, Jn τ v (lcl s) → Q v τ) : w_Meanings_local L (a : Int) Q τ := by
  obtain ⟨w, hw1, hw2, hw3, hw4⟩ := hx
  have hj := hS.jw_le
  unfold w_Meanings_local
  rw [show Int.toNat (a : Int) = a from rfl, hw1, show Int.toNat (w : Int) = w from rfl]
  refine ⟨⟨by omega, by omega⟩, ⟨by omega, by omega⟩, hq _ ?_⟩
  have := hw4.2
  rw [hw3] at this
  exact this
end Mns
