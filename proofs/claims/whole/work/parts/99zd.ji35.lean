/-! ===== items of the class: tags (4): the tree while a tag is read; defaults ===== -/
/-- the element with those attributes, g of them from the tag -/
def XT (a : AS) (nm : Str) (acc : List Att) (g : Nat) : AS := trr a (aN a 3 + 1 + acc.length) (aL (tch a false) ++ [(nm, par a, (aB a).length, acc.length, g, false, false)]) (aB a ++ acc) (aS a ++ [.inl (-3 - ((aL a).length : Int))]) ((aL a).length :: aO a)
/-- the tree is so, or there are too many nodes -/
def TX (nd : Nat) (a : AS) (nm : Str) (acc : List Att) (g n3 : Nat) (L' : List Elm) (B' : List Att) (S' : List Evt) (O' : List Nat) : Prop := n3 = aN a 3 + 1 + acc.length ∧ (n3 ≤ nd → L' = aL (tch a false) ++ [(nm, par a, (aB a).length, acc.length, g, false, false)] ∧ B' = aB a ++ acc ∧ S' = aS a ++ [.inl (-3 - ((aL a).length : Int))] ∧ O' = (aL a).length :: aO a) ∧ (L'.length ≤ nd ∧ B'.length ≤ nd ∧ evl S' ≤ evl (aS a) + 1) ∧ ∀ e r, O' = e :: r → e < L'.length ∧ (L'.getD e elD).2.2.2.1 ≤ nd + acc.length ∧ (L'.getD e elD).2.2.2.2.1 ≤ nd + acc.length
section JI35
variable {L : Nat → Nat} {rm nd : Nat} {σ τ : IS} {a : AS} {Q : IS → Prop}
theorem tch_ln {sp : Bool} : (aL (tch a sp)).length = (aL a).length := by
  cases hO : aO a with
  | nil => unfold tch; rw [hO]
  | cons e r => rw [tch_L hO, List.length_modify]
theorem tch_get {sp : Bool} {i : Nat} (hi : i < (aL a).length) : ((aL (tch a sp)).getD i elD).2.2.2.1 = ((aL a).getD i elD).2.2.2.1 ∧ ((aL (tch a sp)).getD i elD).2.2.2.2.1 = ((aL a).getD i elD).2.2.2.2.1 := by
  cases hO : aO a with
  | nil => unfold tch; rw [hO]; exact ⟨rfl, rfl⟩
  | cons e r =>
    rw [tch_L hO, getD_mod hi]
    split <;> exact ⟨rfl, rfl⟩
theorem getD_mem {α : Type} {l : List α} {d : α} {i : Nat} (hi : i < l.length) : l.getD i d ∈ l := by
  rw [List.getD_eq_getElem?_getD, List.getElem?_eq_getElem hi]
  exact List.getElem_mem hi
theorem TX.begin {nm : Str} {L' : List Elm} {B' : List Att} {S' : List Evt} {O' : List Nat} (hG : GA rm nd a) (hc : GC a) (h1 : (aL a).length < nd → L' = aL (tch a false) ++ [(nm, par a, (aB a).length, 0, 0, false, false)] ∧ B' = aB a ∧ S' = aS a ++ [.inl (-3 - ((aL a).length : Int))] ∧ O' = (aL a).length :: aO a) (h0 : ¬ (aL a).length < nd → L' = aL (tch a false) ∧ B' = aB a ∧ S' = aS a ∧ O' = aO a) : TX nd a nm [] 0 (aN a 3 + 1) L' B' S' O' := by
  obtain ⟨-, -, -, -, ⟨b1, b2⟩, -, ho, -⟩ := hG
  refine ⟨rfl, fun hn => ?_, ?_, fun e r hO => ?_⟩
  · obtain ⟨x1, x2, x3, x4⟩ := h1 (by omega)
    exact ⟨x1, by rw [x2, List.append_nil], x3, x4⟩
  · by_cases c : (aL a).length < nd
    · obtain ⟨x1, x2, x3, x4⟩ := h1 c
      rw [x1, x2, x3, List.length_append, List.length_singleton, tch_ln, evl_app]
      refine ⟨by omega, by omega, ?_⟩
      show evl (aS a) + 1 ≤ _
      omega
    · obtain ⟨x1, x2, x3, x4⟩ := h0 c
      rw [x1, x2, x3, tch_ln]
      exact ⟨by omega, by omega, by omega⟩
  · by_cases c : (aL a).length < nd
    · obtain ⟨x1, x2, x3, x4⟩ := h1 c
      rw [x4] at hO
      have he : (aL a).length = e := (List.cons.inj hO).1
      rw [x1, List.length_append, List.length_singleton, tch_ln, getD_snoc, tch_ln, if_neg (by omega), if_pos he.symm]
      exact ⟨by omega, Nat.zero_le _, Nat.zero_le _⟩
    · obtain ⟨x1, x2, x3, x4⟩ := h0 c
      rw [x4] at hO
      rw [hO] at ho
      have he := ho.1
      have hm := hc.1 _ (getD_mem (d := elD) he)
      rw [x1, tch_ln, (tch_get he).1, (tch_get he).2]
      exact ⟨he, by omega, by omega⟩
theorem mod_snoc {α : Type} {l : List α} {x : α} {f : α → α} : (l ++ [x]).modify l.length f = l ++ [f x] := by
  induction l with
  | nil => rfl
  | cons y r ih =>
    show y :: ((r ++ [x]).modify r.length f) = _
    rw [ih]
    rfl
theorem TX.add {nm : Str} {acc : List Att} {x : Att} {g gn n3 : Nat} {L' L'' : List Elm} {B' B'' : List Att} {S' : List Evt} {O' : List Nat} (hG : GA rm nd a) (h : TX nd a nm acc g n3 L' B' S' O') (hgn : gn ≤ 1) (hs : (∃ e r, O' = e :: r ∧ B'.length < nd ∧ L'' = L'.modify e (elp gn) ∧ B'' = B' ++ [x]) ∨ ((O' = [] ∨ ¬ B'.length < nd) ∧ L'' = L' ∧ B'' = B')) : TX nd a nm (acc ++ [x]) (g + gn) (n3 + 1) L'' B'' S' O' := by
  obtain ⟨-, -, -, -, ⟨b1, b2⟩, -, -, -⟩ := hG
  obtain ⟨t1, t2, ⟨t3, t4, t5⟩, t6⟩ := h
  have hla : (acc ++ [x]).length = acc.length + 1 := by rw [List.length_append, List.length_singleton]
  rw [TX, hla]
  refine ⟨by omega, fun hn => ?_, ?_, fun e r hO => ?_⟩
  · obtain ⟨x1, x2, x3, x4⟩ := t2 (by omega)
    rcases hs with ⟨e, r, k1, k2, k3, k4⟩ | ⟨k1, -, -⟩
    · rw [x4] at k1
      have he : (aL a).length = e := (List.cons.inj k1).1
      refine ⟨?_, by rw [k4, x2, List.append_assoc], x3, x4⟩
      rw [k3, x1, ← he]
      have hl : (aL a).length = (aL (tch a false)).length := tch_ln.symm
      conv => lhs; rw [hl]
      rw [mod_snoc]
      rfl
    · exfalso
      rcases k1 with k1 | k1
      · rw [k1] at x4; cases x4
      · rw [x2, List.length_append] at k1
        omega
  · rcases hs with ⟨e, r, k1, k2, k3, k4⟩ | ⟨k1, k2, k3⟩
    · rw [k3, k4, List.length_modify, List.length_append, List.length_singleton]
      exact ⟨t3, by omega, t5⟩
    · rw [k2, k3]
      exact ⟨t3, t4, t5⟩
  · have h6 := t6 e r hO
    rcases hs with ⟨e', r', k1, k2, k3, k4⟩ | ⟨k1, k2, k3⟩
    · rw [hO] at k1
      have he : e = e' := (List.cons.inj k1).1
      rw [k3, ← he, List.length_modify, getD_mod h6.1, if_pos rfl]
      refine ⟨h6.1, ?_, ?_⟩
      · show (L'.getD e elD).2.2.2.1 + 1 ≤ _
        omega
      · show (L'.getD e elD).2.2.2.2.1 + gn ≤ _
        omega
    · rw [k2]
      exact ⟨h6.1, by omega, by omega⟩
theorem trr_mg {l : List Int} {f : Nat × Nat} {t : List Frm} {n3 n3' c m i : Nat} {L' L'' : List Elm} {B' B'' : List Att} {S' S'' : List Evt} {O' O'' : List Nat} (hF : aF a = (l, f) :: t) : trr (adv (sN (sN (trr a n3 L' B' S' O') 0 c) 1 m) i) n3' L'' B'' S'' O'' = adv (sN (sN (trr a n3' L'' B'' S'' O'') 0 c) 1 m) i := by
  have hF1 : aF (sN (sN (trr a n3 L' B' S' O') 0 c) 1 m) = (l, f) :: t := hF
  have hF2 : aF (sN (sN (trr a n3' L'' B'' S'' O'') 0 c) 1 m) = (l, f) :: t := hF
  rw [adv_of hF1, adv_of hF2]
  have e : (fun j : Nat => if j = 3 then n3' else if j = 1 then m else if j = 0 then c else if j = 3 then n3 else a.2.2.1 j) = (fun j => if j = 1 then m else if j = 0 then c else if j = 3 then n3' else a.2.2.1 j) := by
    funext j
    by_cases h3 : j = 3
    · rw [if_pos h3, if_neg (by omega), if_neg (by omega), if_pos h3]
    · rw [if_neg h3, if_neg h3]
      by_cases h1 : j = 1
      · rw [if_pos h1, if_pos h1]
      · rw [if_neg h1, if_neg h1, if_neg h3]
  exact congrArg (fun v => ((l.drop i, f) :: t, a.2.1, v, a.2.2.2.1, a.2.2.2.2.1, a.2.2.2.2.2.1, a.2.2.2.2.2.2.1, L'', B'', S'', O'')) e
theorem sN_mg {B : AS} {l : List Int} {f : Nat × Nat} {t : List Frm} {c m c' m' i : Nat} (hF : aF B = (l, f) :: t) : adv (sN (sN (sN (sN B 0 c) 1 m) 0 c') 1 m') i = adv (sN (sN B 0 c') 1 m') i := by
  have hF1 : aF (sN (sN (sN (sN B 0 c) 1 m) 0 c') 1 m') = (l, f) :: t := hF
  have hF2 : aF (sN (sN B 0 c') 1 m') = (l, f) :: t := hF
  rw [adv_of hF1, adv_of hF2]
  have e : (fun j : Nat => if j = 1 then m' else if j = 0 then c' else if j = 1 then m else if j = 0 then c else B.2.2.1 j) = (fun j => if j = 1 then m' else if j = 0 then c' else B.2.2.1 j) := by
    funext j
    by_cases h1 : j = 1
    · rw [if_pos h1, if_pos h1]
    · by_cases h0 : j = 0
      · rw [if_neg h1, if_pos h0, if_neg h1, if_pos h0]
      · simp only [h1, h0, if_false]
  exact congrArg (fun v => ((l.drop i, f) :: t, B.2.1, v, B.2.2.2)) e
/-- a default that comes -/
def dfF (ad : List ADc) (el : Str) (gv : List Att) (d : Nat) : Option Att := if (ad.getD d ([], [], 0, 0, [], [])).1 = el ∧ 3 ≤ (ad.getD d ([], [], 0, 0, [], [])).2.2.2.1 ∧ ¬ (ad.getD d ([], [], 0, 0, [], [])).2.1 ∈ gv.map (fun z => z.1) then some ((ad.getD d ([], [], 0, 0, [], [])).2.1, (ad.getD d ([], [], 0, 0, [], [])).2.2.2.2.1, some d) else none
def dfR (ad : List ADc) (el : Str) (gv : List Att) (j : Nat) : List Att := (List.range' j (ad.length - j)).filterMap (dfF ad el gv)
theorem dfR_all {ad : List ADc} {el : Str} {gv : List Att} : dfl ad el gv = dfR ad el gv 0 := by
  unfold dfR dfl
  rw [List.range_eq_range', Nat.sub_zero]
  rfl
theorem dfR_end {ad : List ADc} {el : Str} {gv : List Att} {j : Nat} (hj : ad.length ≤ j) : dfR ad el gv j = [] := by
  unfold dfR
  rw [show ad.length - j = 0 by omega]
  rfl
theorem dfR_step {ad : List ADc} {el : Str} {gv : List Att} {j : Nat} (hj : j < ad.length) : dfR ad el gv j = (dfF ad el gv j).toList ++ dfR ad el gv (j + 1) := by
  unfold dfR
  rw [show ad.length - j = (ad.length - (j + 1)) + 1 by omega, List.range'_succ, List.filterMap_cons]
  cases dfF ad el gv j <;> rfl
theorem dfR_skip {ad : List ADc} {el : Str} {gv : List Att} {j : Nat} : ∀ n, j + n ≤ ad.length → (∀ k, j ≤ k → k < j + n → (ad.getD k adD).1 ≠ el) → dfR ad el gv j = dfR ad el gv (j + n) := by
  intro n
  induction n with
  | zero => intro _ _; rfl
  | succ n ih =>
    intro h1 h2
    rw [ih (by omega) (fun k k1 k2 => h2 k k1 (by omega)), dfR_step (by omega)]
    have : dfF ad el gv (j + n) = none := by
      unfold dfF
      rw [if_neg (fun z => h2 (j + n) (by omega) (by omega) z.1)]
    rw [this]
    rfl
theorem dfR_none {ad : List ADc} {el : Str} {gv : List Att} {j : Nat} (hj : j ≤ ad.length) (h : fnd ad el j = none) : dfR ad el gv j = [] := by
  rw [dfR_skip (ad.length - j) (by omega) (fun k k1 k2 => fnd_none h k k1 (by omega)), dfR_end (by omega)]
theorem dfR_some {ad : List ADc} {el : Str} {gv : List Att} {j i : Nat} (h : fnd ad el j = some i) : dfR ad el gv j = (dfF ad el gv i).toList ++ dfR ad el gv (i + 1) := by
  obtain ⟨f1, f2, f3, f4⟩ := fnd_some h
  rw [dfR_skip (i - j) (by omega) (fun k k1 k2 => f4 k k1 (by omega)), show j + (i - j) = i by omega, dfR_step f2]
theorem dfR_len {ad : List ADc} {el : Str} {gv : List Att} {j : Nat} : (dfR ad el gv j).length ≤ ad.length - j := by
  unfold dfR
  have := List.length_filterMap_le (dfF ad el gv) (List.range' j (ad.length - j))
  rw [List.length_range'] at this
  exact this
end JI35
