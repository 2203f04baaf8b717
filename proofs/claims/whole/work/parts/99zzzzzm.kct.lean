/-! ===== the reference: declared elements ===== -/
section Kct
variable {L : Nat → Nat} {rm nd o : Nat} {σ ρ τ : IS} {g g' : KG} {a A : AS} {Q : IS → Prop} {R : Int → IS → Prop} {v : Int} {s : Str} {ed : List EDc}
/-- which of the first declarations -/
def fEi (ed : List EDc) (s : Str) : Option Nat := edf (fE ed) s
theorem fE_app {x : EDc} : fE (ed ++ [x]) = if x.1 ∈ (fE ed).map (fun y => y.1) then fE ed else fE ed ++ [x] := by
  unfold fE
  rw [List.foldl_append]
  rfl
theorem edf_snoc {x : EDc} : edf (ed ++ [x]) s = if (edf ed s).isSome = true then edf ed s else if x.1 = s then some ed.length else none := by
  unfold edf
  rw [List.findIdx?_append]
  cases h : List.findIdx? (fun x => x.1 == s) ed with
  | some i => rfl
  | none =>
    rw [List.findIdx?_cons]
    by_cases c : x.1 = s
    · rw [if_pos (show (x.1 == s) = true by rw [c]; simp), if_neg (by decide), if_pos c]
      show some (0 + ed.length) = some ed.length
      rw [Nat.zero_add]
    · rw [if_neg (show ¬ (x.1 == s) = true by simpa using c), if_neg (by decide), if_neg c]
      rfl
theorem edf_mem : (edf ed s).isSome = true ↔ s ∈ ed.map (fun y => y.1) := by
  unfold edf
  rw [List.findIdx?_isSome, List.any_eq_true]
  constructor
  · rintro ⟨x, h1, h2⟩
    exact List.mem_map.mpr ⟨x, h1, by simpa using h2⟩
  · intro h
    obtain ⟨x, h1, h2⟩ := List.mem_map.mp h
    exact ⟨x, h1, by rw [← h2]; simp⟩
/-- the first declaration is the same in both lists -/
theorem fE_edf : ∀ (ed : List EDc), ((fEi ed s).isSome = (edf ed s).isSome) ∧ ∀ i d, fEi ed s = some i → edf ed s = some d → (fE ed).getD i ([], 0, []) = ed.getD d ([], 0, []) := by
  intro ed
  have key : ∀ n (ed : List EDc), ed.length = n → ((fEi ed s).isSome = (edf ed s).isSome) ∧ ∀ i d, fEi ed s = some i → edf ed s = some d → (fE ed).getD i ([], 0, []) = ed.getD d ([], 0, []) := by
    intro n
    induction n with
    | zero =>
      intro ed h
      have : ed = [] := List.eq_nil_of_length_eq_zero h
      subst this
      exact ⟨rfl, fun i d h1 => by cases h1⟩
    | succ n ih =>
      intro ed h
      obtain ⟨ed', x, rfl⟩ : ∃ ed' x, ed = ed' ++ [x] := by
        have hne : ed ≠ [] := fun z => by rw [z] at h; cases h
        exact ⟨ed.dropLast, ed.getLast hne, (List.dropLast_concat_getLast hne).symm⟩
      rw [List.length_append, List.length_singleton] at h
      obtain ⟨ih1, ih2⟩ := ih ed' (by omega)
      unfold fEi at ih1 ih2 ⊢
      rw [fE_app, edf_snoc]
      by_cases cx : x.1 ∈ (fE ed').map (fun y => y.1)
      · rw [if_pos cx]
        have hx : (edf (fE ed') x.1).isSome = true := edf_mem.mpr cx
        by_cases cs : (edf ed' s).isSome = true
        · rw [if_pos cs]
          refine ⟨ih1, fun i d h1 h2 => ?_⟩
          rw [ih2 i d h1 h2, getD_app_l (edf_lt h2)]
        · rw [if_neg cs]
          have hns : ¬ x.1 = s := fun z => by
            rw [z] at hx
            rw [ih1] at hx
            exact cs hx
          rw [if_neg hns]
          refine ⟨?_, fun i d h1 h2 => by cases h2⟩
          rw [ih1]
          cases hh : (edf ed' s).isSome with
          | true => exact absurd hh cs
          | false => rfl
      · rw [if_neg cx, edf_snoc]
        by_cases cs : (edf ed' s).isSome = true
        · have cs2 : (edf (fE ed') s).isSome = true := by rw [ih1]; exact cs
          rw [if_pos cs, if_pos cs2]
          refine ⟨ih1, fun i d h1 h2 => ?_⟩
          rw [getD_app_l (edf_lt h1), getD_app_l (edf_lt h2)]
          exact ih2 i d h1 h2
        · have cs2 : ¬ (edf (fE ed') s).isSome = true := by rw [ih1]; exact cs
          rw [if_neg cs, if_neg cs2]
          by_cases ce : x.1 = s
          · rw [if_pos ce, if_pos ce]
            refine ⟨rfl, fun i d h1 h2 => ?_⟩
            cases h1
            cases h2
            rw [getD_snoc, getD_snoc, if_neg (by omega), if_pos rfl, if_neg (by omega), if_pos rfl]
          · rw [if_neg ce, if_neg ce]
            exact ⟨rfl, fun i d h1 => by cases h1⟩
  exact key _ ed rfl
theorem sp_K_contentOf (hL : KLn L o rm nd) (hn : (gB g).Nodup) (hE : KEd σ (gB g) ed) (hl : (fE ed).length ≤ 8300) (hv : Kf (gB g) v s) (hq : R (enc (fEi ed s)) σ) : w_KReader_contentOf L v R σ := by
  obtain ⟨h1, h2, -⟩ := hE
  have l9 := hL.2.2.2.2.2.2.2.2.1 189 (by omega) (by omega)
  unfold w_KReader_contentOf
  refine sp_fnd' (names := (fE ed).map (fun y => y.1)) (W := fun s3 σ4 => R (if s3 < (σ4.1 16 40) then s3 else ((-1) : Int)) σ4) hn hv (by rw [List.length_map]; exact h1) (by rw [List.length_map]; omega) (by rw [List.length_map]; omega) (fun i hi => ?_) (fun n n1 n2 n3 => ?_)
  · rw [List.length_map] at hi
    have := (h2 i hi).1
    rw [List.getD_eq_getElem?_getD, List.getElem?_map, List.getElem?_eq_getElem hi]
    rw [List.getD_eq_getElem?_getD, List.getElem?_eq_getElem hi] at this
    exact this
  · rw [List.length_map] at n1 n3
    have eg : ∀ j, j < (fE ed).length → ((fE ed).map (fun y => y.1)).getD j [] = ((fE ed).getD j ([], 0, [])).1 := fun j hj => by
      rw [List.getD_eq_getElem?_getD, List.getElem?_map, List.getElem?_eq_getElem hj, List.getD_eq_getElem?_getD, List.getElem?_eq_getElem hj]
      rfl
    have hF := fidx (p := fun x : EDc => x.1 == s) (d := ([], 0, [])) n1 (fun j hj => by
      have := n2 j hj
      rw [eg j (by omega)] at this
      exact beq_eq_false_iff_ne.mpr this)
    unfold fEi edf at hq
    by_cases c : n < (fE ed).length
    · rw [if_pos (by omega)]
      have := n3 c
      rw [eg n c] at this
      rw [hF.1 c (by rw [this]; simp)] at hq
      exact hq
    · rw [if_neg (by omega)]
      rw [hF.2 (by omega)] at hq
      exact hq
end Kct
