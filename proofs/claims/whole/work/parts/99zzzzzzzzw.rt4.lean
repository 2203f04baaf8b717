/-! ===== letters stand in elements alone (pure) ===== -/
/-- how deep, along a stream, and whether a first element began -/
def nst : List Evt → Nat × Bool → Option (Nat × Bool)
  | [], d => some d
  | .inr _ :: r, d => nst r d
  | .inl c :: r, d => if c = -1 then (if d.1 = 0 then none else nst r (d.1 - 1, d.2)) else if c < 0 then (if d.1 = 0 ∧ d.2 = true then none else nst r (d.1 + 1, true)) else if d.1 = 0 then none else nst r d
def GY (a : AS) : Prop := nst (aS a) (0, false) = some ((aO a).length, !(aL a).isEmpty)
section Rt7
variable {rm nd n k : Nat} {B : Nat → Int} {a a' X Y : AS}
theorem nst_c {c : Int} {r : List Evt} {d : Nat × Bool} : nst (.inl c :: r) d = if c = -1 then (if d.1 = 0 then none else nst r (d.1 - 1, d.2)) else if c < 0 then (if d.1 = 0 ∧ d.2 = true then none else nst r (d.1 + 1, true)) else if d.1 = 0 then none else nst r d := rfl
theorem nst_app : ∀ {l l' : List Evt} {d d' : Nat × Bool}, nst l d = some d' → nst (l ++ l') d = nst l' d'
  | [], l', d, d', h => by cases h; rfl
  | .inr _ :: r, l', d, d', h => nst_app (l := r) h
  | .inl c :: r, l', d, d', h => by
    rw [nst_c] at h
    rw [List.cons_append, nst_c]
    by_cases c1 : c = -1
    · rw [if_pos c1] at h ⊢
      by_cases c2 : d.1 = 0
      · rw [if_pos c2] at h; cases h
      · rw [if_neg c2] at h ⊢; exact nst_app h
    · rw [if_neg c1] at h ⊢
      by_cases c3 : c < 0
      · rw [if_pos c3] at h ⊢
        by_cases c2 : d.1 = 0 ∧ d.2 = true
        · rw [if_pos c2] at h; cases h
        · rw [if_neg c2] at h ⊢; exact nst_app h
      · rw [if_neg c3] at h ⊢
        by_cases c2 : d.1 = 0
        · rw [if_pos c2] at h; cases h
        · rw [if_neg c2] at h ⊢; exact nst_app h
theorem nst_lt : ∀ {l : List Evt} {d : Nat × Bool}, (∀ v ∈ l, ∀ c, v = .inl c → 0 ≤ c) → (d.1 ≠ 0 ∨ ∀ v ∈ l, ∃ x, v = (Sum.inr x : Evt)) → nst l d = some d
  | [], d, _, _ => rfl
  | .inr _ :: r, d, h, hd => nst_lt (l := r) (fun v hv => h v (List.mem_cons_of_mem _ hv)) (hd.imp id (fun z v hv => z v (List.mem_cons_of_mem _ hv)))
  | .inl c :: r, d, h, hd => by
    have hc := h _ List.mem_cons_self c rfl
    have hd' : d.1 ≠ 0 := by
      rcases hd with z | z
      · exact z
      · obtain ⟨x, hx⟩ := z _ List.mem_cons_self
        cases hx
    rw [nst_c, if_neg (by omega), if_neg (by omega), if_neg hd']
    exact nst_lt (l := r) (fun v hv => h v (List.mem_cons_of_mem _ hv)) (Or.inl hd')
theorem NS.advE (h : aS X = aS a) : aS (adv X k) = aS a := by rw [adv_other.2.2.2.2.2.2.2.2.1, h]
theorem stp_lt (hs : stp rm nd a = .inr a') : aN a 4 = 2 ∨ (iTag rm nd a = .inr a' ∧ aN a 4 ≠ 1 ∧ aN a 4 ≠ 3) ∨ ∃ l, aS a' = aS a ++ l ∧ ∀ v ∈ l, ∃ x, v = (Sum.inr x : Evt) := by
  have one : aS a' = aS a → ∃ l, aS a' = aS a ++ l ∧ ∀ v ∈ l, ∃ x, v = (Sum.inr x : Evt) := fun h => ⟨[], by rw [h, List.append_nil], fun v hv => by cases hv⟩
  have pSpc : ∀ {b : AS}, iSpc a = .inr b → aS b = aS a := fun h => by
    unfold iSpc at h
    cases h
    exact NS.advE rfl
  have pCmt : ∀ {b : AS}, iCmt a = .inr b → aS b = aS a := fun h => by
    unfold iCmt at h
    split at h
    · cases h
    · cases h
      exact NS.advE tch_other.2.2.2.2.2.2.2.2.1
  unfold stp at hs
  split at hs
  · unfold iFin at hs
    split at hs
    · cases hs
    · cases hs
    · split at hs
      · cases hs
      · cases hs
        exact Or.inr (Or.inr (one rfl))
  · split at hs
    · refine Or.inr (Or.inr (one ?_))
      unfold iSub at hs
      split at hs
      · exact pSpc hs
      · split at hs
        · unfold iPrf at hs
          split at hs
          · split at hs
            · cases hs
            · split at hs
              · cases hs
              · rename_i he
                cases hs
                show aS _ = _
                unfold ent at he
                split at he
                · cases he
                · split at he
                  · cases he
                  · split at he
                    · cases he
                    · cases he
                      rfl
          · cases hs
        · split at hs
          · unfold iSbe at hs
            split at hs
            · cases hs
            · cases hs
              exact NS.advE rfl
          · split at hs
            · exact pCmt hs
            · split at hs
              · unfold iPin at hs
                split at hs
                · cases hs
                · split at hs
                  · cases hs
                  · cases hs
                    exact NS.advE rfl
              · split at hs
                · unfold iEld at hs
                  split at hs
                  · split at hs
                    · split at hs
                      · cases hs
                      · cases hs
                        exact NS.advE rfl
                    · cases hs
                  · cases hs
                · split at hs
                  · unfold iAtl at hs
                    split at hs
                    · split at hs
                      · split at hs
                        · cases hs
                        · cases hs
                          exact NS.advE rfl
                      · cases hs
                    · cases hs
                  · split at hs
                    · unfold iEnt at hs
                      split at hs
                      · split at hs
                        · cases hs
                        · split at hs
                          · split at hs
                            · cases hs
                            · cases hs
                              refine NS.advE ?_
                              split
                              · rfl
                              · rfl
                          · cases hs
                      · cases hs
                    · split at hs
                      · unfold iNot at hs
                        split at hs
                        · split at hs
                          · cases hs
                            exact NS.advE rfl
                          · cases hs
                        · cases hs
                      · cases hs
    · split at hs
      · rename_i h2
        exact Or.inl h2
      · unfold iOut at hs
        split at hs
        · exact Or.inr (Or.inr (one (pSpc hs)))
        · split at hs
          · exact Or.inr (Or.inr (one (pCmt hs)))
          · split at hs
            · refine Or.inr (Or.inr ?_)
              unfold iPin at hs
              split at hs
              · cases hs
              · rename_i n f q hpin
                split at hs
                · cases hs
                · cases hs
                  refine ⟨[.inr (sl (gd (cur a)) 2 (n - 2), sl (gd (cur a)) f (q - 2 - f))], ?_, fun v hv => ⟨_, List.mem_singleton.mp hv⟩⟩
                  rw [adv_other.2.2.2.2.2.2.2.2.1]
                  rfl
            · split at hs
              · cases hs
              · rename_i h1 _ _ _ _ h3
                split at hs
                · exact Or.inr (Or.inl ⟨hs, h1, fun y => h3 (Or.inl y)⟩)
                · split at hs
                  · cases hs
                  · refine Or.inr (Or.inr (one ?_))
                    unfold iDtd at hs
                    split at hs
                    · split at hs
                      · cases hs
                      · cases hs
                        exact NS.advE rfl
                    · cases hs
theorem GY.stpE (hG : GI rm nd a) (hW : GW a) (h : GY a) (hs : stp rm nd a = .inr a') : GY a' := by
  have hph : aN a 4 = 2 ↔ aO a ≠ [] := hG.1.2.2.2.2.2.1.2.1
  have hp3 : aN a 4 ≤ 3 := hG.1.2.2.2.2.2.1.1
  have hp0 : aN a 4 ≤ 1 → aL a = [] := hG.1.2.2.2.2.2.2.2.2.1
  have ln : ∀ {x y : List Elm} {w : List Int}, x.map (fun x => x.2.1) = y.map (fun x => x.2.1) ++ w → x.length = y.length + w.length := fun z => by
    have := congrArg List.length z
    rw [List.length_append, List.length_map, List.length_map] at this
    exact this
  have emp : ∀ {x y : List Elm}, x.length = y.length → x.isEmpty = y.isEmpty := fun {x y} z => by
    cases x with
    | nil => cases y with
      | nil => rfl
      | cons _ _ => cases z
    | cons _ _ => cases y with
      | nil => cases z
      | cons _ _ => rfl
  unfold GY at h ⊢
  rcases stp_str hG hs with ⟨l, ⟨-, t2, t3, t4⟩, l2⟩ | ⟨e, r, q1, -, q3, q4, q5⟩ | ⟨-, q2, q3⟩
  · have z2 := ln (x := aL a') (y := aL a) (w := []) (t3.trans (List.append_nil _).symm)
    rw [t4, t2, nst_app h, emp z2]
    refine nst_lt (fun v hv c hc => ?_) ?_
    · rcases l2 v hv c hc with z | z
      · have := isCh_pos (hW.1 c z); omega
      · have := isCh_pos z; omega
    · rcases stp_lt hs with z | ⟨z, -⟩ | ⟨l', z1, z3⟩
      · refine Or.inl (fun y => (hph.mp z) (List.length_eq_zero_iff.mp y))
      · obtain ⟨k', n, κ, c, m, gv, y1, y2, y3, -, y8, y9, y10, y11, y12⟩ := iTag_at z
        have z1 := congrArg List.length y11
        rw [List.length_append, List.length_map, List.length_map, z2] at z1
        exact absurd z1 (by simp)
      · rw [t4] at z1
        have := List.append_cancel_left z1
        rw [this]
        exact Or.inr z3
  · have z2 := ln (x := aL a') (y := aL a) (w := []) (q4.trans (List.append_nil _).symm)
    rw [q5, q3, nst_app h, q1, emp z2]
    rfl
  · have z2 := ln q2
    have hne : (aL a').isEmpty = false := by
      cases hx : aL a' with
      | nil => rw [hx] at z2; exact absurd z2 (by simp)
      | cons _ _ => rfl
    have hno : ¬ ((aO a).length = 0 ∧ (!(aL a).isEmpty) = true) := fun ⟨y1, y2⟩ => by
      have y3 : aO a = [] := List.length_eq_zero_iff.mp y1
      have hn2 : aN a 4 ≠ 2 := fun y => (hph.mp y) y3
      have h0 : aN a 4 = 0 := by
        rcases stp_lt hs with z | ⟨-, z1, z3⟩ | ⟨l', z1, z3⟩
        · exact absurd z hn2
        · omega
        · exfalso
          rcases q3 with ⟨-, w2⟩ | ⟨-, w2⟩
          · rw [w2] at z1
            have := List.append_cancel_left z1
            rw [← this] at z3
            obtain ⟨x, hx⟩ := z3 _ List.mem_cons_self
            cases hx
          · rw [w2] at z1
            have := List.append_cancel_left z1
            rw [← this] at z3
            obtain ⟨x, hx⟩ := z3 _ List.mem_cons_self
            cases hx
      rw [hp0 (by omega)] at y2
      cases y2
    rcases q3 with ⟨y1, y2⟩ | ⟨y1, y2⟩
    · rw [y1, y2, nst_app h, nst_c, if_neg (by omega), if_pos (by omega), if_neg hno, hne]
      rfl
    · rw [y1, y2, nst_app h, nst_c, if_neg (by omega), if_pos (by omega), if_neg hno, hne]
      rfl
theorem GW_a0 {l : List Int} (hl : ∀ c ∈ l, isCh c = true) {st : Nat} : GW (a0 l) ∧ GW (adv (sN (a0 l) 5 st) k) := by
  have hlt : ∀ c, ltA (a0 l) c → isCh c = true := fun c hc => by
    rcases hc with ⟨f, hf, hcf⟩ | ⟨x, hx, -⟩
    · have hf' : f ∈ [(l, 0, 0)] := hf
      rw [List.mem_singleton.mp hf'] at hcf
      exact hl c hcf
    · cases hx
  refine ⟨⟨hlt, rfl, fun v hv => (by cases hv)⟩, ?_⟩
  obtain ⟨t1, t2, t3, t4⟩ := TRs.advE (a := a0 l) (X := sN (a0 l) 5 st) (k := k) (l := []) ⟨fun _ h => Or.inl h, rfl, rfl, rfl⟩
  refine ⟨fun c hc => (t1 c hc).elim (hlt c) id, ?_, fun v hv => ?_⟩
  · rw [t4, t2]
    have hl0 : (aL (adv (sN (a0 l) 5 st) k)).length = 0 := by
      have := congrArg List.length t3
      rw [List.length_map, List.length_map] at this
      exact this
    rw [hl0]
    rfl
  · rw [t4] at hv
    cases hv
theorem jdg_GY (hn : n ≤ 65536) (h : jdg rm nd B n = .inr a') : GY a' :=
  (jdg_inv2 (fun a => GW a ∧ GY a) (fun _ _ hG hV hs => ⟨GW.stpE hG hV.1 hs, GY.stpE hG hV.1 hV.2 hs⟩) (fun l hl st k => by
    refine ⟨⟨(GW_a0 (k := 0) (st := 0) hl).1, rfl⟩, (GW_a0 hl).2, ?_⟩
    obtain ⟨o1, o2, o3, o4, o5, o6, o7, o8, o9, o10⟩ := adv_other (a := sN (a0 l) 5 st) (k := k)
    unfold GY
    rw [o9, o10]
    rfl) hn h).2
end Rt7
