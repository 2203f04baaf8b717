/-! ===== the head of a text (2) ===== -/
/-- a place where a letter stands -/
def ltf (T : Nat → Int) (e : Nat) (o : Option Nat) : Option Nat := match o with
  | none => none
  | some i => if isLt (lk T e i) = true then some i else none
/-- behind the version -/
def hdV (T : Nat → Int) (e p : Nat) : Option Nat := match qof T e [118, 101, 114, 115, 105, 111, 110] (spc T e (wd T e [60, 63, 120, 109, 108] (some p))) with
  | none => none
  | some i => qcl T e (T (i - 1)) (lts false T e (wd T e [49, 46] (some i)))
def hdE1 (T : Nat → Int) (e : Nat) (o : Option Nat) : Option (Option (Nat × Nat) × Nat) := match o with
  | none => none
  | some i => if isLt (lk T e i) = true then (match qcl T e (T (i - 1)) (lts true T e (some i)) with
    | none => none
    | some j => some (some (i, sk (isHl true) T e i - i), j)) else none
/-- the encoding, where its name stands; and behind it -/
def hdE (T : Nat → Int) (e v : Nat) : Option (Option (Nat × Nat) × Nat) := if sk isSp T e v ≠ v ∧ mt T e (sk isSp T e v) [101, 110, 99, 111, 100, 105, 110, 103] = true then hdE1 T e (qof T e [101, 110, 99, 111, 100, 105, 110, 103] (some (sk isSp T e v)))
  else some (none, v)
def hdS1 (T : Nat → Int) (e : Nat) (o : Option Nat) : Option (Nat × Nat) := match o with
  | none => none
  | some i => if mt T e i [121, 101, 115] = true then (qcl T e (T (i - 1)) (some (i + 3))).map (fun z => (1, z)) else (qcl T e (T (i - 1)) (wd T e [110, 111] (some i))).map (fun z => (0, z))
/-- whether it stands alone, and behind that -/
def hdS (T : Nat → Int) (e j : Nat) : Option (Nat × Nat) := if sk isSp T e j ≠ j ∧ mt T e (sk isSp T e j) [115, 116, 97, 110, 100, 97, 108, 111, 110, 101] = true then hdS1 T e (qof T e [115, 116, 97, 110, 100, 97, 108, 111, 110, 101] (some (sk isSp T e j)))
  else some (0, j)
/-- the head that begins at p: alone, the encoding, behind it -/
def hdk (T : Nat → Int) (e p : Nat) : Option (Nat × Option (Nat × Nat) × Nat) := match hdV T e p with
  | none => none
  | some v => match hdE T e v with
    | none => none
    | some (en, j) => match hdS T e j with
      | none => none
      | some (st, z) => match wd T e [63, 62] (some (sk isSp T e z)) with
        | none => none
        | some k => some (st, en, k)
/-- whether the encoding is the one that the text is written in -/
def encOk (T : Nat → Int) (wide : Bool) (en : Option (Nat × Nat)) : Prop := match en with
  | none => True
  | some (i, n) => (sl T i n).map lowr = if wide = true then [117, 116, 102, 45, 49, 54] else [117, 116, 102, 45, 56]
section JHd2
variable {L : Nat → Nat} {σ τ : IS} {e k p : Nat} {o : Option Nat} {Q : IS → Prop}
theorem JS.f315 {v : Int} (h : JS L σ e) : JS L (pf σ 3 15 v) e := ⟨(pf_no (by decide)).trans h.1, h.2.1, h.2.2.1, (pf_no (by decide)).trans h.2.2.2.1, fun j h1 h2 => by rw [pf_no (by decide)]; exact h.2.2.2.2 j h1 h2⟩
theorem isLt_Hl {c : Int} (h : isLt c = true) : isHl true c = true := by
  unfold isHl
  rw [h]
  simp
theorem isQt_ne {v : Int} (h : isQt v = true) : v ≠ -1 := by
  intro z
  rw [z] at h
  exact absurd h (by decide)
theorem jp.flt5 {i : Nat} (hS : JS L σ e) (h : jp e k σ (some i) τ) : jp e k σ none (flt τ 5) ∧ (flt τ 5).1 2 2 = τ.1 2 2 := by
  obtain ⟨x, hz⟩ := h
  have hjs := hz.js hS.so
  refine ⟨⟨x, hz.of (flt_none (L := L) (k := k) (hz.js hS.so) hz.1 (pf_self hz.2.2).symm)⟩, ?_⟩
  rw [flt_val hjs.2.2.2.1, pf_nk (by decide)]
set_option maxHeartbeats 4000000 in
theorem p_head {wide : Bool} (hS : JS L σ e) (hee : e + 50 ≤ L 101) (hch : jch L σ) (h15 : σ.1 1 5 = 0 ↔ wide = false) (h315 : σ.1 3 15 = 0) (h : jp e 0 σ (some p) τ)
    (hq : ∀ st en k τ', hdk (σ.2 101) e p = some (st, en, k) → jp e 10 (pf σ 3 15 (st : Int)) (some k) τ' → (encOk (σ.2 101) wide en → Q τ') ∧ (¬ encOk (σ.2 101) wide en → Q (flt τ' 2)))
    (hb : hdk (σ.2 101) e p = none → ∀ x τ', jp e 10 (pf σ 3 15 x) none τ' → Q τ') : w_Content_readHead L Q τ := by
  have h9 := hS.2.2.1
  generalize hT : σ.2 101 = T at *
  unfold w_Content_readHead
  refine p_need hS (by omega) ti_1002 (by decide) h (fun τ1 h1 => p_needSpace hS (by omega) h1 (fun τ3 h3 => p_quoteOf hS (by omega) ti_1003 (by decide) h3 (fun v6 τ5 h5 hv6 => p_need hS (by omega) ti_1004 (by decide) h5 (fun τ7 h7 => p_letters (al := false) hS (by omega) ⟨fun _ => rfl, fun _ => rfl⟩ h7 (fun τ9 h9' _ => p_quote hS (by omega) (fun i hi => ?_) h9' (fun τ11 h11 => p_skipSpace hS (by omega) h11 (fun v14 τ13 h13 h01 hv14 => ?_)))))))
  · rw [hT] at hv6 hi
    cases hqo : qof T e [118, 101, 114, 115, 105, 111, 110] (spc T e (wd T e [60, 63, 120, 109, 108] (some p))) with
    | none => rw [hqo] at hi; cases hi
    | some i0 => exact isQt_ne (hv6 i0 hqo).2.1
  · rw [hT] at h11 h13 hv14 hv6
    -- the version
    have hV : qcl T e v6 (lts false T e (wd T e [49, 46] (qof T e [118, 101, 114, 115, 105, 111, 110] (spc T e (wd T e [60, 63, 120, 109, 108] (some p)))))) = hdV T e p := by
      unfold hdV
      cases hqo : qof T e [118, 101, 114, 115, 105, 111, 110] (spc T e (wd T e [60, 63, 120, 109, 108] (some p))) with
      | none => rfl
      | some i0 =>
        dsimp only
        rw [(hv6 i0 hqo).1]
    rw [hV] at h13 hv14
    refine WJ_of (fun s ρ => (∃ v en j, hdV T e p = some v ∧ hdE T e v = some (en, j) ∧ j ≤ e ∧ jp e 5 σ (some (sk isSp T e j)) ρ ∧ s.1 = (if sk isSp T e j = j then 0 else 1) ∧ (en = none → s.2.1 = -1) ∧ (∀ i n, en = some (i, n) → s.2.1 = (i : Int) ∧ s.2.2 = (n : Int) ∧ i + n ≤ e)) ∨ (hdk T e p = none ∧ jp e 5 σ none ρ ∧ (s.2.1 = -1 ∨ ∃ i n : Nat, s.2.1 = (i : Int) ∧ s.2.2 = (n : Int) ∧ i + n ≤ e + 5))) (fun J15 hJ15 => ?_) ?_
    · -- the encoding, or none
      have hbadV : hdV T e p = none → hdk T e p = none := fun hz => by unfold hdk; rw [hz]
      have hnoE : ∀ s1 : Int, (∀ v, hdV T e p = some v → hdE T e v = some (none, v) ∧ v ≤ e ∧ s1 = if sk isSp T e v = v then 0 else 1) → J15 (s1, (-1), 0) τ13 := by
        intro s1 hs
        cases hz : hdV T e p with
        | none =>
          rw [hz] at h13
          exact hJ15 _ _ (Or.inr ⟨hbadV hz, h13.mono (by omega), Or.inl rfl⟩)
        | some v =>
          rw [hz] at h13
          have := hs v hz
          exact hJ15 _ _ (Or.inl ⟨v, none, v, hz, this.1, this.2.1, (show jp e 2 σ (some (sk isSp T e v)) τ13 from h13).mono (by omega), this.2.2, fun _ => rfl, fun i n hin => by cases hin⟩)
      have hve : ∀ v, hdV T e p = some v → v ≤ e := fun v hz => by
        rw [hV, hz] at h11
        exact h11.at.2
      by_cases c14 : v14 = 0
      · rw [if_pos c14, c14]
        refine hnoE 0 (fun v hz => ?_)
        have := hv14 v hz
        have hsv : sk isSp T e v = v := by
          by_cases y : sk isSp T e v = v
          · exact y
          · rw [if_neg y, c14] at this; omega
        refine ⟨?_, hve v hz, by rw [if_pos hsv]⟩
        unfold hdE
        rw [if_neg (fun y => y.1 hsv)]
      · rw [if_neg c14]
        refine p_at hS (by omega) ti_1005 (by decide) h13 (fun v61 h61 hv61 => ?_)
        rw [hT] at hv61
        by_cases c61 : v61 = 0
        · rw [if_pos c61]
          refine hnoE v14 (fun v hz => ?_)
          have hv := hv14 v hz
          have hm := hv61 (sk isSp T e v) (by rw [hz]; rfl)
          refine ⟨?_, hve v hz, hv⟩
          unfold hdE
          rw [if_neg (fun y => by rw [y.2, c61] at hm; exact absurd hm (by decide))]
        · rw [if_neg c61]
          -- an encoding is written here, if all was well
          have hcE : ∀ v, hdV T e p = some v → sk isSp T e v ≠ v ∧ mt T e (sk isSp T e v) [101, 110, 99, 111, 100, 105, 110, 103] = true := by
            intro v hz
            have hv := hv14 v hz
            have hm := hv61 (sk isSp T e v) (by rw [hz]; rfl)
            refine ⟨fun y => by rw [if_pos y] at hv; exact c14 hv, ?_⟩
            cases hmm : mt T e (sk isSp T e v) [101, 110, 99, 111, 100, 105, 110, 103] with
            | true => rfl
            | false => rw [hmm] at hm; exact absurd hm c61
          refine p_quoteOf hS (by omega) ti_1005 (by decide) h13 (fun v64 τ63 h63 hv64 => ?_)
          rw [hT] at h63 hv64
          refine p_peek hS (by omega) h63 (fun v66 hv66 => sp_Reader_isLetter ?_)
          rw [hT] at hv66
          generalize ho3 : qof T e [101, 110, 99, 111, 100, 105, 110, 103] (asp T e (hdV T e p)) = o3 at *
          refine WJ_of (fun _ ρ => ∃ o4 : Option Nat, jp e 3 σ o4 ρ ∧ ρ.1 2 2 = τ63.1 2 2 ∧ o4 = ltf T e o3) (fun J69 hJ69 => ?_) ?_
          · cases hoo : o3 with
            | none =>
              rw [hoo] at h63
              split
              · refine sp_Reader_fail ?_
                rw [flt_bad (jp.f5 h63)]
                exact hJ69 _ _ ⟨none, h63, rfl, by rw [hoo]; rfl⟩
              · exact hJ69 _ _ ⟨none, h63, rfl, by rw [hoo]; rfl⟩
            | some i =>
              have e66 := hv66 i hoo
              rw [hoo] at h63
              rw [e66]
              by_cases cl : isLt (lk T e i) = true
              · rw [if_neg (by rw [cl]; decide)]
                exact hJ69 _ _ ⟨some i, h63, rfl, by rw [hoo]; unfold ltf; dsimp only; rw [if_pos cl]⟩
              · have cl' : isLt (lk T e i) = false := by simpa using cl
                rw [if_pos (by rw [cl']; rfl)]
                refine sp_Reader_fail ?_
                obtain ⟨f1, f2⟩ := h63.flt5 hS
                exact hJ69 _ _ ⟨none, f1, f2, by rw [hoo]; unfold ltf; dsimp only; rw [if_neg cl]⟩
          · rintro _ ρ ⟨o4, h4, h22, ho4⟩
            refine p_letters (al := true) hS (by omega) ⟨fun z => (by cases z), fun z => (by cases z)⟩ h4 (fun τ73 h73 hge => ?_)
            rw [hT] at h73
            obtain ⟨r1, hr1, hr1k⟩ := h63.pos
            obtain ⟨r2, hr2, hr2k⟩ := h73.pos
            rw [h22] at hge
            rw [hr1, hr2] at hge ⊢
            refine ⟨⟨by omega, by omega⟩, ?_⟩
            refine p_quote hS (by omega) (fun i hi => ?_) h73 (fun τ75 h75 => p_skipSpace hS (by omega) h75 (fun v78 τ77 h77 _ hv78 => hJ15 _ _ ?_))
            · cases hoo : o3 with
              | none => rw [ho4, hoo] at hi; cases hi
              | some i0 => exact isQt_ne (hv64 i0 hoo).2.1
            · rw [hT] at h75 h77 hv78
              have hbd : ∃ i n : Nat, (r1 : Int) = (i : Int) ∧ (r2 : Int) - (r1 : Int) = (n : Int) ∧ i + n ≤ e + 5 := ⟨r1, r2 - r1, rfl, by omega, by omega⟩
              cases hz : hdV T e p with
              | none =>
                rw [hz] at ho3
                have e3 : o3 = none := by rw [← ho3]; rfl
                rw [e3] at ho4
                have e4 : o4 = none := ho4
                rw [e4] at h77
                exact Or.inr ⟨hbadV hz, (show jp e 4 σ none τ77 from h77).mono (by omega), Or.inr hbd⟩
              | some v =>
                have hc := hcE v hz
                have hE : hdE T e v = hdE1 T e o3 := by
                  unfold hdE
                  rw [if_pos hc, ← ho3, hz]
                  rfl
                have hkE : hdE T e v = none → hdk T e p = none := fun y => by unfold hdk; rw [hz]; dsimp only; rw [y]
                cases hoo : o3 with
                | none =>
                  rw [hoo] at ho4 hE
                  have e4 : o4 = none := ho4
                  rw [e4] at h77
                  exact Or.inr ⟨hkE hE, (show jp e 4 σ none τ77 from h77).mono (by omega), Or.inr hbd⟩
                | some i =>
                  have hq64 := hv64 i hoo
                  rw [hoo] at ho4 hE h63
                  unfold ltf at ho4
                  unfold hdE1 at hE
                  dsimp only at ho4 hE
                  by_cases cl : isLt (lk T e i) = true
                  · rw [if_pos cl] at ho4 hE
                    rw [ho4] at h73 h75 h77 hv78
                    have hilt : i < e ∧ lk T e i = T i := by
                      by_cases z : i < e
                      · exact ⟨z, by unfold lk; rw [if_pos z]⟩
                      · unfold lk at cl
                        rw [if_neg z] at cl
                        exact absurd cl (by decide)
                    have hgo : sk (isHl true) T e i ≠ i := by
                      rw [sk_go hilt.1 (isLt_Hl (by rw [← hilt.2]; exact cl))]
                      have : i + 1 ≤ sk (isHl true) T e (i + 1) := sk_gt
                      omega
                    have hl2 : lts true T e (some i) = some (sk (isHl true) T e i) := by
                      show (if sk (isHl true) T e i = i then none else some (sk (isHl true) T e i)) = _
                      rw [if_neg hgo]
                    rw [hl2] at h73 h75 h77 hv78 hE
                    rw [hq64.1] at h75 h77 hv78
                    have ei : r1 = i := by have := h63.at.1; omega
                    have e2 : r2 = sk (isHl true) T e i := by have := h73.at.1; omega
                    have hge2 : i ≤ sk (isHl true) T e i := sk_gt
                    have h2e := h73.at.2
                    cases hqc : qcl T e (T (i - 1)) (some (sk (isHl true) T e i)) with
                    | none =>
                      rw [hqc] at h77 hE
                      exact Or.inr ⟨hkE hE, (show jp e 4 σ none τ77 from h77).mono (by omega), Or.inr hbd⟩
                    | some j =>
                      rw [hqc] at h75 h77 hE hv78
                      dsimp only at hE
                      refine Or.inl ⟨v, some (i, sk (isHl true) T e i - i), j, rfl, hE, h75.at.2, (show jp e 4 σ (some (sk isSp T e j)) τ77 from h77).mono (by omega), hv78 j rfl, (fun y => (by cases y)), fun i' n' hin => ?_⟩
                      cases hin
                      exact ⟨by dsimp only; omega, by dsimp only; omega, by omega⟩
                  · rw [if_neg cl] at ho4 hE
                    rw [ho4] at h77
                    exact Or.inr ⟨hkE hE, (show jp e 4 σ none τ77 from h77).mono (by omega), Or.inr hbd⟩
    · rintro ⟨a1, a2, a3⟩ ρ hP
      dsimp only at hP ⊢
      refine WJ_of (fun _ ρ2 => (∃ v en j st z, hdV T e p = some v ∧ hdE T e v = some (en, j) ∧ hdS T e j = some (st, z) ∧ jp e 8 (pf σ 3 15 (st : Int)) (some (sk isSp T e z)) ρ2 ∧ (en = none → a2 = -1) ∧ (∀ i n, en = some (i, n) → a2 = (i : Int) ∧ a3 = (n : Int) ∧ i + n ≤ e)) ∨ (hdk T e p = none ∧ (∃ x, jp e 8 (pf σ 3 15 x) none ρ2) ∧ (a2 = -1 ∨ ∃ i n : Nat, a2 = (i : Int) ∧ a3 = (n : Int) ∧ i + n ≤ e + 5))) (fun J19 hJ19 => ?_) ?_
      · -- alone, or not said
        have hbad : ∀ (x : Int) ρ2 k', k' ≤ 8 → hdk T e p = none → (a2 = -1 ∨ ∃ i n : Nat, a2 = (i : Int) ∧ a3 = (n : Int) ∧ i + n ≤ e + 5) → jp e k' (pf σ 3 15 x) none ρ2 → J19 () ρ2 := fun x ρ2 k' hk' hn ha hj => hJ19 _ _ (Or.inr ⟨hn, ⟨x, hj.mono hk'⟩, ha⟩)
        have hs0 : pf σ 3 15 (σ.1 3 15) = σ := pf_self rfl
        have hs00 : pf σ 3 15 ((0 : Nat) : Int) = σ := pf_self h315
        have hkS : ∀ v en j, hdV T e p = some v → hdE T e v = some (en, j) → hdS T e j = none → hdk T e p = none := fun v en j y1 y2 y3 => by
          unfold hdk
          rw [y1]
          dsimp only
          rw [y2]
          dsimp only
          rw [y3]
        obtain ⟨o5, hj5, hgd⟩ : ∃ o5, jp e 5 σ o5 ρ ∧ ((∃ v en j, hdV T e p = some v ∧ hdE T e v = some (en, j) ∧ o5 = some (sk isSp T e j) ∧ a1 = (if sk isSp T e j = j then 0 else 1) ∧ (en = none → a2 = -1) ∧ (∀ i n, en = some (i, n) → a2 = (i : Int) ∧ a3 = (n : Int) ∧ i + n ≤ e)) ∨ (o5 = none ∧ hdk T e p = none ∧ (a2 = -1 ∨ ∃ i n : Nat, a2 = (i : Int) ∧ a3 = (n : Int) ∧ i + n ≤ e + 5))) := by
          rcases hP with ⟨v, en, j, w1, w2, w4, w5, w6, w7, w8⟩ | ⟨w1, w2, w3⟩
          · exact ⟨_, w5, Or.inl ⟨v, en, j, w1, w2, rfl, w6, w7, w8⟩⟩
          · exact ⟨none, w2, Or.inr ⟨rfl, w1, w3⟩⟩
        clear hP
        -- no word about it
        have hnoS : (∀ j, o5 = some (sk isSp T e j) → a1 = (if sk isSp T e j = j then 0 else 1) → hdS T e j = some (0, j)) → J19 () ρ := by
          intro hs
          rcases hgd with ⟨v, en, j, w1, w2, w3, w4, w7, w8⟩ | ⟨w1, w2, w3⟩
          · rw [w3] at hj5
            exact hJ19 _ _ (Or.inl ⟨v, en, j, 0, j, w1, w2, hs j w3 w4, by rw [hs00]; exact hj5.mono (by omega), w7, w8⟩)
          · rw [w1] at hj5
            exact hbad _ _ 5 (by omega) w2 w3 (by rw [hs0]; exact hj5)
        by_cases ca : a1 = 0
        · rw [if_pos ca]
          refine hnoS (fun j _ w4 => ?_)
          have hsj : sk isSp T e j = j := by
            by_cases y : sk isSp T e j = j
            · exact y
            · rw [if_neg y, ca] at w4; omega
          unfold hdS
          rw [if_neg (fun y => y.1 hsj)]
        · rw [if_neg ca]
          refine p_at hS (by omega) ti_1006 (by decide) hj5 (fun v41 _ hv41 => ?_)
          rw [hT] at hv41
          by_cases c41 : v41 = 0
          · rw [if_pos c41]
            refine hnoS (fun j w3 _ => ?_)
            have hm := hv41 _ w3
            unfold hdS
            rw [if_neg (fun y => by rw [y.2, c41] at hm; exact absurd hm (by decide))]
          · rw [if_neg c41]
            refine p_quoteOf hS (by omega) ti_1006 (by decide) hj5 (fun v44 τ43 h43 hv44 => ?_)
            rw [hT] at h43 hv44
            generalize ho6 : qof T e [115, 116, 97, 110, 100, 97, 108, 111, 110, 101] o5 = o6 at *
            refine p_skip hS (by omega) ti_1007 (by decide) h43 (fun v46 τ45 h45 h46 hv46 => ⟨h46, ?_⟩)
            rw [hT] at h45 hv46
            have hS6 : JS L (pf σ 3 15 v46) e := hS.f315
            have h45' := h45.f315 (v := v46)
            have hT6 : (pf σ 3 15 v46).2 101 = T := hT
            refine WJ_of (fun _ ρ3 => jp e 6 (pf σ 3 15 v46) (if v46 = 0 then wd T e [110, 111] (skp T e [121, 101, 115] o6) else skp T e [121, 101, 115] o6) ρ3) (fun J47 hJ47 => ?_) ?_
            · by_cases c46 : v46 = 0
              · rw [if_pos c46]
                refine p_need hS6 (by omega) ti_1008 (by decide) h45' (fun τ' h' => hJ47 _ _ ?_)
                rw [hT6] at h'
                rw [if_pos c46]
                exact h'
              · rw [if_neg c46]
                refine hJ47 _ _ ?_
                rw [if_neg c46]
                exact h45'
            · rintro _ ρ3 h50
              refine p_quote hS6 (by omega) (fun i hi => ?_) h50 (fun τ51 h51 => p_skipSpace hS6 (by omega) h51 (fun v54 τ53 h53 _ _ => ?_))
              · cases hoo : o6 with
                | none =>
                  rw [hoo] at hi
                  split at hi <;> cases hi
                | some i0 => exact isQt_ne (hv44 i0 hoo).2.1
              · rw [hT6] at h53
                rcases hgd with ⟨v, en, j, w1, w2, w3, w4, w7, w8⟩ | ⟨w1, w2, w3⟩
                · have hm := hv41 _ w3
                  have hcS : sk isSp T e j ≠ j ∧ mt T e (sk isSp T e j) [115, 116, 97, 110, 100, 97, 108, 111, 110, 101] = true := by
                    refine ⟨fun y => by rw [if_pos y] at w4; exact ca w4, ?_⟩
                    cases hmm : mt T e (sk isSp T e j) [115, 116, 97, 110, 100, 97, 108, 111, 110, 101] with
                    | true => rfl
                    | false => rw [hmm] at hm; exact absurd hm c41
                  have hS1 : hdS T e j = hdS1 T e o6 := by
                    unfold hdS
                    rw [if_pos hcS, ← ho6, w3]
                  have hbd : a2 = -1 ∨ ∃ i n : Nat, a2 = (i : Int) ∧ a3 = (n : Int) ∧ i + n ≤ e + 5 := by
                    cases hen : en with
                    | none => exact Or.inl (w7 hen)
                    | some q =>
                      obtain ⟨i, n⟩ := q
                      have := w8 i n hen
                      exact Or.inr ⟨i, n, this.1, this.2.1, by omega⟩
                  cases hoo : o6 with
                  | none =>
                    rw [hoo] at h53 hS1
                    have h53' : jp e 7 (pf σ 3 15 v46) none τ53 := by
                      split at h53 <;> exact h53
                    exact hbad v46 _ 7 (by omega) (hkS v en j w1 w2 hS1) hbd h53'
                  | some i =>
                    have hq44 := hv44 i hoo
                    have e46 := hv46 i hoo
                    rw [hoo] at h53 hS1
                    rw [hq44.1] at h53
                    unfold hdS1 at hS1
                    dsimp only at hS1
                    by_cases cy : mt T e i [121, 101, 115] = true
                    · rw [if_pos cy] at hS1
                      have ev : v46 = ((1 : Nat) : Int) := by rw [e46, cy]; rfl
                      have hsk : skp T e [121, 101, 115] (some i) = some (i + 3) := by
                        show (if mt T e i [121, 101, 115] = true then some (i + 3) else some i) = _
                        rw [if_pos cy]
                      rw [if_neg (by rw [ev]; decide), hsk, ev] at h53
                      cases hqc : qcl T e (T (i - 1)) (some (i + 3)) with
                      | none =>
                        rw [hqc] at h53 hS1
                        exact hbad _ _ 7 (by omega) (hkS v en j w1 w2 hS1) hbd h53
                      | some z =>
                        rw [hqc] at h53 hS1
                        exact hJ19 _ _ (Or.inl ⟨v, en, j, 1, z, w1, w2, hS1, (show jp e 7 (pf σ 3 15 ((1 : Nat) : Int)) (some (sk isSp T e z)) τ53 from h53).mono (by omega), w7, w8⟩)
                    · rw [if_neg cy] at hS1
                      have cy' : mt T e i [121, 101, 115] = false := by simpa using cy
                      have ev : v46 = ((0 : Nat) : Int) := by rw [e46, cy']; rfl
                      have hsk : skp T e [121, 101, 115] (some i) = some i := by
                        show (if mt T e i [121, 101, 115] = true then some (i + 3) else some i) = _
                        rw [if_neg cy]
                      rw [if_pos (show v46 = 0 from ev), hsk, ev] at h53
                      cases hqc : qcl T e (T (i - 1)) (wd T e [110, 111] (some i)) with
                      | none =>
                        rw [hqc] at h53 hS1
                        exact hbad _ _ 7 (by omega) (hkS v en j w1 w2 hS1) hbd h53
                      | some z =>
                        rw [hqc] at h53 hS1
                        exact hJ19 _ _ (Or.inl ⟨v, en, j, 0, z, w1, w2, hS1, (show jp e 7 (pf σ 3 15 ((0 : Nat) : Int)) (some (sk isSp T e z)) τ53 from h53).mono (by omega), w7, w8⟩)
                · rw [w1] at ho6
                  have e6 : o6 = none := by rw [← ho6]; rfl
                  rw [e6] at h53
                  have h53' : jp e 7 (pf σ 3 15 v46) none τ53 := by
                    split at h53 <;> exact h53
                  exact hbad v46 _ 7 (by omega) w2 w3 h53'
      · rintro _ ρ2 hP3
        have hsl : ∀ (x : Int) (σ23 : IS) (o9 : Option Nat), jp e 8 (pf σ 3 15 x) o9 σ23 → σ23.2 101 = T ∧ σ23.1 1 5 = σ.1 1 5 := fun x σ23 o9 hj => by
          refine ⟨by rw [hj.row]; exact hT, ?_⟩
          rw [hj.keep (by omega) (by omega), pf_no (by decide)]
        have hchr : ∀ σ23 : IS, σ23.2 101 = T → ∀ i, i < L 101 → -1 ≤ σ23.2 101 i ∧ σ23.2 101 i ≤ 2000000 := fun σ23 h1 i hi => by
          have := hch i hi
          rw [hT] at this
          rw [h1]
          omega
        have hti : ∀ σ23 : IS, σ23.1 1 5 = σ.1 1 5 → ti (if (σ23.1 1 5) = 0 then 1011 else 1010) = if wide = true then [117, 116, 102, 45, 49, 54] else [117, 116, 102, 45, 56] := fun σ23 h1 => by
          rw [h1]
          cases wide with
          | true =>
            rw [if_neg (fun y => by have := h15.mp y; cases this), if_pos rfl]
            exact ti_1010
          | false =>
            rw [if_pos (h15.mpr rfl), if_neg (by decide)]
            exact ti_1011
        -- with a fault
        have hbc : ∀ (x : Int) (σ23 : IS), hdk T e p = none → (a2 = -1 ∨ ∃ i n : Nat, a2 = (i : Int) ∧ a3 = (n : Int) ∧ i + n ≤ e + 5) → jp e 8 (pf σ 3 15 x) none σ23 → (if a2 = -1 then Q σ23 else w_Reader_isWrittenAs L a2 a3 (if (σ23.1 1 5) = 0 then 1011 else 1010) (fun v31 σ30 => if v31 = 0 then w_Reader_fail L 2 (fun σ33 => Q σ33) σ30 else Q σ30) σ23) := by
          intro x σ23 hn hbd hj
          have hQ := hb hn x σ23 (hj.mono (by omega))
          by_cases c2 : a2 = -1
          · rw [if_pos c2]; exact hQ
          · rw [if_neg c2]
            obtain ⟨i, n, y1, y2, y3⟩ := hbd.resolve_left c2
            obtain ⟨z1, z2⟩ := hsl x σ23 none hj
            refine sp_Reader_isWrittenAs h9 (hchr σ23 z1) i n y1 y2 (by omega) (hti σ23 z2) (fun _ => ?_) (fun _ => ?_)
            · rw [if_neg (by decide)]; exact hQ
            · rw [if_pos rfl]
              refine sp_Reader_fail ?_
              rw [flt_bad (jp.f5 hj)]
              exact hQ
        rcases hP3 with ⟨v, en, j, st, z, w1, w2, w3, w4, w7, w8⟩ | ⟨w1, ⟨x, w2⟩, w3⟩
        · have hS8 : JS L (pf σ 3 15 (st : Int)) e := hS.f315
          have hT8 : (pf σ 3 15 (st : Int)).2 101 = T := hT
          refine p_need hS8 (by omega) ti_1009 (by decide) w4 (fun σ23 h23 => WJ_dir ?_)
          dsimp only
          rw [hT8] at h23
          have hbd : a2 = -1 ∨ ∃ i n : Nat, a2 = (i : Int) ∧ a3 = (n : Int) ∧ i + n ≤ e + 5 := by
            cases hen : en with
            | none => exact Or.inl (w7 hen)
            | some q =>
              obtain ⟨i, n⟩ := q
              have := w8 i n hen
              exact Or.inr ⟨i, n, this.1, this.2.1, by omega⟩
          have hkk : hdk T e p = match wd T e [63, 62] (some (sk isSp T e z)) with
            | none => none
            | some k => some (st, en, k) := by
            unfold hdk
            rw [w1]
            dsimp only
            rw [w2]
            dsimp only
            rw [w3]
          cases hw : wd T e [63, 62] (some (sk isSp T e z)) with
          | none =>
            rw [hw] at h23 hkk
            exact hbc _ σ23 hkk hbd h23
          | some k =>
            rw [hw] at h23 hkk
            dsimp only at hkk
            obtain ⟨q1, q2⟩ := hq st en k σ23 hkk (h23.mono (by omega))
            by_cases c2 : a2 = -1
            · rw [if_pos c2]
              refine q1 ?_
              cases hen : en with
              | none => trivial
              | some q =>
                obtain ⟨i, n⟩ := q
                have := w8 i n hen
                omega
            · rw [if_neg c2]
              cases hen : en with
              | none => exact absurd (w7 hen) c2
              | some q =>
                obtain ⟨i, n⟩ := q
                have y := w8 i n hen
                obtain ⟨z1, z2⟩ := hsl _ σ23 _ h23
                rw [hen] at q1 q2
                refine sp_Reader_isWrittenAs h9 (hchr σ23 z1) i n y.1 y.2.1 (by omega) (hti σ23 z2) (fun hy => ?_) (fun hy => ?_)
                · rw [if_neg (by decide)]
                  rw [z1] at hy
                  exact q1 hy
                · rw [if_pos rfl]
                  rw [z1] at hy
                  exact sp_Reader_fail (q2 hy)
        · have hS8 : JS L (pf σ 3 15 x) e := hS.f315
          refine p_need hS8 (by omega) ti_1009 (by decide) w2 (fun σ23 h23 => WJ_dir ?_)
          dsimp only
          exact hbc x σ23 w1 w3 h23
end JHd2
