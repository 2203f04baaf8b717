/-! ===== the class: notations, entities, the declaration's begin and end, ends of elements: how they are written ===== -/
def ntk (T : Nat → Int) (e p : Nat) : Option Nat := wd T e [62] (asp T e (outJ T e true (spc T e (nmg T e true (spc T e (some (p + 10)))))))
/-- whether it is a parameter entity, where the name begins -/
def enP (T : Nat → Int) (e p : Nat) : Bool := match spc T e (some (p + 8)) with
  | none => false
  | some s => mt T e s [37]
def enF (T : Nat → Int) (e p : Nat) : Option Nat := match spc T e (some (p + 8)) with
  | none => none
  | some s => if mt T e s [37] = true then spc T e (some (s + 1)) else some s
def enT (T : Nat → Int) (e p : Nat) : Option Nat := spc T e (nmg T e true (enF T e p))
def enB (T : Nat → Int) (e p : Nat) : Option Nat := match enT T e p with
  | none => none
  | some t => if isQt (lk T e t) = true then etx T e (some t) else match outs T e (some t) with
    | none => none
    | some w => if enP T e p = false ∧ sk isSp T e w ≠ w ∧ mt T e (sk isSp T e w) [78, 68, 65, 84, 65] = true then nmg T e true (spc T e (some (sk isSp T e w + 5))) else some w
def enk (T : Nat → Int) (e p : Nat) : Option Nat := wd T e [62] (asp T e (enB T e p))
/-- behind [ or > -/
def dtb (T : Nat → Int) (e k : Nat) : Option Nat := if mt T e k [91] = true then some (k + 1) else wd T e [62] (some k)
def dtO (T : Nat → Int) (e n : Nat) : Bool := !(sk isSp T e n == n) && (mt T e (sk isSp T e n) [83, 89, 83, 84, 69, 77] || mt T e (sk isSp T e n) [80, 85, 66, 76, 73, 67])
def dtE (T : Nat → Int) (e n : Nat) : Option Nat := if dtO T e n = true then (outs T e (some (sk isSp T e n))).map (sk isSp T e) else some (sk isSp T e n)
def dtn (T : Nat → Int) (e p : Nat) : Option Nat := nmg T e true (spc T e (some (p + 9)))
def dtk (T : Nat → Int) (e p : Nat) : Option Nat := ((dtn T e p).bind (dtE T e)).bind (dtb T e)
def etk (T : Nat → Int) (e p : Nat) : Option Nat := wd T e [62] (asp T e (nmg T e true (some (p + 2))))
section JNt
variable {L : Nat → Nat} {σ τ : IS} {e : Nat}
set_option maxRecDepth 10000 in
theorem j_readNotation {Q : IS → Prop} (hS : JS L σ e) (hch : jch L σ) {p : Nat} (hm : mt (σ.2 101) e p [60, 33, 78, 79, 84, 65, 84, 73, 79, 78] = true) (h : jp e 0 σ (some p) τ)
    (hOK : ∀ s n k τ', spc (σ.2 101) e (some (p + 10)) = some s → nmg (σ.2 101) e true (some s) = some n → ntk (σ.2 101) e p = some k → jp e 0 σ (some k) τ' → w_Reader_lookForColon L (s : Int) ((n : Int) - (s : Int)) (fun σ20 => w_Store_intern L (s : Int) ((n : Int) - (s : Int)) (fun v23 σ22 => w_Declared_addNotation L v23 (fun σ24 => Q σ24) σ22) σ20) τ')
    (h5 : ntk (σ.2 101) e p = none → ∀ τ', jp e 0 σ none τ' → Q τ') : w_Doctype_readNotation L Q τ := by
  have he : e < 1000000 := by have := hS.2.1; have := hS.2.2.1; omega
  unfold w_Doctype_readNotation
  refine p_need hS (by omega) ti_1031 (by decide) h (fun τ1 h1 => ?_)
  rw [wd_of hm] at h1
  refine p_needSpace hS (by omega) h1 (fun τ2 h2 => p_readName hS (by omega) h2 (fun v6 τ3 h3 hv6 hr => ?_))
  obtain ⟨r, hr1, hr2⟩ := h3.pos
  obtain ⟨q5, hq51, hq52, hq53⟩ := hr
  have hq5 := hq53 r hr1
  refine ⟨⟨by omega, by omega⟩, ?_⟩
  refine p_needSpace hS (by omega) h3 (fun τ4 h4 => p_readOutside hS (by omega) hch true rfl h4 (fun τ5 g5 => p_skipSpace hS (by omega) g5 (fun v12 τ6 g6 _ _ => p_need hS (by omega) ti_1025 (by decide) g6 (fun τ7 g7 => ?_))))
  have g7' : jp e 0 σ (ntk (σ.2 101) e p) τ7 := g7
  have hfl := g7'.fault hS
  refine WJ_dir ?_
  dsimp only
  cases hk : ntk (σ.2 101) e p with
  | none =>
    rw [hk] at g7' hfl
    rw [if_neg (by rw [hfl, if_pos rfl]; decide)]
    exact h5 hk τ7 g7'
  | some k =>
    rw [hk] at g7' hfl
    rw [if_pos (by rw [hfl, if_neg (by intro y; cases y)])]
    have hk' : wd (σ.2 101) e [62] (asp (σ.2 101) e (outJ (σ.2 101) e true (spc (σ.2 101) e (nmg (σ.2 101) e true (spc (σ.2 101) e (some (p + 10))))))) = some k := hk
    cases hs : spc (σ.2 101) e (some (p + 10)) with
    | none => rw [hs] at hk'; cases hk'
    | some s =>
      rw [hs] at hk'
      cases hn : nmg (σ.2 101) e true (some s) with
      | none => rw [hn] at hk'; cases hk'
      | some n =>
        have ev6 : v6 = (s : Int) := hv6 s hs
        have ev3 : τ3.1 2 2 = (n : Int) := by
          have h3' : jp e 0 σ (nmg (σ.2 101) e true (spc (σ.2 101) e (some (p + 10)))) τ3 := h3
          rw [hs, hn] at h3'
          exact h3'.at.1
        rw [ev6, ev3]
        exact hOK s n k τ7 hs hn hk g7'
theorem j_subsetEnd {Q : IS → Prop} (hS : JS L σ e) {p : Nat} (hm : mt (σ.2 101) e p [93] = true) (h : jp e 0 σ (some p) τ) (hq : ∀ τ', jp e 0 σ (wd (σ.2 101) e [62] (asp (σ.2 101) e (some (p + 1)))) τ' → Q (pf τ' 5 6 0)) : w_Doctype_readEnd L Q τ := by
  unfold w_Doctype_readEnd
  refine p_need hS (by omega) ti_1032 (by decide) h (fun τ1 h1 => ?_)
  rw [wd_of hm] at h1
  exact p_skipSpace hS (by omega) h1 (fun v4 τ2 h2 _ _ => p_need hS (by omega) ti_1025 (by decide) h2 (fun τ3 h3 => hq τ3 h3))
theorem j_paramRef {Q : IS → Prop} (hS : JS L σ e) {p : Nat} (hm : mt (σ.2 101) e p [37] = true) (h : jp e 0 σ (some p) τ)
    (hOK : ∀ n k τ', nmg (σ.2 101) e true (some (p + 1)) = some n → pcp (σ.2 101) e p = some k → jp e 0 σ (some k) τ' → w_Store_find L ((p + 1 : Nat) : Int) ((n : Int) - ((p + 1 : Nat) : Int)) (fun v13 σ12 => w_Entities_enterParameter L v13 (fun σ14 => Q σ14) σ12) τ')
    (h5 : pcp (σ.2 101) e p = none → ∀ τ', jp e 0 σ none τ' → Q τ') : w_Doctype_readParameterReference L Q τ := by
  have he : e < 1000000 := by have := hS.2.1; have := hS.2.2.1; omega
  unfold w_Doctype_readParameterReference
  refine p_need hS (by omega) ti_1033 (by decide) h (fun τ1 h1 => ?_)
  rw [wd_of hm] at h1
  refine p_readName hS (by omega) h1 (fun v4 τ3 h3 hv4 hr => ?_)
  obtain ⟨r, hr1, hr2⟩ := h3.pos
  obtain ⟨q5, hq51, hq52, hq53⟩ := hr
  have hq5 := hq53 r hr1
  refine ⟨⟨by omega, by omega⟩, ?_⟩
  refine p_need hS (by omega) ti_1034 (by decide) h3 (fun τ7 g7 => ?_)
  have g7' : jp e 0 σ (pcp (σ.2 101) e p) τ7 := g7
  have hfl := g7'.fault hS
  refine WJ_dir ?_
  dsimp only
  cases hk : pcp (σ.2 101) e p with
  | none =>
    rw [hk] at g7' hfl
    rw [if_neg (by rw [hfl, if_pos rfl]; decide)]
    exact h5 hk τ7 g7'
  | some k =>
    rw [hk] at g7' hfl
    rw [if_pos (by rw [hfl, if_neg (by intro y; cases y)])]
    have hk' : wd (σ.2 101) e [59] (nmg (σ.2 101) e true (some (p + 1))) = some k := hk
    cases hn : nmg (σ.2 101) e true (some (p + 1)) with
    | none => rw [hn] at hk'; cases hk'
    | some n =>
      have ev6 : v4 = ((p + 1 : Nat) : Int) := hv4 (p + 1) rfl
      have ev3 : τ3.1 2 2 = (n : Int) := by
        have h3' : jp e 0 σ (nmg (σ.2 101) e true (some (p + 1))) τ3 := h3
        rw [hn] at h3'
        exact h3'.at.1
      rw [ev6, ev3]
      exact hOK n k τ7 hn hk g7'
set_option maxRecDepth 10000 in
theorem j_readBegin {Q : IS → Prop} (hS : JS L σ e) (hch : jch L σ) {p : Nat} (hm : mt (σ.2 101) e p [60, 33, 68, 79, 67, 84, 89, 80, 69] = true) (h : jp e 0 σ (some p) τ)
    (hOK : ∀ n s z k τ', spc (σ.2 101) e (some (p + 9)) = some s → dtn (σ.2 101) e p = some n → dtE (σ.2 101) e n = some z → dtk (σ.2 101) e p = some k → jp e 0 σ (some k) τ' → w_Store_intern L (s : Int) ((n : Int) - (s : Int)) (fun v28 σ27 => Q (pf σ27 5 7 v28)) (pf (if dtO (σ.2 101) e n = true then pf (pf τ' 5 6 (b1 (mt (σ.2 101) e z [91]))) 2 4 3 else pf τ' 5 6 (b1 (mt (σ.2 101) e z [91]))) 5 5 1))
    (h5 : dtk (σ.2 101) e p = none → ∀ (a n x : Int) τ', jp e 0 σ none τ' → 0 ≤ a ∧ 0 ≤ n ∧ a + n ≤ (e : Int) → is01 x → w_Store_intern L a n (fun v28 σ27 => Q (pf σ27 5 7 v28)) (pf (pf τ' 5 6 x) 5 5 1)) : w_Doctype_readBegin L Q τ := by
  have he : e < 1000000 := by have := hS.2.1; have := hS.2.2.1; omega
  unfold w_Doctype_readBegin
  refine p_need hS (by omega) ti_1021 (by decide) h (fun τ1 h1 => ?_)
  rw [wd_of hm] at h1
  refine p_needSpace hS (by omega) h1 (fun τ2 h2 => p_readName hS (by omega) h2 (fun v6 τ3 h3 hv6 hr => ?_))
  obtain ⟨r, hr1, hr2⟩ := h3.pos
  obtain ⟨q5, hq51, hq52, hq53⟩ := hr
  have hq5 := hq53 r hr1
  refine ⟨⟨by omega, by omega⟩, ?_⟩
  have hv6r : 0 ≤ v6 ∧ 0 ≤ τ3.1 2 2 - v6 ∧ v6 + (τ3.1 2 2 - v6) ≤ (e : Int) := by omega
  have h3' : jp e 0 σ (dtn (σ.2 101) e p) τ3 := h3
  refine p_skipSpace hS (by omega) h3' (fun v8 τ4 h4 b8 hv8 => ?_)
  -- whether something is outside
  refine WJ_of (fun s11 ρ => τ4 = ρ ∧ (s11 = 0 ∨ s11 = 1) ∧ ∀ n, dtn (σ.2 101) e p = some n → s11 = b1 (dtO (σ.2 101) e n)) (fun J hJ => ?_) ?_
  · refine WJ_of (fun _ ρ => τ4 = ρ ∧ ∀ n, dtn (σ.2 101) e p = some n → dtO (σ.2 101) e n = false) (fun J2 hJ2 => ?_) (fun _ ρ hP => hJ _ _ ⟨hP.1, Or.inl rfl, fun n hn => by rw [hP.2 n hn]; rfl⟩)
    by_cases c : v8 = 0
    · rw [if_pos c]
      refine hJ2 _ _ ⟨rfl, fun n hn => ?_⟩
      have := hv8 n hn
      have e1 : sk isSp (σ.2 101) e n = n := by
        by_cases w : sk isSp (σ.2 101) e n = n
        · exact w
        · rw [if_neg w] at this; omega
      unfold dtO
      rw [e1]
      simp
    · rw [if_neg c]
      have hne : ∀ n, dtn (σ.2 101) e p = some n → (sk isSp (σ.2 101) e n == n) = false := by
        intro n hn
        have := hv8 n hn
        by_cases w : sk isSp (σ.2 101) e n = n
        · rw [if_pos w] at this; exact absurd this c
        · simpa using w
      refine p_at hS (by omega) ti_1022 (by decide) h4 (fun v47 b47 hv47 => ?_)
      refine WJ_of (fun _ ρ => τ4 = ρ ∧ ∀ n, dtn (σ.2 101) e p = some n → dtO (σ.2 101) e n = true) (fun J3 hJ3 => ?_) (fun _ ρ hP => hJ _ _ ⟨hP.1, Or.inr rfl, fun n hn => by rw [hP.2 n hn]; rfl⟩)
      by_cases c2 : v47 = 0
      · rw [if_pos c2]
        refine p_at hS (by omega) ti_1023 (by decide) h4 (fun v54 b54 hv54 => ?_)
        by_cases c3 : v54 = 0
        · rw [if_pos c3]
          refine hJ2 _ _ ⟨rfl, fun n hn => ?_⟩
          have e1 := hv47 _ (by rw [hn]; rfl)
          have e2 := hv54 _ (by rw [hn]; rfl)
          rw [c2] at e1
          rw [c3] at e2
          have f1 : mt (σ.2 101) e (sk isSp (σ.2 101) e n) [83, 89, 83, 84, 69, 77] = false := by
            cases hb : mt (σ.2 101) e (sk isSp (σ.2 101) e n) [83, 89, 83, 84, 69, 77] with
            | false => rfl
            | true => rw [hb] at e1; exact absurd e1 (by decide)
          have f2 : mt (σ.2 101) e (sk isSp (σ.2 101) e n) [80, 85, 66, 76, 73, 67] = false := by
            cases hb : mt (σ.2 101) e (sk isSp (σ.2 101) e n) [80, 85, 66, 76, 73, 67] with
            | false => rfl
            | true => rw [hb] at e2; exact absurd e2 (by decide)
          unfold dtO
          rw [f1, f2]
          simp
        · rw [if_neg c3]
          refine hJ3 _ _ ⟨rfl, fun n hn => ?_⟩
          have e2 := hv54 _ (by rw [hn]; rfl)
          have f2 : mt (σ.2 101) e (sk isSp (σ.2 101) e n) [80, 85, 66, 76, 73, 67] = true := by
            cases hb : mt (σ.2 101) e (sk isSp (σ.2 101) e n) [80, 85, 66, 76, 73, 67] with
            | true => rfl
            | false => rw [hb] at e2; exact absurd e2 c3
          unfold dtO
          rw [f2, hne n hn]
          simp
      · rw [if_neg c2]
        refine hJ3 _ _ ⟨rfl, fun n hn => ?_⟩
        have e2 := hv47 _ (by rw [hn]; rfl)
        have f2 : mt (σ.2 101) e (sk isSp (σ.2 101) e n) [83, 89, 83, 84, 69, 77] = true := by
          cases hb : mt (σ.2 101) e (sk isSp (σ.2 101) e n) [83, 89, 83, 84, 69, 77] with
          | true => rfl
          | false => rw [hb] at e2; exact absurd e2 c2
        unfold dtO
        rw [f2, hne n hn]
        simp
  · rintro s11 _ ⟨rfl, b11, hs11⟩
    refine WJ_of (fun _ ρ => jp e 0 σ ((dtn (σ.2 101) e p).bind (dtE (σ.2 101) e)) ρ) (fun J hJ => ?_) ?_
    · by_cases c : s11 = 0
      · rw [if_pos c]
        refine hJ _ _ ?_
        cases hn : dtn (σ.2 101) e p with
        | none => rw [hn] at h4; exact h4
        | some n =>
          rw [hn] at h4
          have hb := hs11 n hn
          have hO : dtO (σ.2 101) e n = false := by
            cases hb2 : dtO (σ.2 101) e n with
            | false => rfl
            | true => rw [hb2] at hb; rw [c] at hb; exact absurd hb (by decide)
          show jp e 0 σ (dtE (σ.2 101) e n) τ4
          unfold dtE
          rw [if_neg (by rw [hO]; decide)]
          exact h4
      · rw [if_neg c]
        refine p_readOutside hS (by omega) hch false rfl h4 (fun τ5 g5 => p_skipSpace hS (by omega) g5 (fun v40 τ6 g6 _ _ => hJ _ _ ?_))
        cases hn : dtn (σ.2 101) e p with
        | none => rw [hn] at g6; exact g6
        | some n =>
          rw [hn] at g6
          have hb := hs11 n hn
          have hO : dtO (σ.2 101) e n = true := by
            cases hb2 : dtO (σ.2 101) e n with
            | true => rfl
            | false => rw [hb2] at hb; exact absurd hb c
          show jp e 0 σ (dtE (σ.2 101) e n) τ6
          unfold dtE
          rw [if_pos hO]
          have g6' : jp e 0 σ (asp (σ.2 101) e (outJ (σ.2 101) e false (some (sk isSp (σ.2 101) e n)))) τ6 := g6
          rw [outJ_outs] at g6'
          exact g6'
    · rintro _ ρ hρ
      refine p_skip hS (by omega) ti_1024 (by decide) hρ (fun v18 ρ1 h1' b18 hv18 => ⟨b18, ?_⟩)
      have hdt : dtk (σ.2 101) e p = ((dtn (σ.2 101) e p).bind (dtE (σ.2 101) e)).bind (dtb (σ.2 101) e) := rfl
      refine WJ_of (fun _ ρ2 => ∃ ρ3, ρ2 = pf ρ3 5 6 v18 ∧ jp e 0 σ (dtk (σ.2 101) e p) ρ3) (fun J hJ => ?_) ?_
      · cases hz : (dtn (σ.2 101) e p).bind (dtE (σ.2 101) e) with
        | none =>
          rw [hz] at hdt h1'
          have h1'' : jp e 0 σ none ρ1 := h1'
          have hdt' : dtk (σ.2 101) e p = none := hdt
          by_cases c : v18 = 0
          · rw [if_pos c]
            have hb : jp e 0 (pf σ 5 6 v18) none (pf ρ1 5 6 v18) := h1''.pf2 (by decide)
            have hS5 : JS L (pf σ 5 6 v18) e := ⟨(pf_no (by decide)).trans hS.1, hS.2.1, hS.2.2.1, (pf_no (by decide)).trans hS.2.2.2.1, fun j a b => by rw [pf_no (by decide)]; exact hS.2.2.2.2 j a b⟩
            refine p_need hS5 (by omega) ti_1025 (by decide) hb (fun ρ2 h2 => hJ _ _ ⟨pf ρ2 5 6 (σ.1 5 6), ?_, ?_⟩)
            · rw [pf_pf]
              have h2' : jp e 0 (pf σ 5 6 v18) none ρ2 := h2
              exact (pf_self (by rw [h2'.keep (by omega) (by omega), pf_eq])).symm
            · rw [hdt']
              have h2' : jp e 0 (pf σ 5 6 v18) none ρ2 := h2
              have h3'' := h2'.pf2 (p := 5) (j := 6) (x := σ.1 5 6) (by decide)
              rw [pf_pf, pf_self (σ := σ) rfl] at h3''
              exact h3''
          · rw [if_neg c]
            exact hJ _ _ ⟨ρ1, rfl, by rw [hdt']; exact h1''⟩
        | some z =>
          rw [hz] at hdt h1' hv18
          have e18 := hv18 z rfl
          have h1'' : jp e 0 σ (if mt (σ.2 101) e z [91] = true then some (z + 1) else some z) ρ1 := h1'
          have hdt' : dtk (σ.2 101) e p = if mt (σ.2 101) e z [91] = true then some (z + 1) else wd (σ.2 101) e [62] (some z) := hdt
          by_cases c2 : mt (σ.2 101) e z [91] = true
          · rw [if_pos c2] at h1'' hdt'
            rw [c2] at e18
            have e1 : v18 = 1 := e18
            rw [if_neg (by omega)]
            exact hJ _ _ ⟨ρ1, rfl, by rw [hdt']; exact h1''⟩
          · rw [if_neg c2] at h1'' hdt'
            have e1 : v18 = 0 := by rw [e18]; unfold b1; rw [if_neg c2]
            rw [if_pos e1]
            have hb : jp e 0 (pf σ 5 6 v18) (some z) (pf ρ1 5 6 v18) := h1''.pf2 (by decide)
            have hS5 : JS L (pf σ 5 6 v18) e := ⟨(pf_no (by decide)).trans hS.1, hS.2.1, hS.2.2.1, (pf_no (by decide)).trans hS.2.2.2.1, fun j a b => by rw [pf_no (by decide)]; exact hS.2.2.2.2 j a b⟩
            refine p_need hS5 (by omega) ti_1025 (by decide) hb (fun ρ2 h2 => hJ _ _ ⟨pf ρ2 5 6 (σ.1 5 6), ?_, ?_⟩)
            · rw [pf_pf]
              exact (pf_self (by rw [h2.keep (by omega) (by omega), pf_eq])).symm
            · rw [hdt']
              have h3'' := h2.pf2 (p := 5) (j := 6) (x := σ.1 5 6) (by decide)
              rw [pf_pf, pf_self (σ := σ) rfl] at h3''
              exact h3''
      · rintro _ _ ⟨ρ3, rfl, hρ3⟩
        have hfl := hρ3.fault hS
        cases hk : dtk (σ.2 101) e p with
        | none =>
          rw [hk] at hρ3 hfl
          have hf5 : (pf ρ3 5 6 v18).1 2 4 = 5 := by rw [pf_no (by decide), hfl, if_pos rfl]
          refine WJ_of (fun _ ρ4 => pf ρ3 5 6 v18 = ρ4) (fun J hJ => ?_) ?_
          · split
            · exact hJ _ _ rfl
            · refine sp_Reader_fail ?_
              rw [flt_bad hf5]
              exact hJ _ _ rfl
          · rintro _ _ rfl
            exact h5 hk _ _ v18 ρ3 hρ3 hv6r b18
        | some k =>
          rw [hk] at hρ3 hfl
          have hf0 : (pf ρ3 5 6 v18).1 2 4 = 0 := by rw [pf_no (by decide), hfl, if_neg (by intro y; cases y)]
          have hdt2 := hdt
          rw [hk] at hdt2
          cases hn : dtn (σ.2 101) e p with
          | none => rw [hn] at hdt2; cases hdt2
          | some n =>
            rw [hn, Option.bind_some] at hdt2
            cases hz : dtE (σ.2 101) e n with
            | none => rw [hz] at hdt2; cases hdt2
            | some z =>
              have hzz : (dtn (σ.2 101) e p).bind (dtE (σ.2 101) e) = some z := by rw [hn, Option.bind_some, hz]
              have e18 := hv18 z hzz
              have es := hs11 n hn
              have hdn : nmg (σ.2 101) e true (spc (σ.2 101) e (some (p + 9))) = some n := hn
              cases hs : spc (σ.2 101) e (some (p + 9)) with
              | none => rw [hs] at hdn; cases hdn
              | some s =>
                have ev6 : v6 = (s : Int) := hv6 s hs
                have ev3 : τ3.1 2 2 = (n : Int) := by
                  rw [hn] at h3'
                  exact h3'.at.1
                have hfin := hOK n s z k ρ3 hs hn hz hk hρ3
                rw [← e18] at hfin
                rw [ev6, ev3]
                refine WJ_of (fun _ ρ4 => (if dtO (σ.2 101) e n = true then pf (pf ρ3 5 6 v18) 2 4 3 else pf ρ3 5 6 v18) = ρ4) (fun J hJ => ?_) ?_
                · cases hO : dtO (σ.2 101) e n with
                  | false =>
                    rw [hO] at es hJ
                    have e0 : s11 = 0 := es
                    rw [if_pos e0]
                    exact hJ _ _ rfl
                  | true =>
                    rw [hO] at es hJ
                    have e0 : s11 = 1 := es
                    rw [if_neg (by omega)]
                    refine sp_Reader_fail ?_
                    have : flt (pf ρ3 5 6 v18) 3 = pf (pf ρ3 5 6 v18) 2 4 3 := by unfold flt; rw [if_pos hf0]
                    rw [this]
                    exact hJ _ _ rfl
                · rintro _ _ rfl
                  exact hfin
end JNt
