/-! ===== the class: entity declarations, ends of elements, how they are written ===== -/
section JEn
variable {L : Nat → Nat} {σ τ : IS} {e k : Nat} {o : Option Nat}
theorem jp.of {p : Nat} {o' : Option Nat} {τ' : IS} (h : jp e k σ (some p) τ) (h' : jst e k τ o' τ') : jp e k σ o' τ' := by
  obtain ⟨x, h⟩ := h
  exact ⟨x, h.of h'⟩
theorem jp.stt {p : Nat} (h : jp e k σ (some p) τ) : jst e k τ (some p) τ := by
  obtain ⟨x, h⟩ := h
  exact h.stt
theorem p_checkEntityText {Q : IS → Prop} (hS : JS L σ e) (hk : k ≤ 50) (hch : jch L σ) (h : jp e k σ o τ)
    (h1 : ∀ p j τ', o = some p → etx (σ.2 101) e (some p) = some j → jp e k σ (some j) τ' → τ'.1 2 10 = (p : Int) + 1 → τ'.1 2 11 = (j : Int) - 1 - ((p : Int) + 1) → Q τ') (h0 : etx (σ.2 101) e o = none → ∀ τ', jp e k σ none τ' → Q τ') : w_Reader_checkEntityText L Q τ := by
  cases o with
  | some p =>
    have hS' := h.js hS
    have hr := h.row
    refine j_checkEntityText hS' hk (h.chh hch) h.stt (fun p' j τ' hp hv hf h2 h10 h11 => ?_) (fun hv τ' h' => ?_)
    · cases hp
      rw [hr] at hv
      refine h1 p j τ' rfl hv ?_ h10 h11
      obtain ⟨x, h⟩ := h
      exact ⟨x, h.fr hf (etx_le (e := e) j hv) h2⟩
    · rw [hr] at hv
      exact h0 hv τ' (h.of h')
  | none =>
    obtain ⟨x, h⟩ := h
    exact j_checkEntityText hS.so hk hch (o := none) h (fun p' j τ' hp _ _ _ _ _ => by cases hp) (fun _ τ' h' => h0 rfl τ' ⟨x, h'⟩)
set_option maxRecDepth 10000 in
set_option maxHeartbeats 1000000 in
theorem j_readEntity {Q : IS → Prop} (hS : JS L σ e) (hch : jch L σ) {p : Nat} (hm : mt (σ.2 101) e p [60, 33, 69, 78, 84, 73, 84, 89] = true) (h : jp e 0 σ (some p) τ)
    (hOK : ∀ f n t m kk τ', enF (σ.2 101) e p = some f → nmg (σ.2 101) e true (some f) = some n → enT (σ.2 101) e p = some t → isQt (lk (σ.2 101) e t) = true → etx (σ.2 101) e (some t) = some m → enk (σ.2 101) e p = some kk → jp e 0 σ (some kk) τ' → τ'.1 2 10 = (t : Int) + 1 → τ'.1 2 11 = (m : Int) - 1 - ((t : Int) + 1) → w_Reader_lookForColon L (f : Int) ((n : Int) - (f : Int)) (fun σ34 => w_Store_intern L (f : Int) ((n : Int) - (f : Int)) (fun v37 σ36 => w_Entities_declare L v37 (b1 (enP (σ.2 101) e p)) (σ36.1 2 10) (σ36.1 2 11) (fun σ38 => Q σ38) σ36) σ34) τ')
    (h3 : ∀ t kk τ', enT (σ.2 101) e p = some t → isQt (lk (σ.2 101) e t) = false → enk (σ.2 101) e p = some kk → jp e 0 σ (some kk) τ' → Q (pf τ' 2 4 3))
    (h5 : enk (σ.2 101) e p = none → ∀ τ', jp e 0 σ none τ' → Q τ') : w_Doctype_readEntity L Q τ := by
  have he : e < 1000000 := by have := hS.2.1; have := hS.2.2.1; omega
  unfold w_Doctype_readEntity
  refine p_need hS (by omega) ti_1030 (by decide) h (fun τ1 h1 => ?_)
  rw [wd_of hm] at h1
  refine p_needSpace hS (by omega) h1 (fun τ2 h2 => p_skip hS (by omega) ti_1033 (by decide) h2 (fun v6 τ3 g3 b6 hv6 => ?_))
  have hF : enF (σ.2 101) e p = match spc (σ.2 101) e (some (p + 8)) with
    | none => none
    | some s => if mt (σ.2 101) e s [37] = true then spc (σ.2 101) e (some (s + 1)) else some s := rfl
  have hP : enP (σ.2 101) e p = match spc (σ.2 101) e (some (p + 8)) with
    | none => false
    | some s => mt (σ.2 101) e s [37] := rfl
  refine WJ_of (fun _ ρ => jp e 0 σ (enF (σ.2 101) e p) ρ ∧ (enF (σ.2 101) e p ≠ none → v6 = b1 (enP (σ.2 101) e p))) (fun J hJ => ?_) ?_
  · cases hs : spc (σ.2 101) e (some (p + 8)) with
    | none =>
      have g3' : jp e 0 σ none τ3 := by
        have g3'' : jp e 0 σ (skp (σ.2 101) e [37] (spc (σ.2 101) e (some (p + 8)))) τ3 := g3
        rw [hs] at g3''
        exact g3''
      rw [hs] at hF
      dsimp only at hF
      split
      · exact hJ _ _ ⟨by rw [hF]; exact g3', fun z => absurd hF z⟩
      · exact p_needSpace hS (by omega) g3' (fun ρ h' => hJ _ _ ⟨by rw [hF]; exact h', fun z => absurd hF z⟩)
    | some s =>
      have g3' : jp e 0 σ (if mt (σ.2 101) e s [37] = true then some (s + 1) else some s) τ3 := by
        have g3'' : jp e 0 σ (skp (σ.2 101) e [37] (spc (σ.2 101) e (some (p + 8)))) τ3 := g3
        rw [hs] at g3''
        exact g3''
      have e6 := hv6 s hs
      rw [hs] at hF hP
      dsimp only at hF hP
      rw [← hP] at e6
      by_cases c : mt (σ.2 101) e s [37] = true
      · rw [if_pos c] at g3' hF
        rw [hP, c] at e6
        have e1 : v6 = 1 := e6
        rw [if_neg (by omega)]
        exact p_needSpace hS (by omega) g3' (fun ρ h' => hJ _ _ ⟨by rw [hF]; exact h', fun _ => by rw [hP, c]; exact e1⟩)
      · rw [if_neg c] at g3' hF
        have e1 : v6 = 0 := by rw [e6, hP]; unfold b1; rw [if_neg c]
        rw [if_pos e1]
        exact hJ _ _ ⟨by rw [hF]; exact g3', fun _ => e6⟩
  · rintro _ ρ ⟨hρ, hv6'⟩
    refine p_readName hS (by omega) hρ (fun v12 ρ1 hρ1 hv12 hr => ?_)
    obtain ⟨r, hr1, hr2⟩ := hρ1.pos
    obtain ⟨q5, hq51, hq52, hq53⟩ := hr
    have hq5 := hq53 r hr1
    refine ⟨⟨by omega, by omega⟩, ?_⟩
    refine p_needSpace hS (by omega) hρ1 (fun ρ2 hρ2 => ?_)
    have hT : jp e 0 σ (enT (σ.2 101) e p) ρ2 := hρ2
    have hB : enB (σ.2 101) e p = match enT (σ.2 101) e p with
      | none => none
      | some t => if isQt (lk (σ.2 101) e t) = true then etx (σ.2 101) e (some t) else match outs (σ.2 101) e (some t) with
        | none => none
        | some w => if enP (σ.2 101) e p = false ∧ sk isSp (σ.2 101) e w ≠ w ∧ mt (σ.2 101) e (sk isSp (σ.2 101) e w) [78, 68, 65, 84, 65] = true then nmg (σ.2 101) e true (spc (σ.2 101) e (some (sk isSp (σ.2 101) e w + 5))) else some w := rfl
    have hK : enk (σ.2 101) e p = wd (σ.2 101) e [62] (asp (σ.2 101) e (enB (σ.2 101) e p)) := rfl
    refine p_atQuote hS (by omega) hT (fun v16 b16 hv16 => ?_)
    -- the name
    have hnm : enT (σ.2 101) e p ≠ none → ∃ f n, enF (σ.2 101) e p = some f ∧ nmg (σ.2 101) e true (some f) = some n ∧ v12 = (f : Int) ∧ ρ1.1 2 2 = (n : Int) := by
      intro hne
      have hTd : enT (σ.2 101) e p = spc (σ.2 101) e (nmg (σ.2 101) e true (enF (σ.2 101) e p)) := rfl
      rw [hTd] at hne
      cases hf : enF (σ.2 101) e p with
      | none => rw [hf] at hne; exact absurd rfl hne
      | some f =>
        rw [hf] at hne
        cases hn : nmg (σ.2 101) e true (some f) with
        | none => rw [hn] at hne; exact absurd rfl hne
        | some n =>
          refine ⟨f, n, rfl, hn, hv12 f hf, ?_⟩
          rw [hf, hn] at hρ1
          exact hρ1.at.1
    -- the tail
    have htail : ∀ (z : Option Nat) (ρ3 : IS), jp e 0 σ z ρ3 → enk (σ.2 101) e p = wd (σ.2 101) e [62] (asp (σ.2 101) e z) → (z ≠ none → v16 = 0 ∧ ∃ t, enT (σ.2 101) e p = some t ∧ isQt (lk (σ.2 101) e t) = false) → w_Reader_skipSpace L (fun v22 σ21 => w_Reader_need L 1025 (fun σ23 => WJ (fun (s27 : Unit) (σ28 : IS) => WJ (fun (s31 : Unit) (σ32 : IS) => Q σ32) (fun J29 => if (σ28.1 2 4) = 0 then w_Reader_lookForColon L v12 ((ρ1.1 2 2) - v12) (fun σ34 => w_Store_intern L v12 ((ρ1.1 2 2) - v12) (fun v37 σ36 => w_Entities_declare L v37 v6 (σ36.1 2 10) (σ36.1 2 11) (fun σ38 => J29 () σ38) σ36) σ34) σ28 else J29 () σ28)) (fun J25 => if v16 = 0 then w_Reader_fail L 3 (fun σ41 => J25 () σ41) σ23 else J25 () σ23)) σ21) ρ3 := by
      intro z ρ3 hz hez hz0
      refine p_skipSpace hS (by omega) hz (fun v22 ρ4 g4 _ _ => p_need hS (by omega) ti_1025 (by decide) g4 (fun ρ5 g5 => ?_))
      rw [← hez] at g5
      have hfl := g5.fault hS
      cases hk : enk (σ.2 101) e p with
      | none =>
        rw [hk] at g5 hfl
        have hf5 : ρ5.1 2 4 = 5 := by rw [hfl, if_pos rfl]
        refine WJ_of (fun _ ρ6 => ρ5 = ρ6) (fun J hJ => ?_) ?_
        · split
          · refine sp_Reader_fail ?_
            rw [flt_bad hf5]
            exact hJ _ _ rfl
          · exact hJ _ _ rfl
        · rintro _ _ rfl
          refine WJ_dir ?_
          dsimp only
          rw [if_neg (by rw [hf5]; decide)]
          exact h5 hk ρ5 g5
      | some kk =>
        rw [hk] at g5 hfl
        have hf0 : ρ5.1 2 4 = 0 := by rw [hfl, if_neg (by intro y; cases y)]
        have hzn : z ≠ none := by intro hz2; rw [hk, hz2] at hez; cases hez
        obtain ⟨h16, t, ht, hq⟩ := hz0 hzn
        refine WJ_of (fun _ ρ6 => pf ρ5 2 4 3 = ρ6) (fun J hJ => ?_) ?_
        · rw [if_pos h16]
          refine sp_Reader_fail ?_
          have : flt ρ5 3 = pf ρ5 2 4 3 := by unfold flt; rw [if_pos hf0]
          rw [this]
          exact hJ _ _ rfl
        · rintro _ _ rfl
          refine WJ_dir ?_
          dsimp only
          rw [if_neg (by rw [pf_eq]; decide)]
          exact h3 t kk ρ5 ht hq hk g5
    refine WJ_of (fun _ ρ3 => (∃ t m, enT (σ.2 101) e p = some t ∧ isQt (lk (σ.2 101) e t) = true ∧ etx (σ.2 101) e (some t) = some m ∧ jp e 0 σ (some m) ρ3 ∧ ρ3.1 2 10 = (t : Int) + 1 ∧ ρ3.1 2 11 = (m : Int) - 1 - ((t : Int) + 1) ∧ v16 = 1) ∨ (∃ z, jp e 0 σ z ρ3 ∧ enk (σ.2 101) e p = wd (σ.2 101) e [62] (asp (σ.2 101) e z) ∧ (z ≠ none → v16 = 0 ∧ ∃ t, enT (σ.2 101) e p = some t ∧ isQt (lk (σ.2 101) e t) = false))) (fun J hJ => ?_) ?_
    · have hbad : enB (σ.2 101) e p = none → ∀ ρ3, jp e 0 σ none ρ3 → J () ρ3 := fun hb ρ3 hρ3 => hJ _ _ (Or.inr ⟨none, hρ3, by rw [hK, hb], fun z => absurd rfl z⟩)
      cases ht : enT (σ.2 101) e p with
      | none =>
        rw [ht] at hT hB
        dsimp only at hB
        split
        · refine p_readOutside hS (by omega) hch false rfl hT (fun ρ3 g3 => p_skipSpace hS (by omega) g3 (fun v47 ρ4 g4 _ _ => ?_))
          have g4' : jp e 0 σ none ρ4 := g4
          split
          · refine p_skip hS (by omega) ti_1045 (by decide) g4' (fun v49 ρ5 g5 _ _ => ?_)
            split
            · exact hbad hB _ g5
            · exact p_needSpace hS (by omega) g5 (fun ρ6 g6 => p_readName hS (by omega) g6 (fun v54 ρ7 g7 _ _ => hbad hB _ g7))
          · exact hbad hB _ g4'
        · exact p_checkEntityText hS (by omega) hch hT (fun p' j τ' hp => by cases hp) (fun _ τ' h' => hbad hB _ h')
      | some t =>
        rw [ht] at hT hB
        dsimp only at hB
        have e16 := hv16 t ht
        by_cases c : isQt (lk (σ.2 101) e t) = true
        · rw [if_pos c] at hB
          rw [c] at e16
          have e1 : v16 = 1 := e16
          rw [if_neg (by omega)]
          refine p_checkEntityText hS (by omega) hch hT (fun p' j τ' hp hv hτ h10 h11 => ?_) (fun hv τ' h' => hbad (by rw [hB, hv]) _ h')
          cases hp
          exact hJ _ _ (Or.inl ⟨t, j, ht, c, hv, hτ, h10, h11, e1⟩)
        · rw [if_neg c] at hB
          have cf : isQt (lk (σ.2 101) e t) = false := by simpa using c
          have e1 : v16 = 0 := by rw [e16, cf]; rfl
          rw [if_pos e1]
          refine p_readOutside hS (by omega) hch false rfl hT (fun ρ3 g3 => p_skipSpace hS (by omega) g3 (fun v47 ρ4 g4 b47 hv47 => ?_))
          rw [outJ_outs] at g4 hv47
          cases hw : outs (σ.2 101) e (some t) with
          | none =>
            rw [hw] at g4 hB
            dsimp only at hB
            have g4' : jp e 0 σ none ρ4 := g4
            split
            · refine p_skip hS (by omega) ti_1045 (by decide) g4' (fun v49 ρ5 g5 _ _ => ?_)
              split
              · exact hbad hB _ g5
              · exact p_needSpace hS (by omega) g5 (fun ρ6 g6 => p_readName hS (by omega) g6 (fun v54 ρ7 g7 _ _ => hbad hB _ g7))
            · exact hbad hB _ g4'
          | some w =>
            rw [hw] at g4 hB hv47
            dsimp only at hB
            have hwe : w ≤ e := outs_le w hw
            have e47 := hv47 w rfl
            have g4' : jp e 0 σ (some (sk isSp (σ.2 101) e w)) ρ4 := g4
            have hfne : enF (σ.2 101) e p ≠ none := by
              obtain ⟨f, n, hf, -⟩ := hnm (by rw [ht]; simp)
              rw [hf]; simp
            have e6 := hv6' hfne
            -- without NDATA
            have hwo : ¬ (enP (σ.2 101) e p = false ∧ sk isSp (σ.2 101) e w ≠ w ∧ mt (σ.2 101) e (sk isSp (σ.2 101) e w) [78, 68, 65, 84, 65] = true) → ∀ ρ5, jp e 0 σ (some (sk isSp (σ.2 101) e w)) ρ5 → J () ρ5 := by
              intro hcc ρ5 g5
              rw [if_neg hcc] at hB
              refine hJ _ _ (Or.inr ⟨_, g5, ?_, fun _ => ⟨e1, t, ht, cf⟩⟩)
              rw [hK, hB]
              show wd (σ.2 101) e [62] (some (sk isSp (σ.2 101) e w)) = wd (σ.2 101) e [62] (some (sk isSp (σ.2 101) e (sk isSp (σ.2 101) e w)))
              rw [sk_idem hwe]
            by_cases c2 : ¬ v47 = 0 ∧ v6 = 0
            · rw [if_pos c2]
              have hP0 : enP (σ.2 101) e p = false := by
                cases hpp : enP (σ.2 101) e p with
                | false => rfl
                | true => rw [hpp] at e6; have e6' : v6 = 1 := e6; omega
              have hne : sk isSp (σ.2 101) e w ≠ w := by
                intro z
                rw [if_pos z] at e47
                exact c2.1 e47
              refine p_skip hS (by omega) ti_1045 (by decide) g4' (fun v49 ρ5 g5 b49 hv49 => ?_)
              have e49 := hv49 _ rfl
              have g5' : jp e 0 σ (if mt (σ.2 101) e (sk isSp (σ.2 101) e w) [78, 68, 65, 84, 65] = true then some (sk isSp (σ.2 101) e w + 5) else some (sk isSp (σ.2 101) e w)) ρ5 := g5
              by_cases c3 : mt (σ.2 101) e (sk isSp (σ.2 101) e w) [78, 68, 65, 84, 65] = true
              · rw [c3] at e49
                have e49' : v49 = 1 := e49
                rw [if_neg (by omega)]
                rw [if_pos c3] at g5'
                rw [if_pos ⟨hP0, hne, c3⟩] at hB
                exact p_needSpace hS (by omega) g5' (fun ρ6 g6 => p_readName hS (by omega) g6 (fun v54 ρ7 g7 _ _ => hJ _ _ (Or.inr ⟨_, g7, by rw [hK, hB], fun _ => ⟨e1, t, ht, cf⟩⟩)))
              · have e49' : v49 = 0 := by rw [e49]; unfold b1; rw [if_neg c3]
                rw [if_pos e49']
                rw [if_neg c3] at g5'
                exact hwo (fun z => c3 z.2.2) _ g5'
            · rw [if_neg c2]
              refine hwo (fun z => c2 ⟨?_, ?_⟩) _ g4'
              · rw [e47, if_neg z.2.1]; decide
              · rw [e6, z.1]; rfl
    · rintro _ ρ3 (⟨t, m, ht, hq, hm', hρ3, h10, h11, e16⟩ | ⟨z, hz, hez, hz0⟩)
      · -- an entity's text
        have hS3 := hρ3.js hS
        have hr3 := hρ3.row
        have hB' : enB (σ.2 101) e p = some m := by
          rw [hB, ht]
          dsimp only
          rw [if_pos hq, hm']
        have hK' : enk (σ.2 101) e p = wd (σ.2 101) e [62] (some (sk isSp (σ.2 101) e m)) := by rw [hK, hB']; rfl
        refine j_skipSpace hS3 (by omega) hρ3.stt (fun v22 ρ4 g4 _ _ => ?_)
        have g4' : jst e 0 ρ3 (some (sk isSp (σ.2 101) e m)) ρ4 := by rw [hr3] at g4; exact g4
        refine j_need hS3 (by omega) ti_1025 (by decide) g4' (fun ρ5 g5 => ?_)
        rw [hr3, ← hK'] at g5
        have g5p := hρ3.of g5
        have hfl := g5p.fault hS
        refine WJ_of (fun _ ρ6 => ρ5 = ρ6) (fun J hJ => ?_) ?_
        · rw [if_neg (by omega)]
          exact hJ _ _ rfl
        · rintro _ _ rfl
          refine WJ_dir ?_
          dsimp only
          cases hk : enk (σ.2 101) e p with
          | none =>
            rw [hk] at hfl g5p
            rw [if_neg (by rw [hfl, if_pos rfl]; decide)]
            exact h5 hk ρ5 g5p
          | some kk =>
            rw [hk] at hfl g5p g5
            rw [if_pos (by rw [hfl, if_neg (by intro y; cases y)])]
            obtain ⟨f, n, hf, hn, ev, en⟩ := hnm (by rw [ht]; simp)
            have e6 := hv6' (by rw [hf]; simp)
            rw [ev, en, e6]
            refine hOK f n t m kk ρ5 hf hn ht hq hm' hk g5p ?_ ?_
            · rw [g5.2, pf_1, if_neg (by omega)]; exact h10
            · rw [g5.2, pf_1, if_neg (by omega)]; exact h11
      · exact htail z ρ3 hz hez hz0
end JEn
