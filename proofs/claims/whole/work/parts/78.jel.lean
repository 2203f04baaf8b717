/-! ===== the class: element declarations up to what they mean ===== -/
section JEl
variable {L : Nat → Nat} {σ τ : IS} {e : Nat}
theorem sk_idem {P : Int → Bool} {T : Nat → Int} {e w : Nat} (hw : w ≤ e) : sk P T e (sk P T e w) = sk P T e w := by
  have h := sk_le (p := P) (T := T) hw
  by_cases c : sk P T e w < e
  · exact sk_stop (sk_not hw c)
  · exact sk_end (by omega)
theorem wd_of {T : Nat → Int} {e p : Nat} {l : List Int} (h : mt T e p l = true) : wd T e l (some p) = some (p + l.length) := by
  show (if mt T e p l = true then some (p + l.length) else none) = _
  rw [if_pos h]
set_option maxRecDepth 10000 in
set_option maxHeartbeats 1000000 in
theorem j_readElement {Q : IS → Prop} (hS : JS L σ e) {p : Nat} (hsep : e < p + L 128) (h128 : 1 < L 128 ∧ L 128 < 1000000) (hm : mt (σ.2 101) e p [60, 33, 69, 76, 69, 77, 69, 78, 84] = true) (h : jp e 0 σ (some p) τ)
    (hOK : ∀ s n c k σ1 τ', spc (σ.2 101) e (some (p + 9)) = some s → nmg (σ.2 101) e true (some s) = some n → spc (σ.2 101) e (some n) = some c → elk (σ.2 101) e p = some k → (cnK (σ.2 101) e c = 3 → ∃ r, mdl (σ.2 101) e c = some r ∧ r.2.1 ≤ 255 ∧ r.2.2 ≤ 60) → MBR σ σ1 → jp e 0 σ1 (some k) τ' → w_Store_intern L (s : Int) ((n : Int) - (s : Int)) (fun v29 σ28 => w_Declared_addElement L v29 (cnK (σ.2 101) e c : Int) (c : Int) (fun σ30 => Q σ30) σ28) τ')
    (h4 : ∀ c k r σ1 τ', elc (σ.2 101) e p = some c → elk (σ.2 101) e p = some k → cnK (σ.2 101) e c = 3 → mdl (σ.2 101) e c = some r → (255 < r.2.1 ∨ 60 < r.2.2) → MBR σ σ1 → jp e 0 σ1 (some k) τ' → Q (pf τ' 2 4 4))
    (h5 : elk (σ.2 101) e p = none → ∀ σ1 τ', MBR σ σ1 → jp e 0 σ1 none τ' → Q τ') : w_Doctype_readElement L Q τ := by
  have he : e < 1000000 := by have := hS.2.1; have := hS.2.2.1; omega
  unfold w_Doctype_readElement
  refine p_need hS (by omega) ti_1028 (by decide) h (fun τ1 h1 => ?_)
  rw [wd_of hm] at h1
  refine p_needSpace hS (by omega) h1 (fun τ2 h2 => p_readName hS (by omega) h2 (fun v6 τ3 h3 hv6 hr => ?_))
  obtain ⟨r, hr1, hr2⟩ := h3.pos
  obtain ⟨q5, hq51, hq52, hq53⟩ := hr
  have hq5 := hq53 r hr1
  refine ⟨⟨by omega, by omega⟩, ?_⟩
  refine p_needSpace hS (by omega) h3 (fun τ4 h4' => ?_)
  have hc : jp e 0 σ (elc (σ.2 101) e p) τ4 := h4'
  have hel : elk (σ.2 101) e p = wd (σ.2 101) e [62] (asp (σ.2 101) e ((elc (σ.2 101) e p).bind (cnt (σ.2 101) e))) := rfl
  refine p_skip hS (by omega) ti_1035 (by decide) hc (fun v10 τ5 g5 b5 hv10 => ?_)
  refine WJ_of (fun s13 ρ => ∃ (z : Option Nat) (σ1 : IS), MBR σ σ1 ∧ jp e 0 σ1 z ρ ∧ elk (σ.2 101) e p = wd (σ.2 101) e [62] (asp (σ.2 101) e z) ∧ ∀ q, z = some q → ∃ c, elc (σ.2 101) e p = some c ∧ s13 = (cnK (σ.2 101) e c : Int) ∧ (cnK (σ.2 101) e c = 3 → ∃ r, mdl (σ.2 101) e c = some r ∧ σ1.1 5 8 = (r.2.1 : Int) ∧ σ1.1 5 9 = (r.2.2 : Int))) (fun J hJ => ?_) ?_
  · cases hcc : elc (σ.2 101) e p with
    | none =>
      rw [hcc] at hel g5
      have hel' : elk (σ.2 101) e p = none := hel
      have hbad : ∀ (x : Int) (σ1 ρ : IS), MBR σ σ1 → jp e 0 σ1 none ρ → J x ρ := fun x σ1 ρ hM hρ => hJ _ _ ⟨none, σ1, hM, hρ, hel', fun q hq => by cases hq⟩
      have g5' : jp e 0 σ none τ5 := g5
      rcases b5 with rfl | rfl
      · rw [if_pos rfl]
        refine p_skip hS (by omega) ti_1036 (by decide) g5' (fun v42 τ6 g6 b6 _ => ?_)
        have g6' : jp e 0 σ none τ6 := g6
        rcases b6 with rfl | rfl
        · rw [if_pos rfl]
          refine p_need hS (by omega) ti_1037 (by decide) g6' (fun τ7 g7 => p_skipSpace hS (by omega) g7 (fun v47 τ8 g8 _ _ => p_skip hS (by omega) ti_1038 (by decide) g8 (fun v49 τ9 g9 b9 _ => ?_)))
          have g9' : jp e 0 σ none τ9 := g9
          rcases b9 with rfl | rfl
          · rw [if_pos rfl]
            exact j_readModel hS hsep h128 g9' (fun q hq => by cases hq) (fun q r σ1 τ' hq => by cases hq) (fun _ σ1 τ' hM hτ => hbad _ σ1 τ' hM hτ)
          · rw [if_neg (by decide)]
            exact j_readMixed hS g9' (fun τ' hτ => hbad _ σ τ' MBR.refl hτ)
        · rw [if_neg (by decide)]
          exact hbad _ σ τ6 MBR.refl g6'
      · rw [if_neg (by decide)]
        exact hbad _ σ τ5 MBR.refl g5'
    | some c =>
      rw [hcc] at hel g5 hv10
      rw [Option.bind_some] at hel
      have hcn : cnt (σ.2 101) e c = if cnK (σ.2 101) e c = 0 then some (c + 5) else if cnK (σ.2 101) e c = 1 then some (c + 3) else if cnK (σ.2 101) e c = 2 then (if mt (σ.2 101) e c [40] = true then mxk (σ.2 101) e (e + 1) false (sk isSp (σ.2 101) e (c + 1) + 7) else none) else (mdl (σ.2 101) e c).map (fun r => r.1) := rfl
      have hck : cnK (σ.2 101) e c = if mt (σ.2 101) e c [69, 77, 80, 84, 89] = true then 0 else if mt (σ.2 101) e c [65, 78, 89] = true then 1 else if mt (σ.2 101) e (sk isSp (σ.2 101) e (c + 1)) [35, 80, 67, 68, 65, 84, 65] = true then 2 else 3 := rfl
      have g5' : jp e 0 σ (if mt (σ.2 101) e c [69, 77, 80, 84, 89] = true then some (c + 5) else some c) τ5 := g5
      rw [hv10 c rfl, if_b1]
      by_cases c1 : mt (σ.2 101) e c [69, 77, 80, 84, 89] = true
      · rw [if_pos c1]
        rw [if_pos c1] at g5' hck
        refine hJ _ _ ⟨_, σ, MBR.refl, g5', ?_, fun q hq => ⟨c, hcc, by rw [hck]; rfl, fun z => by omega⟩⟩
        rw [hel, hcn, if_pos hck]
      · rw [if_neg c1]
        rw [if_neg c1] at g5' hck
        refine p_skip hS (by omega) ti_1036 (by decide) g5' (fun v42 τ6 g6 _ hv42 => ?_)
        have g6' : jp e 0 σ (if mt (σ.2 101) e c [65, 78, 89] = true then some (c + 3) else some c) τ6 := g6
        rw [hv42 c rfl, if_b1]
        by_cases c2 : mt (σ.2 101) e c [65, 78, 89] = true
        · rw [if_pos c2]
          rw [if_pos c2] at g6' hck
          refine hJ _ _ ⟨_, σ, MBR.refl, g6', ?_, fun q hq => ⟨c, hcc, by rw [hck]; rfl, fun z => by omega⟩⟩
          rw [hel, hcn, if_neg (by omega), if_pos hck]
        · rw [if_neg c2]
          rw [if_neg c2] at g6' hck
          refine p_need hS (by omega) ti_1037 (by decide) g6' (fun τ7 g7 => p_skipSpace hS (by omega) g7 (fun v47 τ8 g8 _ _ => p_skip hS (by omega) ti_1038 (by decide) g8 (fun v49 τ9 g9 b9 hv49 => ?_)))
          by_cases c3 : mt (σ.2 101) e c [40] = true
          · have hw : wd (σ.2 101) e [40] (some c) = some (c + 1) := wd_of c3
            rw [hw] at g9 hv49
            have hc1 : c + 1 ≤ e := wd_bad (l := [40]) ti_1037 (by decide) c3
            have hcp : p + 9 < c := by
              have hcc' : spc (σ.2 101) e (nmg (σ.2 101) e true (spc (σ.2 101) e (some (p + 9)))) = some c := hcc
              have hp9 := wd_bad (l := [60, 33, 69, 76, 69, 77, 69, 78, 84]) ti_1028 (by decide) hm
              have hp9' : p + 9 ≤ e := hp9
              cases hs : spc (σ.2 101) e (some (p + 9)) with
              | none => rw [hs] at hcc'; cases hcc'
              | some s =>
                rw [hs] at hcc'
                have a1 := spc_gt hp9' hs
                cases hn : nmg (σ.2 101) e true (some s) with
                | none => rw [hn] at hcc'; cases hcc'
                | some n =>
                  rw [hn] at hcc'
                  have a2 := nmg_lt hn
                  have a3 := spc_gt a2.2.2 hcc'
                  omega
            have g9' : jp e 0 σ (if mt (σ.2 101) e (sk isSp (σ.2 101) e (c + 1)) [35, 80, 67, 68, 65, 84, 65] = true then some (sk isSp (σ.2 101) e (c + 1) + 7) else some (sk isSp (σ.2 101) e (c + 1))) τ9 := g9
            rw [hv49 _ rfl, if_b1]
            by_cases c4 : mt (σ.2 101) e (sk isSp (σ.2 101) e (c + 1)) [35, 80, 67, 68, 65, 84, 65] = true
            · rw [if_pos c4]
              rw [if_pos c4] at g9' hck
              refine j_readMixed hS g9' (fun τ' hτ => hJ _ _ ⟨_, σ, MBR.refl, hτ, ?_, fun q hq => ⟨c, hcc, by rw [hck]; rfl, fun z => by omega⟩⟩)
              rw [hel, hcn, if_neg (by omega), if_neg (by omega), if_pos hck, if_pos c3]
              rfl
            · rw [if_neg c4]
              rw [if_neg c4] at g9' hck
              have hsl := sk_le (p := isSp) (T := σ.2 101) hc1
              -- spaces behind the first bracket don't matter
              have hmd : mdk (σ.2 101) e (e + 2) [0] true (sk isSp (σ.2 101) e (c + 1)) 0 1 = mdl (σ.2 101) e c := by
                unfold mdl
                rw [if_pos c3]
                show (if true = true then (if lk (σ.2 101) e (sk isSp (σ.2 101) e (sk isSp (σ.2 101) e (c + 1))) = 40 then mdk (σ.2 101) e (e + 1) (0 :: 0 :: []) true (sk isSp (σ.2 101) e (sk isSp (σ.2 101) e (c + 1)) + 1) 0 (if 1 < 0 + 2 then 0 + 2 else 1) else (match nmg (σ.2 101) e true (some (sk isSp (σ.2 101) e (sk isSp (σ.2 101) e (c + 1)))) with
                  | none => none
                  | some j => mdk (σ.2 101) e (e + 1) (0 :: []) false (oft (σ.2 101) e j) (0 + 1) 1)) else _) = (if true = true then (if lk (σ.2 101) e (sk isSp (σ.2 101) e (c + 1)) = 40 then mdk (σ.2 101) e (e + 1) (0 :: 0 :: []) true (sk isSp (σ.2 101) e (c + 1) + 1) 0 (if 1 < 0 + 2 then 0 + 2 else 1) else (match nmg (σ.2 101) e true (some (sk isSp (σ.2 101) e (c + 1))) with
                  | none => none
                  | some j => mdk (σ.2 101) e (e + 1) (0 :: []) false (oft (σ.2 101) e j) (0 + 1) 1)) else _)
                rw [if_pos rfl, if_pos rfl, sk_idem hc1]
              have hcnt : cnt (σ.2 101) e c = (mdl (σ.2 101) e c).map (fun r => r.1) := by
                rw [hcn, if_neg (by omega), if_neg (by omega), if_neg (by omega)]
              refine j_readModel hS hsep h128 g9' (fun q hq => by cases hq; omega) (fun q r σ1 τ' hq hr hM k8 k9 hτ => ?_) (fun hn σ1 τ' hM hτ => ?_)
              · cases hq
                rw [hmd] at hr
                refine hJ _ _ ⟨some r.1, σ1, hM, hτ, ?_, fun q hq => ⟨c, hcc, by rw [hck]; rfl, fun _ => ⟨r, hr, k8, k9⟩⟩⟩
                rw [hel, hcnt, hr]
                rfl
              · rw [Option.bind_some, hmd] at hn
                refine hJ _ _ ⟨none, σ1, hM, hτ, ?_, fun q hq => by cases hq⟩
                rw [hel, hcnt, hn]
                rfl
          · have hw : wd (σ.2 101) e [40] (some c) = none := by
              show (if mt (σ.2 101) e c [40] = true then some (c + 1) else none) = none
              rw [if_neg c3]
            rw [hw] at g9
            have g9' : jp e 0 σ none τ9 := g9
            have hcnt : cnt (σ.2 101) e c = none := by
              rw [hcn]
              split at hck
              · rw [if_neg (by omega), if_neg (by omega), if_pos hck, if_neg c3]
              · rw [if_neg (by omega), if_neg (by omega), if_neg (by omega)]
                unfold mdl
                rw [if_neg c3]
                rfl
            have hel' : elk (σ.2 101) e p = none := by rw [hel, hcnt]; rfl
            have hbad : ∀ (x : Int) (σ1 ρ : IS), MBR σ σ1 → jp e 0 σ1 none ρ → J x ρ := fun x σ1 ρ hM hρ => hJ _ _ ⟨none, σ1, hM, hρ, hel', fun q hq => by cases hq⟩
            rcases b9 with rfl | rfl
            · rw [if_pos rfl]
              exact j_readModel hS hsep h128 g9' (fun q hq => by cases hq) (fun q r σ1 τ' hq => by cases hq) (fun _ σ1 τ' hM hτ => hbad _ σ1 τ' hM hτ)
            · rw [if_neg (by decide)]
              exact j_readMixed hS g9' (fun τ' hτ => hbad _ σ τ' MBR.refl hτ)
  · rintro s13 ρ ⟨z, σ1, hM, hz, hez, hzc⟩
    have hS1 : JS L σ1 e := hM.js hS
    have hT : σ1.2 101 = σ.2 101 := hM.row (by decide)
    refine p_skipSpace hS1 (by omega) hz (fun v16 ρ1 hρ1 _ _ => p_need hS1 (by omega) ti_1025 (by decide) hρ1 (fun ρ2 hρ2 => ?_))
    rw [hT] at hρ2
    rw [← hez] at hρ2
    have k8 : ρ2.1 5 8 = σ1.1 5 8 := hρ2.keep (by omega) (by omega)
    have k9 : ρ2.1 5 9 = σ1.1 5 9 := hρ2.keep (by omega) (by omega)
    have hfl := hρ2.fault hS1
    cases hk : elk (σ.2 101) e p with
    | none =>
      rw [hk] at hρ2 hfl
      have hf5 : ρ2.1 2 4 = 5 := by rw [hfl, if_pos rfl]
      have hrest : ∀ ρ3, jp e 0 σ1 none ρ3 → WJ (fun (s25 : Unit) (σ26 : IS) => Q σ26) (fun J23 => if (ρ3.1 2 4) = 0 then w_Store_intern L v6 ((τ3.1 2 2) - v6) (fun v29 σ28 => w_Declared_addElement L v29 s13 (τ4.1 2 2) (fun σ30 => J23 () σ30) σ28) ρ3 else J23 () ρ3) := by
        intro ρ3 h3
        have hf : ρ3.1 2 4 = 5 := by rw [h3.fault hS1, if_pos rfl]
        refine WJ_dir ?_
        dsimp only
        rw [if_neg (by rw [hf]; decide)]
        exact h5 hk σ1 ρ3 hM h3
      refine WJ_of (fun _ ρ3 => jp e 0 σ1 none ρ3) (fun J hJ => ?_) (fun _ ρ3 h3 => hrest ρ3 h3)
      split
      · split
        · refine sp_Reader_fail ?_
          rw [flt_bad hf5]
          exact hJ _ _ hρ2
        · exact hJ _ _ hρ2
      · exact hJ _ _ hρ2
    | some kk =>
      rw [hk] at hρ2 hfl
      have hf0 : ρ2.1 2 4 = 0 := by rw [hfl, if_neg (by intro y; cases y)]
      have hzs : ∃ q, z = some q := by
        cases z with
        | none => rw [hk] at hez; cases hez
        | some q => exact ⟨q, rfl⟩
      obtain ⟨q, hq⟩ := hzs
      obtain ⟨c, hcc, hs13, hr3⟩ := hzc q hq
      have hcc' : spc (σ.2 101) e (nmg (σ.2 101) e true (spc (σ.2 101) e (some (p + 9)))) = some c := hcc
      cases hs : spc (σ.2 101) e (some (p + 9)) with
      | none => rw [hs] at hcc'; cases hcc'
      | some s =>
        rw [hs] at hcc'
        cases hn : nmg (σ.2 101) e true (some s) with
        | none => rw [hn] at hcc'; cases hcc'
        | some n =>
          rw [hn] at hcc'
          have ev6 : v6 = (s : Int) := hv6 s hs
          have ev3 : τ3.1 2 2 = (n : Int) := by
            have h3' : jp e 0 σ (nmg (σ.2 101) e true (spc (σ.2 101) e (some (p + 9)))) τ3 := h3
            rw [hs, hn] at h3'
            exact h3'.at.1
          have ev4 : τ4.1 2 2 = (c : Int) := by
            rw [hcc] at hc
            exact hc.at.1
          rw [ev6, ev3, ev4, hs13]
          by_cases c3 : cnK (σ.2 101) e c = 3
          · obtain ⟨r, hr, hr8, hr9⟩ := hr3 c3
            by_cases c4 : 255 < r.2.1 ∨ 60 < r.2.2
            · refine WJ_of (fun _ ρ3 => pf ρ2 2 4 4 = ρ3) (fun J hJ => ?_) ?_
              · rw [if_pos (by rw [c3]; rfl), if_pos (by rw [k8, k9, hr8, hr9]; omega)]
                refine sp_Reader_fail ?_
                have : flt ρ2 4 = pf ρ2 2 4 4 := by unfold flt; rw [if_pos hf0]
                rw [this]
                exact hJ _ _ rfl
              · rintro _ _ rfl
                refine WJ_dir ?_
                dsimp only
                rw [if_neg (by rw [pf_eq]; decide)]
                exact h4 c kk r σ1 ρ2 hcc hk c3 hr c4 hM hρ2
            · refine WJ_of (fun _ ρ3 => ρ2 = ρ3) (fun J hJ => ?_) ?_
              · rw [if_pos (by rw [c3]; rfl), if_neg (by rw [k8, k9, hr8, hr9]; omega)]
                exact hJ _ _ rfl
              · rintro _ _ rfl
                refine WJ_dir ?_
                dsimp only
                rw [if_pos hf0]
                exact hOK s n c kk σ1 ρ2 hs hn hcc' hk (fun _ => ⟨r, hr, by omega, by omega⟩) hM hρ2
          · refine WJ_of (fun _ ρ3 => ρ2 = ρ3) (fun J hJ => ?_) ?_
            · rw [if_neg (by omega)]
              exact hJ _ _ rfl
            · rintro _ _ rfl
              refine WJ_dir ?_
              dsimp only
              rw [if_pos hf0]
              exact hOK s n c kk σ1 ρ2 hs hn hcc' hk (fun z => absurd z c3) hM hρ2
end JEl
