/-! ===== attribute declarations in the class: the first time through ===== -/
section JAtt0
variable {L : Nat → Nat} {σ τ : IS} {e : Nat}
set_option maxRecDepth 10000 in
theorem j_readAttributes0 {Q : IS → Prop} (hS : JS L σ e) (hch : jch L σ) (hI : SI L σ) (hl : SL L) (hc : jty σ) {p : Nat} (hm : mt (σ.2 101) e p [60, 33, 65, 84, 84, 76, 73, 83, 84] = true) (h : jp e 0 σ (some p) τ) (hq : ∀ τ', jp e 0 σ (alk (σ.2 101) e p) τ' → Q τ') : w_Doctype_readAttributes L 0 Q τ := by
  have he : e < 1000000 := by have := hS.2.1; have := hS.2.2.1; omega
  unfold w_Doctype_readAttributes
  refine p_need hS (by omega) ti_1029 (by decide) h (fun τ1 h1 => ?_)
  have hw : wd (σ.2 101) e [60, 33, 65, 84, 84, 76, 73, 83, 84] (some p) = some (p + 9) := by
    show (if mt (σ.2 101) e p [60, 33, 65, 84, 84, 76, 73, 83, 84] = true then some (p + 9) else none) = _
    rw [if_pos hm]
  rw [hw] at h1
  refine p_needSpace hS (by omega) h1 (fun τ2 h2 => p_readName hS (by omega) h2 (fun v6 τ3 h3 _ _ => ?_))
  refine WJ_of (fun _ ρ => τ3 = ρ) (fun J hJ => by rw [if_pos rfl]; exact hJ _ _ rfl) ?_
  rintro s9 _ rfl
  refine WL_ind (fun s ρ => ∃ z : Option Nat, jp e 0 σ z ρ ∧ alk (σ.2 101) e p = wd (σ.2 101) e [62] (asp (σ.2 101) e (z.bind (adk (σ.2 101) e (e + 1)))) ∧ ∀ q, z = some q → q ≤ e ∧ 0 ≤ s ∧ s ≤ (q : Int)) (fun s _ => (1000000 - s).toNat) ?_ 0 τ3 ⟨nmg (σ.2 101) e true (spc (σ.2 101) e (some (p + 9))), h3, rfl, fun q hq => ⟨nmg_le q hq, by omega, by omega⟩⟩
  rintro t ρ ⟨z, hz, htz, hzq⟩ K hI2
  try dsimp only
  have hfl := hz.fault hS
  cases z with
  | none =>
    have hf5 : ρ.1 2 4 = 5 := jp.f5 hz
    rw [if_neg (fun y => by rw [hf5] at y; exact absurd y.2 (by decide))]
    exact p_fail hS hz (fun τ' h' => hq τ' (by rw [htz]; exact h'))
  | some q =>
    obtain ⟨hqe, ht0, htq⟩ := hzq q rfl
    have hf0 : ρ.1 2 4 = 0 := jp.f0 hz (by first | exact hS1 | exact hS)
    have hsl := sk_le (p := isSp) (T := σ.2 101) hqe
    have htz' : alk (σ.2 101) e p = wd (σ.2 101) e [62] (asp (σ.2 101) e (adk (σ.2 101) e (e + 1) q)) := htz
    rw [if_pos ⟨by omega, hf0⟩]
    refine p_skipSpace hS (by omega) hz (fun v16 ρ1 h1 _ hv16 => ?_)
    have hv := hv16 q rfl
    have h1' : jp e 0 σ (some (sk isSp (σ.2 101) e q)) ρ1 := h1
    generalize hy : sk isSp (σ.2 101) e q = y at *
    -- the last definition is before this place
    have hlast : adk (σ.2 101) e (e + 1) q = some q → alk (σ.2 101) e p = wd (σ.2 101) e [62] (some y) := by
      intro ha
      rw [htz', ha]
      show wd (σ.2 101) e [62] (some (sk isSp (σ.2 101) e q)) = _
      rw [hy]
    refine p_skip hS (by omega) ti_1025 (by decide) h1' (fun v18 ρ2 h2 _ hv18 => ?_)
    rw [hv18 y rfl, if_b1]
    have h2' : jp e 0 σ (if mt (σ.2 101) e y [62] = true then some (y + 1) else some y) ρ2 := h2
    by_cases c1 : mt (σ.2 101) e y [62] = true
    · rw [if_pos c1]
      rw [if_pos c1] at h2'
      refine hq _ ?_
      rw [hlast]
      · show jp e 0 σ (if mt (σ.2 101) e y [62] = true then some (y + 1) else none) ρ2
        rw [if_pos c1]
        exact h2'
      · rw [adk_step hqe]
        cases hsp : spc (σ.2 101) e (some q) with
        | none => rfl
        | some x =>
          have g := spc_gt hqe hsp
          dsimp only
          have c1' : lk (σ.2 101) e y = 62 := by rw [mt1] at c1; simpa using c1
          have hx : nmg (σ.2 101) e true (some x) = none := by
            show (if (if true = true then isSt (lk (σ.2 101) e x) else isNm (lk (σ.2 101) e x)) = true then some (sk isNm (σ.2 101) e (x + 1)) else none) = none
            rw [if_pos rfl, g.2.2, hy, c1', if_neg (by decide)]
          rw [hx]
    · rw [if_neg c1]
      rw [if_neg c1] at h2'
      have hno : adk (σ.2 101) e (e + 1) q = some q → alk (σ.2 101) e p = none := by
        intro ha
        rw [hlast ha]
        show (if mt (σ.2 101) e y [62] = true then some (y + 1) else none) = none
        rw [if_neg c1]
      refine WJ_of (fun _ ρ1 => ∃ o2 : Option Nat, jp e 0 σ o2 ρ1 ∧ (∀ y', o2 = some y' → y' = y ∧ q < y) ∧ (o2 = none → alk (σ.2 101) e p = none)) (fun J2 hJ2 => ?_) ?_
      · by_cases c3 : v16 = 0
        · rw [if_pos c3]
          refine p_fail hS h2' (fun ρ1 hρ1 => hJ2 _ _ ⟨none, hρ1, fun y' hy' => (by cases hy'), fun _ => hno ?_⟩)
          have hyq : y = q := by
            by_cases w : y = q
            · exact w
            · rw [if_neg w] at hv; omega
          rw [adk_step hqe]
          have hsp : spc (σ.2 101) e (some q) = none := by
            show (if sk isSp (σ.2 101) e q = q then none else some (sk isSp (σ.2 101) e q)) = _
            rw [hy, if_pos hyq]
          rw [hsp]
        · rw [if_neg c3]
          refine hJ2 _ _ ⟨some y, h2', fun y' hy' => ⟨(Option.some.inj hy').symm, ?_⟩, fun hy' => by cases hy'⟩
          by_cases w : y = q
          · rw [if_pos w] at hv; exact absurd hv c3
          · omega
      · rintro _ ρ3 ⟨o2, ho2, hoy, hbad⟩
        refine p_readName hS (by omega) ho2 (fun v25 ρ4 h4 _ hr25 => ?_)
        obtain ⟨r, hr1, hr2⟩ := h4.pos
        obtain ⟨q5, hq51, hq52, hq53⟩ := hr25
        have := hq53 r hr1
        refine ⟨⟨by omega, by omega⟩, ?_⟩
        refine p_needSpace hS (by omega) h4 (fun ρ5 h5 => j_readType0 hS hI hl hc h5 (fun v29 ρ6 h6 => p_needSpace hS (by omega) h6 (fun ρ7 h7 => j_readHow hS h7 (fun v33 ρ8 h8 hv33 hvk => ?_))))
        -- the definition as a whole
        have hdef : ∀ z' : Option Nat, z' = ((spc (σ.2 101) e ((spc (σ.2 101) e (nmg (σ.2 101) e true o2)).bind (typ (σ.2 101) e))).bind (dft (σ.2 101) e)) → alk (σ.2 101) e p = wd (σ.2 101) e [62] (asp (σ.2 101) e (z'.bind (adk (σ.2 101) e (e + 1)))) ∧ ∀ j, z' = some j → q < j ∧ j ≤ e := by
          intro z' hz'
          cases o2 with
          | none =>
            have hz0 : z' = none := hz'
            rw [hz0]
            exact ⟨hbad rfl, fun j hj => by cases hj⟩
          | some y' =>
            obtain ⟨rfl, hqy⟩ := hoy y' rfl
            have hsp : spc (σ.2 101) e (some q) = some y' := by
              show (if sk isSp (σ.2 101) e q = q then none else some (sk isSp (σ.2 101) e q)) = _
              rw [hy, if_neg (by omega)]
            have ha := adk_step (T := σ.2 101) hqe
            rw [hsp] at ha
            dsimp only at ha
            cases hn : nmg (σ.2 101) e true (some y') with
            | none =>
              rw [hn] at ha hz'
              dsimp only at ha
              have hz0 : z' = none := hz'
              rw [hz0]
              exact ⟨hno ha, fun j hj => by cases hj⟩
            | some b =>
              rw [hn] at ha hz'
              dsimp only at ha
              have hdn : dfn (σ.2 101) e y' = z' := by
                rw [hz']
                unfold dfn
                rw [hn]
                cases spc (σ.2 101) e (some b) with
                | none => rfl
                | some y1 =>
                  dsimp only
                  rw [Option.bind_some]
                  cases spc (σ.2 101) e (typ (σ.2 101) e y1) with
                  | none => rfl
                  | some w => rfl
              rw [hdn] at ha
              refine ⟨?_, fun j hj => ?_⟩
              · rw [htz', ha]
                cases z' with
                | none => rfl
                | some j => rfl
              · rw [hj] at hdn
                have := dfn_gt hdn
                omega
        refine WJ_of (fun _ ρ9 => jp e 0 σ ((spc (σ.2 101) e ((spc (σ.2 101) e (nmg (σ.2 101) e true o2)).bind (typ (σ.2 101) e))).bind (dft (σ.2 101) e)) ρ9) (fun J hJ => ?_) ?_
        · rw [if_neg (fun y => y.2 rfl)]
          generalize hw : spc (σ.2 101) e ((spc (σ.2 101) e (nmg (σ.2 101) e true o2)).bind (typ (σ.2 101) e)) = ow at *
          cases ow with
          | none =>
            split
            · exact hJ _ _ h8
            · exact p_checkValue hS (by omega) hch h8 (fun ρ9 h9 => hJ _ _ h9)
          | some w =>
            have hk := hvk w rfl
            have h8' : jp e 0 σ (if dfK (σ.2 101) e w = 1 then some (w + 9) else if dfK (σ.2 101) e w = 2 then some (w + 8) else dfV (σ.2 101) e w) ρ8 := h8
            have hd : (some w).bind (dft (σ.2 101) e) = if dfK (σ.2 101) e w = 1 then some (w + 9) else if dfK (σ.2 101) e w = 2 then some (w + 8) else vlp (σ.2 101) e (dfV (σ.2 101) e w) := rfl
            rw [hd] at hJ
            have hk4 : dfK (σ.2 101) e w ≤ 4 ∧ 1 ≤ dfK (σ.2 101) e w := by
              unfold dfK
              split
              · omega
              · split
                · omega
                · split <;> omega
            by_cases k1 : dfK (σ.2 101) e w = 1
            · rw [if_pos k1] at h8' hJ hk
              rw [if_pos (by omega)]
              exact hJ _ _ h8'
            · rw [if_neg k1] at h8' hJ hk
              by_cases k2 : dfK (σ.2 101) e w = 2
              · rw [if_pos k2] at h8' hJ hk
                rw [if_pos (by omega)]
                exact hJ _ _ h8'
              · rw [if_neg k2] at h8' hJ hk
                rw [if_neg (by omega)]
                exact p_checkValue hS (by omega) hch h8' (fun ρ9 h9 => hJ _ _ h9)
        · rintro s36 ρ9 h9
          refine WJ_of (fun _ ρ => ρ9 = ρ) (fun J hJ => by rw [if_neg (fun y => y.1 rfl)]; exact hJ _ _ rfl) ?_
          rintro _ _ rfl
          refine ⟨⟨by omega, by omega⟩, ?_⟩
          obtain ⟨hd1, hd2⟩ := hdef _ rfl
          refine hI2 _ _ ⟨_, h9, hd1, fun j hj => ?_⟩ (by omega)
          have := hd2 j hj
          exact ⟨this.2, by omega, by omega⟩
end JAtt0
