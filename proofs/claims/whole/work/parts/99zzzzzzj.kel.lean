/-! ===== the reference: a declared element, how it is written ===== -/
/-- the names that are kept while the content is read -/
def nmX (T : Nat → Int) (e : Nat) (co : Option Nat) : List Str := match co with
  | none => []
  | some c => if cnK T e c ≤ 1 then [] else mxW T e (some c)
section Kel
variable {L : Nat → Nat} {rm nd o : Nat} {σ ρ τ : IS} {g g' g2 : KG} {Q : IS → Prop} {R : Int → IS → Prop} {T : Nat → Int} {p e : Nat} {BODY : Int × Int × Int → IS → Prop}
theorem mxQ_some {c : Nat} : mxQ T e (some c) = if mt T e c [40] = true ∧ mt T e (sk isSp T e (c + 1)) [35, 80, 67, 68, 65, 84, 65] = true then some (sk isSp T e (c + 1) + 7) else none := by
  unfold mxQ
  rw [wd_mt]
  by_cases c1 : mt T e c [40] = true
  · rw [if_pos c1]
    show wd T e [35, 80, 67, 68, 65, 84, 65] (some (sk isSp T e (c + 1))) = _
    rw [wd_mt]
    by_cases c2 : mt T e (sk isSp T e (c + 1)) [35, 80, 67, 68, 65, 84, 65] = true
    · rw [if_pos c2, if_pos ⟨c1, c2⟩]; rfl
    · rw [if_neg c2, if_neg (fun z => c2 z.2)]
  · rw [if_neg c1, if_neg (fun z => c1 z.1)]; rfl
/-- where a mixed group begins, no model does -/
theorem mdl_mx {c : Nat} (h : mt T e (sk isSp T e (c + 1)) [35, 80, 67, 68, 65, 84, 65] = true) : mdl T e c = none := by
  unfold mdl
  split
  · rw [show e + 2 = (e + 1) + 1 from rfl, mdk_s, if_pos rfl, mt_hd h, if_neg (by decide)]
    have : nmg T e true (some (sk isSp T e (c + 1))) = none := by
      show (if isSt (lk T e (sk isSp T e (c + 1))) = true then _ else none) = none
      rw [mt_hd h]
      rfl
    rw [this]
  · rfl
set_option maxHeartbeats 2000000 in
theorem sp_el0 {v6 v8 : Int} {b : Nat} (co : Option Nat) (hL : KLn L o rm nd) (h : KZ rm nd o σ g) (hq0 : KLq σ (gB g) b []) (hK : KT L σ (p + e)) (hS : SHT T (σ.2 176) e p) (hv6 : v6 = enc (mvo p co)) (hv8 : v8 = enc (mvo p (wd T e [69, 77, 80, 84, 89] co))) (hco : ple e co) (h65 : e ≤ 65536) (h76 : σ.1 16 76 = 0) (h77 : σ.1 16 77 = 0) (hroom : b + (nmX T e co).length ≤ 50000) (hcap : kcL (gB g) (nmX T e co))
    (hB : ∀ me kd v ρ g2, KZ rm nd o ρ g2 → gB g2 = kpL (gB g) (nmX T e co) → g2.2 = g.2 → (∀ pp kk, ¬ ((pp = 13 ∧ (kk = 1 ∨ kk = 6)) ∨ (pp = 16 ∧ (kk = 58 ∨ kk = 76 ∨ kk = 77))) → ρ.1 pp kk = σ.1 pp kk) → (∀ r, ¬ (211 ≤ r ∧ r ≤ 215) → r ≠ 207 → r ≠ 175 → ρ.2 r = σ.2 r) → (∀ i, i < b → ρ.2 207 i = σ.2 207 i) → v = enc (mvo p (co.bind (cnt T e))) → (∀ c z, co = some c → cnt T e c = some z → kd = (cnK T e c : Int) + 1 ∧ (cnK T e c = 3 → me = ((p + z : Nat) : Int)) ∧ KLq ρ (gB g2) b (if cnK T e c = 2 then nmX T e co else []) ∧ (cnK T e c = 3 → ∀ r, mdl T e c = some r → ρ.1 16 76 = (r.2.1 : Int) ∧ ρ.1 16 77 = b1 (decide (60 < r.2.2)))) → BODY (me, kd, v) ρ) :
    WJ (fun (s11 : Int × Int) (σ12 : IS) => WJ (fun (s15 : Int × Int) (σ16 : IS) => WJ (fun (s19 : Int × Int × Int) (σ20 : IS) => BODY s19 σ20) (fun J17 => if s15.2 < 0 then WJ (fun (s103 : Int) (σ104 : IS) => J17 (s103, 4, s103) σ104) (fun J101 => if v6 < 0 then J101 (-1) (pf σ16 16 58 (b : Int)) else w_KReader_model L v6 (fun v107 σ106 => J101 v107 σ106) (pf σ16 16 58 (b : Int))) else J17 ((-1), s15.1, s15.2) σ16)) (fun J13 => if s11.2 < 0 then w_KReader_mixed L v6 (fun v110 σ109 => J13 (3, v110) σ109) σ12 else J13 (s11.1, s11.2) σ12)) (fun J9 => if v8 < 0 then w_KReader_word L v6 1126 (fun v113 σ112 => J9 (2, v113) σ112) σ else J9 (1, v8) σ) := by
  have ho := hL.2.1
  have r1 := rf_1 ho
  have hneg : ∀ q : Option Nat, enc (mvo p q) < 0 ↔ q = none := fun q => by
    cases q with
    | none => exact ⟨fun _ => rfl, fun _ => by show (-1 : Int) < 0; decide⟩
    | some i => exact ⟨fun z => absurd z (by show ¬ ((p + i : Nat) : Int) < 0; omega), fun z => by cases z⟩
  have h58 : σ.1 16 58 = (b : Int) := hq0.1
  refine WJ_of (fun (s11 : Int × Int) υ => υ = σ ∧ ((∃ c z, co = some c ∧ cnK T e c ≤ 1 ∧ cnt T e c = some z ∧ s11 = ((cnK T e c : Int) + 1, ((p + z : Nat) : Int))) ∨ (s11.2 = -1 ∧ ∀ c, co = some c → 2 ≤ cnK T e c))) (fun J hJ => ?_) ?_
  · cases co with
    | none =>
      have e1 : wd T e [69, 77, 80, 84, 89] none = none := rfl
      rw [hv8, e1, if_pos ((hneg none).mpr rfl)]
      refine kr_word hK hS none hv6 hco ti_1126 ?_
      exact hJ _ _ ⟨rfl, Or.inr ⟨rfl, fun c hc => by cases hc⟩⟩
    | some c =>
      rw [hv8, wd_mt]
      by_cases c1 : mt T e c [69, 77, 80, 84, 89] = true
      · have hk0 : cnK T e c = 0 := by unfold cnK; rw [if_pos c1]
        rw [if_pos c1, if_neg (fun z => by have := (hneg _).mp z; cases this)]
        refine hJ _ _ ⟨rfl, Or.inl ⟨c, c + 5, rfl, by omega, by unfold cnt; rw [if_pos hk0], by rw [hk0]; rfl⟩⟩
      · rw [if_neg c1, if_pos ((hneg none).mpr rfl)]
        refine kr_word hK hS (some c) hv6 hco ti_1126 ?_
        rw [wd_mt]
        by_cases c2 : mt T e c [65, 78, 89] = true
        · have hk1 : cnK T e c = 1 := by unfold cnK; rw [if_neg c1, if_pos c2]
          rw [if_pos c2]
          refine hJ _ _ ⟨rfl, Or.inl ⟨c, c + 3, rfl, by omega, by unfold cnt; rw [if_neg (by omega), if_pos hk1], by rw [hk1]; rfl⟩⟩
        · rw [if_neg c2]
          refine hJ _ _ ⟨rfl, Or.inr ⟨rfl, fun c' hc' => ?_⟩⟩
          cases hc'
          unfold cnK
          rw [if_neg c1, if_neg c2]
          split <;> omega
  rintro s11 υ ⟨rfl, h11⟩
  -- the two that are told at once
  rcases h11 with ⟨c, z, hc, hk, hz, rfl⟩ | ⟨hs, hk⟩
  · refine WJ_dir ?_
    try dsimp only
    rw [if_neg (by omega)]
    refine WJ_dir ?_
    try dsimp only
    rw [if_neg (by omega)]
    have hnx : nmX T e co = [] := by unfold nmX; rw [hc]; exact if_pos hk
    refine hB _ _ _ υ g h (by rw [hnx]; rfl) rfl (fun _ _ _ => rfl) (fun _ _ _ _ => rfl) (fun _ _ => rfl) (by rw [hc]; show _ = enc (mvo p (cnt T e c)); rw [hz]; rfl) (fun c' z' hc' hz' => ?_)
    rw [hc] at hc'
    cases hc'
    refine ⟨rfl, fun w => by omega, by rw [if_neg (by omega)]; exact hq0, fun w => by omega⟩
  have hnx : nmX T e co = mxW T e co := by
    unfold nmX
    cases co with
    | none => rfl
    | some c => exact if_neg (by have := hk c rfl; omega)
  rw [hnx] at hroom hcap
  refine WJ_of (fun (s15 : Int × Int) υ2 => s15 = (3, enc (mvo p ((mxQ T e co).bind (mxk T e (e + 1) false)))) ∧ ∃ g2, KZ rm nd o υ2 g2 ∧ gB g2 = kpL (gB g) (mxW T e co) ∧ g2.2 = g.2 ∧ KLq υ2 (gB g2) b (mxW T e co) ∧ (∀ p k, ¬ ((p = 13 ∧ (k = 1 ∨ k = 6)) ∨ (p = 16 ∧ k = 58)) → υ2.1 p k = υ.1 p k) ∧ (∀ r, ¬ (211 ≤ r ∧ r ≤ 215) → r ≠ 207 → υ2.2 r = υ.2 r) ∧ (∀ i, i < b → υ2.2 207 i = υ.2 207 i)) (fun J hJ => ?_) ?_
  · rw [if_pos (by omega)]
    refine sp_K_mixed (b := b) (l := []) co hL h hq0 hK hS hv6 hco (by rw [List.length_nil]; omega) hcap (fun τ g2 k1 k2 k3 k4 k5 k6 k7 => ?_)
    exact hJ _ _ ⟨rfl, g2, k1, k2, k3, k4, k5, k6, fun i hi => k7 i (by rw [List.length_nil]; omega)⟩
  rintro s15 υ2 ⟨rfl, g2, k1, k2, k3, k4, k5, k6, k7⟩
  try dsimp only
  refine WJ_dir ?_
  -- which of the two is left
  have hcnt : ∀ c, co = some c → cnt T e c = if cnK T e c = 2 then (mxQ T e co).bind (mxk T e (e + 1) false) else (mdl T e c).map (fun r => r.1) := fun c hc => by
    have h2 := hk c hc
    unfold cnt
    rw [if_neg (by omega), if_neg (by omega)]
    by_cases c2 : cnK T e c = 2
    · rw [if_pos c2, if_pos c2, hc, mxQ_some]
      have hm : mt T e (sk isSp T e (c + 1)) [35, 80, 67, 68, 65, 84, 65] = true := by
        unfold cnK at c2
        split at c2
        · omega
        · split at c2
          · omega
          · split at c2
            · assumption
            · omega
      by_cases c4 : mt T e c [40] = true
      · rw [if_pos c4, if_pos ⟨c4, hm⟩]; rfl
      · rw [if_neg c4, if_neg (fun z => c4 z.1)]; rfl
    · rw [if_neg c2, if_neg c2]
  have hQ2 : ∀ c, co = some c → cnK T e c ≠ 2 → mxQ T e co = none := fun c hc c2 => by
    rw [hc, mxQ_some, if_neg (fun z => ?_)]
    apply c2
    have h2 := hk c hc
    unfold cnK at h2 ⊢
    split at h2
    · omega
    · rename_i n1
      split at h2
      · omega
      · rename_i n2
        rw [if_neg n1, if_neg n2, if_pos z.2]
  cases hmx : (mxQ T e co).bind (mxk T e (e + 1) false) with
  | some z =>
    rw [if_neg (fun w => by have := (hneg _).mp w; cases this)]
    have hcs : ∃ c, co = some c := by
      cases co with
      | none => rw [show mxQ T e none = none from rfl] at hmx; cases hmx
      | some c => exact ⟨c, rfl⟩
    obtain ⟨c, hc⟩ := hcs
    have c2 : cnK T e c = 2 := by
      refine Classical.byContradiction (fun w => ?_)
      rw [hQ2 c hc w] at hmx
      cases hmx
    have hce := hcnt c hc
    rw [if_pos c2, hmx] at hce
    refine hB _ _ _ υ2 g2 k1 (by rw [hnx]; exact k2) k3 (fun pp kk w => k5 pp kk (by omega)) (fun r w1 w2 _ => k6 r w1 w2) k7 (by rw [hc]; show _ = enc (mvo p (cnt T e c)); rw [hce]) (fun c' z' hc' hz' => ?_)
    rw [hc] at hc'
    cases hc'
    refine ⟨by rw [c2]; rfl, fun w => by omega, by rw [if_pos c2, hnx]; exact k4, fun w => by omega⟩
  | none =>
    rw [if_pos ((hneg none).mpr rfl)]
    have F0 : ∀ pp kk, ¬ (pp = 16 ∧ kk = 58) → (pf υ2 16 58 (b : Int)).1 pp kk = υ2.1 pp kk := fun pp kk w => by rw [pf_1, if_neg w]
    have F0' : (pf υ2 16 58 (b : Int)).1 16 58 = (b : Int) := pf_eq
    have R0 : (pf υ2 16 58 (b : Int)).2 = υ2.2 := rfl
    generalize pf υ2 16 58 (b : Int) = υ3 at *
    have hZ3 : KZ rm nd o υ3 g2 := k1.dep ho (fun pp kk w => F0 pp kk (by omega)) (fun r w => by rw [R0])
    refine WJ_of (fun (s103 : Int) υ4 => (∀ pp kk, ¬ (pp = 16 ∧ (kk = 76 ∨ kk = 77)) → υ4.1 pp kk = υ3.1 pp kk) ∧ (∀ r, r ≠ 175 → υ4.2 r = υ3.2 r) ∧ s103 = enc (mvo p (co.bind (cnt T e))) ∧ ∀ c z, co = some c → cnt T e c = some z → cnK T e c = 3 ∧ ∀ r, mdl T e c = some r → υ4.1 16 76 = (r.2.1 : Int) ∧ υ4.1 16 77 = b1 (decide (60 < r.2.2))) (fun J hJ => ?_) ?_
    · cases co with
      | none =>
        rw [if_pos (by rw [hv6]; exact (hneg none).mpr rfl)]
        exact hJ _ _ ⟨fun _ _ _ => rfl, fun _ _ => rfl, rfl, fun c z hc => by cases hc⟩
      | some c =>
        rw [if_neg (by rw [hv6]; exact fun w => by have := (hneg _).mp w; cases this)]
        have hK3 : KT L υ3 (p + e) := by unfold KT; rw [F0 16 17 (by omega), k5 16 17 (by omega)]; exact hK
        have hS3 : SHT T (υ3.2 176) e p := by rw [R0, k6 176 (by omega) (by omega)]; exact hS
        have l175 : L 175 = 65536 := hL.2.2.2.2.2.2.2.2.2.2.2.2.2.2.1
        refine sp_K_model (c := c) l175 hK3 hS3 (hco c rfl) h65 (by rw [F0 16 76 (by omega), k5 16 76 (by omega)]; exact h76) (by rw [F0 16 77 (by omega), k5 16 77 (by omega)]; exact h77) hv6 (fun τ f1 f2 f3 => ?_)
        have hce := hcnt c rfl
        have hcm : cnt T e c = (mdl T e c).map (fun r => r.1) := by
          by_cases c2 : cnK T e c = 2
          · rw [if_pos c2, hmx] at hce
            have hm : mt T e (sk isSp T e (c + 1)) [35, 80, 67, 68, 65, 84, 65] = true := by
              unfold cnK at c2
              split at c2
              · omega
              · split at c2
                · omega
                · split at c2
                  · assumption
                  · omega
            rw [hce, mdl_mx hm]
            rfl
          · rw [if_neg c2] at hce; exact hce
        refine hJ _ _ ⟨f1, f2, ?_, fun c' z' hc' hz' => ?_⟩
        · show _ = enc (mvo p (cnt T e c))
          rw [hcm]
        · cases hc'
          have c3 : cnK T e c = 3 := by
            have h2 := hk c rfl
            have h3 : cnK T e c ≤ 3 := by unfold cnK; split; · omega
                                          · split; · omega
                                            · split <;> omega
            refine Classical.byContradiction (fun w => ?_)
            have c2 : cnK T e c = 2 := by omega
            rw [if_pos c2, hmx] at hce
            rw [hce] at hz'
            cases hz'
          exact ⟨c3, f3⟩
    rintro s103 υ4 ⟨f1, f2, f3, f4⟩
    try dsimp only
    have hZ4 : KZ rm nd o υ4 g2 := hZ3.dep ho (fun pp kk w => f1 pp kk (by omega)) (fun r w => f2 r (by omega))
    refine hB _ _ _ υ4 g2 hZ4 (by rw [hnx]; exact k2) k3 (fun pp kk w => ?_) (fun r w1 w2 w3 => ?_) (fun i hi => ?_) f3 (fun c' z' hc' hz' => ?_)
    · rw [f1 pp kk (by omega), F0 pp kk (by omega), k5 pp kk (by omega)]
    · rw [f2 r w3, R0, k6 r w1 w2]
    · rw [f2 207 (by decide), R0, k7 i hi]
    · obtain ⟨c3, f5⟩ := f4 c' z' hc' hz'
      refine ⟨by rw [c3]; rfl, fun _ => ?_, ?_, fun _ => f5⟩
      · rw [f3, hc']
        show enc (mvo p (cnt T e c')) = _
        rw [hz']
        rfl
      · rw [if_neg (by omega)]
        exact ⟨by rw [f1 16 58 (by omega), F0', List.length_nil]; rfl, fun k hk' => absurd hk' (Nat.not_lt_zero k)⟩
end Kel
