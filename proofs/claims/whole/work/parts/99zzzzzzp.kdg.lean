/-! ===== the reference: defaults and definitions ===== -/
section Kdg
variable {L : Nat → Nat} {rm nd o : Nat} {σ ρ τ : IS} {g g' g2 : KG} {Q : IS → Prop} {R : Int → IS → Prop} {T : Nat → Int} {p e : Nat} {x y : Int} {l : List Str}
set_option maxHeartbeats 2000000 in
theorem sp_K_defaultAt (q : Option Nat) (hK : KT L σ (p + e)) (hc : chs σ (p + e)) (hS : SHT T (σ.2 176) e p) (hx : x = enc (mvo p q)) (hqe : ple e q) (hq : ∀ τ, (∀ pp kk, ¬ (pp = 16 ∧ (kk = 81 ∨ kk = 82)) → τ.1 pp kk = σ.1 pp kk) → τ.2 = σ.2 → (∀ i z, q = some i → dft T e i = some z → τ.1 16 81 = (dfK T e i : Int) ∧ τ.1 16 82 = enc (mvo p (dfV T e i))) → R (enc (mvo p (q.bind (dft T e)))) τ) : w_KReader_defaultAt L x R σ := by
  subst hx
  have hK2 := hK.2.2
  have hneg : ∀ w : Option Nat, enc (mvo p w) < 0 ↔ w = none := fun w => by
    cases w with
    | none => exact ⟨fun _ => rfl, fun _ => by show (-1 : Int) < 0; decide⟩
    | some i => exact ⟨fun z => absurd z (by show ¬ ((p + i : Nat) : Int) < 0; omega), fun z => by cases z⟩
  unfold w_KReader_defaultAt
  have F0 : ∀ pp kk, ¬ (pp = 16 ∧ kk = 82) → (pf σ 16 82 (-1)).1 pp kk = σ.1 pp kk := fun pp kk z => by rw [pf_1, if_neg z]
  have F2 : (pf σ 16 82 (-1)).1 16 82 = -1 := pf_eq
  have R0 : (pf σ 16 82 (-1)).2 = σ.2 := rfl
  generalize pf σ 16 82 (-1) = σ0 at *
  have hK0 : KT L σ0 (p + e) := by unfold KT; rw [F0 16 17 (by omega)]; exact hK
  have hS0 : SHT T (σ0.2 176) e p := by rw [R0]; exact hS
  refine kr_word hK0 hS0 q rfl hqe ti_1141 ?_
  -- the state after the words
  refine WJ_of (fun (s5 : Int) υ => (∀ pp kk, ¬ (pp = 16 ∧ kk = 81) → υ.1 pp kk = σ0.1 pp kk) ∧ υ.2 = σ0.2 ∧ ((∃ i z, q = some i ∧ dfK T e i ≤ 2 ∧ dft T e i = some z ∧ s5 = ((p + z : Nat) : Int) ∧ υ.1 16 81 = (dfK T e i : Int)) ∨ (s5 = -1 ∧ ∀ i, q = some i → 3 ≤ dfK T e i))) (fun J hJ => ?_) ?_
  · cases q with
    | none =>
      have e1 : wd T e [35, 82, 69, 81, 85, 73, 82, 69, 68] none = none := rfl
      rw [e1, if_pos ((hneg none).mpr rfl)]
      have hK1 : KT L (pf σ0 16 81 1) (p + e) := by unfold KT; rw [pf_nk (by decide)]; exact hK0
      refine kr_word hK1 hS0 none rfl hqe ti_1142 ?_
      exact hJ _ _ ⟨fun pp kk z => by rw [pf_1, if_neg z, pf_1, if_neg z], rfl, Or.inr ⟨rfl, fun i hi => by cases hi⟩⟩
    | some i =>
      rw [wd_mt]
      by_cases c1 : mt T e i [35, 82, 69, 81, 85, 73, 82, 69, 68] = true
      · have hk1 : dfK T e i = 1 := by unfold dfK; rw [if_pos c1]
        rw [if_pos c1, if_neg (fun z => by have := (hneg _).mp z; cases this)]
        refine hJ _ _ ⟨fun pp kk z => by rw [pf_1, if_neg z], rfl, Or.inl ⟨i, i + 9, rfl, by omega, by unfold dft; rw [if_pos hk1], rfl, by rw [pf_eq, hk1]; rfl⟩⟩
      · rw [if_neg c1, if_pos ((hneg none).mpr rfl)]
        have hK1 : KT L (pf σ0 16 81 1) (p + e) := by unfold KT; rw [pf_nk (by decide)]; exact hK0
        refine kr_word hK1 hS0 (some i) rfl hqe ti_1142 ?_
        rw [wd_mt]
        by_cases c2 : mt T e i [35, 73, 77, 80, 76, 73, 69, 68] = true
        · have hk2 : dfK T e i = 2 := by unfold dfK; rw [if_neg c1, if_pos c2]
          rw [if_pos c2]
          refine hJ _ _ ⟨fun pp kk z => by rw [pf_1, if_neg z, pf_1, if_neg z], rfl, Or.inl ⟨i, i + 8, rfl, by omega, by unfold dft; rw [if_neg (by omega), if_pos hk2], rfl, by rw [pf_eq, hk2]; rfl⟩⟩
        · rw [if_neg c2]
          refine hJ _ _ ⟨fun pp kk z => by rw [pf_1, if_neg z, pf_1, if_neg z], rfl, Or.inr ⟨rfl, fun j hj => ?_⟩⟩
          cases hj
          unfold dfK
          rw [if_neg c1, if_neg c2]
          split <;> omega
  rintro s5 υ ⟨f1, f2, h5⟩
  refine WJ_dir ?_
  rcases h5 with ⟨i, z, hqi, hk, hz, hs, h81⟩ | ⟨hs, hk⟩
  · rw [if_neg (by omega)]
    have hdv : dfV T e i = none := by
      unfold dfV
      rw [if_neg (by omega), if_neg (by omega)]
    have := hq υ (fun pp kk w => by rw [f1 pp kk (by omega), F0 pp kk (by omega)]) (by rw [f2, R0]) (fun j w hj hw => by
      rw [hqi] at hj
      cases hj
      rw [hdv]
      exact ⟨h81, by rw [f1 16 82 (by omega)]; exact F2⟩)
    rw [hqi] at this
    have e2 : (some i).bind (dft T e) = some z := hz
    rw [e2] at this
    rw [hs]
    exact this
  · rw [if_pos (by omega)]
    have hKυ : KT L υ (p + e) := by unfold KT; rw [f1 16 17 (by omega)]; exact hK0
    have hSυ : SHT T (υ.2 176) e p := by rw [f2]; exact hS0
    refine kr_word hKυ hSυ q rfl hqe ti_1143 ?_
    have plw : ple e (wd T e [35, 70, 73, 88, 69, 68] q) := fun j hj => wdl_le ti_1143 hqe _ hj
    refine kr_spc hKυ hSυ _ rfl plw ?_
    -- where the value is looked for
    have hvf : ∃ vf : Option Nat, ple e vf ∧ (if enc (mvo p (spc T e (wd T e [35, 70, 73, 88, 69, 68] q))) < 0 then enc (mvo p q) else enc (mvo p (spc T e (wd T e [35, 70, 73, 88, 69, 68] q)))) = enc (mvo p vf) ∧ vlp T e vf = q.bind (dft T e) ∧ ∀ i z, q = some i → dft T e i = some z → (if enc (mvo p (spc T e (wd T e [35, 70, 73, 88, 69, 68] q))) < 0 then (4 : Int) else 3) = (dfK T e i : Int) ∧ vf = dfV T e i := by
      cases q with
      | none => exact ⟨none, fun j hj => (by cases hj), rfl, rfl, fun i z hi => (by cases hi)⟩
      | some i =>
        have h3 := hk i rfl
        have hie := hqe i rfl
        have hdt : dft T e i = vlp T e (dfV T e i) := by unfold dft; rw [if_neg (by omega), if_neg (by omega)]
        have hn1 : ¬ mt T e i [35, 82, 69, 81, 85, 73, 82, 69, 68] = true := fun z => by
          unfold dfK at h3
          rw [if_pos z] at h3
          omega
        have hn2 : ¬ mt T e i [35, 73, 77, 80, 76, 73, 69, 68] = true := fun z => by
          unfold dfK at h3
          rw [if_neg hn1, if_pos z] at h3
          omega
        rw [wd_mt]
        by_cases c3 : mt T e i [35, 70, 73, 88, 69, 68] = true
        · have hk3 : dfK T e i = 3 := by unfold dfK; rw [if_neg hn1, if_neg hn2, if_pos c3]
          have hle := mt_le _ i (by decide) hie c3
          have h6l : ([35, 70, 73, 88, 69, 68] : List Int).length = 6 := rfl
          have hdv : dfV T e i = spc T e (some (i + 6)) := by unfold dfV; rw [if_neg (by omega), if_pos hk3]
          rw [if_pos c3]
          cases hsp : spc T e (some (i + 6)) with
          | none =>
            rw [if_pos ((hneg none).mpr rfl), if_pos ((hneg none).mpr rfl)]
            have hvn : vlp T e (some i) = none := by
              have hc35 : lk T e i = 35 := mt_hd c3
              show (if isQt (lk T e i) = true then vlg T e (T i) (e + 1) (i + 1) else none) = none
              rw [hc35]
              rfl
            have hd0 : dft T e i = none := by rw [hdt, hdv, hsp]; rfl
            refine ⟨some i, hqe, rfl, ?_, fun j z hj hz => ?_⟩
            · show vlp T e (some i) = dft T e i
              rw [hvn, hd0]
            · cases hj
              rw [hd0] at hz
              cases hz
          | some f =>
            rw [if_neg (fun z => by have := (hneg _).mp z; cases this), if_neg (fun z => by have := (hneg _).mp z; cases this)]
            refine ⟨some f, ?_, rfl, ?_, fun j z hj hz => ?_⟩
            · rw [← hsp]; exact spc_le (fun j hj => by cases hj; omega)
            · show vlp T e (some f) = dft T e i
              rw [hdt, hdv, hsp]
            · cases hj
              exact ⟨by rw [hk3]; rfl, by rw [hdv, hsp]⟩
        · have hk4 : dfK T e i = 4 := by unfold dfK; rw [if_neg hn1, if_neg hn2, if_neg c3]
          have hdv : dfV T e i = some i := by unfold dfV; rw [if_pos hk4]
          rw [if_neg c3]
          have e3 : spc T e none = none := rfl
          rw [e3, if_pos ((hneg none).mpr rfl), if_pos ((hneg none).mpr rfl)]
          refine ⟨some i, hqe, rfl, ?_, fun j z hj hz => ?_⟩
          · show vlp T e (some i) = dft T e i
            rw [hdt, hdv]
          · cases hj
            exact ⟨by rw [hk4]; rfl, hdv.symm⟩
    obtain ⟨vf, v1, v2, v3, v4⟩ := hvf
    rw [v2]
    have F3 : ∀ pp kk, ¬ (pp = 16 ∧ (kk = 81 ∨ kk = 82)) → (pf (pf υ 16 81 (if enc (mvo p (spc T e (wd T e [35, 70, 73, 88, 69, 68] q))) < 0 then (4 : Int) else 3)) 16 82 (enc (mvo p vf))).1 pp kk = σ.1 pp kk := fun pp kk w => by rw [pf_1, if_neg (by omega), pf_1, if_neg (by omega), f1 pp kk (by omega), F0 pp kk (by omega)]
    have F81 : (pf (pf υ 16 81 (if enc (mvo p (spc T e (wd T e [35, 70, 73, 88, 69, 68] q))) < 0 then (4 : Int) else 3)) 16 82 (enc (mvo p vf))).1 16 81 = (if enc (mvo p (spc T e (wd T e [35, 70, 73, 88, 69, 68] q))) < 0 then (4 : Int) else 3) := by rw [pf_nk (by decide), pf_eq]
    have F82 : (pf (pf υ 16 81 (if enc (mvo p (spc T e (wd T e [35, 70, 73, 88, 69, 68] q))) < 0 then (4 : Int) else 3)) 16 82 (enc (mvo p vf))).1 16 82 = enc (mvo p vf) := pf_eq
    have R3 : (pf (pf υ 16 81 (if enc (mvo p (spc T e (wd T e [35, 70, 73, 88, 69, 68] q))) < 0 then (4 : Int) else 3)) 16 82 (enc (mvo p vf))).2 = σ.2 := by rw [pf_2, pf_2, f2, R0]
    generalize pf (pf υ 16 81 (if enc (mvo p (spc T e (wd T e [35, 70, 73, 88, 69, 68] q))) < 0 then (4 : Int) else 3)) 16 82 (enc (mvo p vf)) = υ3 at *
    have hK3 : KT L υ3 (p + e) := by unfold KT; rw [F3 16 17 (by omega)]; exact hK
    have hc3 : chs υ3 (p + e) := fun i hi => by rw [R3]; exact hc i hi
    refine kr_value hK3 hc3 (by rw [R3]; exact hS) vf rfl v1 ?_
    rw [v3]
    exact hq υ3 F3 R3 (fun i z hi hz => by
      obtain ⟨w1, w2⟩ := v4 i z hi hz
      exact ⟨by rw [F81]; exact w1, by rw [F82, w2]⟩)
theorem tyK_le {i z : Nat} (hi : i ≤ e) (h : tyK T e i = some z) : z ≤ e := by
  unfold tyK at h
  by_cases c40 : lk T e i = 40
  · rw [if_pos c40] at h
    exact (brt_gt h).2
  · rw [if_neg c40] at h
    by_cases c8 : mt T e i [78, 79, 84, 65, 84, 73, 79, 78] = true
    · rw [if_pos c8] at h
      cases hs : spc T e (some (i + 8)) with
      | none => rw [hs] at h; cases h
      | some y => rw [hs] at h; exact (brt_gt h).2
    · rw [if_neg c8] at h
      cases hk : kty T e i 8 with
      | none => rw [hk] at h; cases h
      | some t =>
        rw [hk] at h
        obtain ⟨k1, k2, -⟩ := kty_some hk
        have := mt_le _ i (tyw_ne t (by omega)).2.1 hi k2
        have hz : i + (tyT.getD t []).length = z := Option.some.inj h
        omega
/-- what a definition leaves in the reader -/
def DFx (T : Nat → Int) (e p xx : Nat) (b : Nat) (τ : IS) : Prop := ∀ z, dfn T e xx = some z → ∃ y w, spc T e (nmg T e true (some xx)) = some y ∧ spc T e (typ T e y) = some w ∧ dft T e w = some z ∧ τ.1 16 78 = (atyN T e y : Int) ∧ τ.1 16 79 = (b : Int) ∧ τ.1 16 81 = (dfK T e w : Int) ∧ τ.1 16 82 = enc (mvo p (dfV T e w))
set_option maxHeartbeats 2000000 in
theorem sp_K_definition {b xx : Nat} (hL : KLn L o rm nd) (h : KZ rm nd o σ g) (hq0 : KLq σ (gB g) b l) (hK : KT L σ (p + e)) (hc : chs σ (p + e)) (hS : SHT T (σ.2 176) e p) (hx : x = ((p + xx : Nat) : Int)) (hxe : xx ≤ e) (hroom : b + l.length + (tyWo T e (spc T e (nmg T e true (some xx)))).length ≤ 50000) (hcap : kcL (gB g) (tyWo T e (spc T e (nmg T e true (some xx))))) (hq : ∀ τ g2, KZ rm nd o τ g2 → gB g2 = kpL (gB g) (tyWo T e (spc T e (nmg T e true (some xx)))) → g2.2 = g.2 → KLq τ (gB g2) b (l ++ tyWo T e (spc T e (nmg T e true (some xx)))) → (∀ p k, ¬ ((p = 13 ∧ (k = 1 ∨ k = 6)) ∨ (p = 16 ∧ (k = 58 ∨ k = 78 ∨ k = 79 ∨ k = 81 ∨ k = 82))) → τ.1 p k = σ.1 p k) → (∀ r, ¬ (211 ≤ r ∧ r ≤ 215) → r ≠ 207 → τ.2 r = σ.2 r) → (∀ i, i < b + l.length → τ.2 207 i = σ.2 207 i) → DFx T e p xx (b + l.length) τ → R (enc (mvo p (dfn T e xx))) τ) : w_KReader_definition L x R σ := by
  subst hx
  have plx : ple e (some xx) := fun i hi => by cases hi; exact hxe
  unfold w_KReader_definition
  refine kr_name hK hS (some xx) rfl plx ?_
  refine kr_spc hK hS _ rfl nmg_le ?_
  have ply : ple e (spc T e (nmg T e true (some xx))) := spc_le nmg_le
  refine sp_K_typeAt (b := b) (l := l) _ hL h hq0 hK hS rfl ply hroom hcap (fun τ g2 k1 k2 k3 k4 k5 k6 k7 k8 k9 => ?_)
  have hKτ : KT L τ (p + e) := by unfold KT; rw [k5 16 17 (by omega)]; exact hK
  have h176 : τ.2 176 = σ.2 176 := k6 176 (by omega) (by omega)
  have hSτ : SHT T (τ.2 176) e p := by rw [h176]; exact hS
  have hcτ : chs τ (p + e) := fun i hi => by rw [h176]; exact hc i hi
  generalize hyo : spc T e (nmg T e true (some xx)) = yo at *
  have hsb : spc T e (yo.bind (tyK T e)) = spc T e (yo.bind (typ T e)) := by
    cases yo with
    | none => rfl
    | some y => exact tyK_eq.1
  have plt : ple e (yo.bind (tyK T e)) := by
    intro i hi
    cases yo with
    | none => cases hi
    | some y => exact tyK_le (ply y rfl) hi
  refine kr_spc hKτ hSτ _ rfl plt ?_
  rw [hsb]
  have plw : ple e (spc T e (yo.bind (typ T e))) := by rw [← hsb]; exact spc_le plt
  refine sp_K_defaultAt _ hKτ hcτ hSτ rfl plw (fun υ f1 f2 f3 => ?_)
  have hdf : dfn T e xx = (spc T e (yo.bind (typ T e))).bind (dft T e) := by
    unfold dfn
    rw [hyo]
    cases yo with
    | none => rfl
    | some y =>
      show (match spc T e (typ T e y) with
        | none => none
        | some w => dft T e w) = (spc T e (typ T e y)).bind (dft T e)
      cases spc T e (typ T e y) <;> rfl
  rw [← hdf]
  have ho := hL.2.1
  have r1 := rf_1 ho
  refine hq υ g2 (k1.dep ho (fun pp kk z => f1 pp kk (by omega)) (fun r z => by rw [f2])) k2 k3 ⟨by rw [f1 16 58 (by omega)]; exact k4.1, fun k hk => by rw [f2]; exact k4.2 k hk⟩ (fun pp kk z => by rw [f1 pp kk (by omega), k5 pp kk (by omega)]) (fun r z1 z2 => by rw [f2, k6 r z1 z2]) (fun i hi => by rw [f2, k7 i hi]) (fun z hz => ?_)
  rw [hdf] at hz
  cases yo with
  | none => cases hz
  | some y =>
    have hz : (spc T e (typ T e y)).bind (dft T e) = some z := hz
    cases hw : spc T e (typ T e y) with
    | none => rw [hw] at hz; cases hz
    | some w =>
      rw [hw] at hz
      have hz : dft T e w = some z := hz
      obtain ⟨t1, t2, -⟩ := tyK_eq.2 w hw
      obtain ⟨m1, m2⟩ := f3 w z (by show spc T e (typ T e y) = some w; exact hw) hz
      refine ⟨y, w, hyo, hw, hz, ?_, ?_, m1, m2⟩
      · rw [f1 16 78 (by omega), k9 y rfl, t2]
      · rw [f1 16 79 (by omega)]; exact k8
end Kdg
