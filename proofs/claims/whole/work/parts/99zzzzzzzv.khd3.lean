/-! ===== the reference reads the head of a text ===== -/
section Khf
variable {L : Nat → Nat} {σ : IS} {e : Nat} {Q : IS → Prop} {wide : Bool}
theorem isHl_f {c : Int} : isHl false c = isDg c := by
  unfold isHl
  cases isDg c <;> rfl
theorem sp_K_head (hK : KT L σ e) (hc : chs σ e) (h3 : σ.1 16 3 = 0) (h8 : σ.1 16 8 = 0 ↔ wide = false) (he5 : 5 ≤ e) (hm5 : mt (σ.2 176) e 0 [60, 63, 120, 109, 108] = true) (hq : hOut (σ.2 176) wide Q σ (hdk (σ.2 176) e 0)) : w_KReader_head L Q σ := by
  have hK3 := hK.2.2
  have hdk' : hdk (σ.2 176) e 0 = match hdV (σ.2 176) e 0 with
    | none => none
    | some v => match hdE (σ.2 176) e v with
      | none => none
      | some (en, j) => hdR (σ.2 176) e en j := by
    unfold hdk hdR
    cases hdV (σ.2 176) e 0 <;> rfl
  rw [hdk'] at hq
  unfold w_KReader_head
  have hp5 : ple e (some 5) := fun i hi => by cases hi; exact he5
  refine sp_KReader_spaces hK (some 5) rfl hp5 ?_
  have hpl : ple e (spc (σ.2 176) e (some 5)) := fun i hi => (spc_gt he5 hi).2.1
  refine sp_word hK _ rfl hpl ti_1108 ?_
  have hpw : ple e (wd (σ.2 176) e [118, 101, 114, 115, 105, 111, 110] (spc (σ.2 176) e (some 5))) := wdl_le ti_1108 hpl
  refine sp_KReader_equal hK _ rfl hpw ?_
  have hpe : ple e (eqs (σ.2 176) e (wd (σ.2 176) e [118, 101, 114, 115, 105, 111, 110] (spc (σ.2 176) e (some 5)))) := by
    intro i hi
    cases hw : wd (σ.2 176) e [118, 101, 114, 115, 105, 111, 110] (spc (σ.2 176) e (some 5)) with
    | none => rw [hw] at hi; cases hi
    | some w => rw [hw] at hi; exact (eqs_gt (hpw w hw) hi).2
  have hV : hdV (σ.2 176) e 0 = match (match eqs (σ.2 176) e (wd (σ.2 176) e [118, 101, 114, 115, 105, 111, 110] (spc (σ.2 176) e (some 5))) with
      | none => none
      | some i => if isQt (lk (σ.2 176) e i) = true then some (i + 1) else none) with
    | none => none
    | some i => qcl (σ.2 176) e ((σ.2 176) (i - 1)) (lts false (σ.2 176) e (wd (σ.2 176) e [49, 46] (some i))) := by
    unfold hdV qof
    have e5 : wd (σ.2 176) e [60, 63, 120, 109, 108] (some 0) = some 5 := by
      unfold wd
      dsimp only
      rw [if_pos hm5]
      rfl
    rw [e5] <;> rfl
  generalize hk6 : eqs (σ.2 176) e (wd (σ.2 176) e [118, 101, 114, 115, 105, 111, 110] (spc (σ.2 176) e (some 5))) = k6 at *
  have hloop : ∀ (s9 s13 : Int) (m0 : Option Nat), s13 = enc m0 → (∀ m, m0 = some m → m ≤ e ∧ ∃ i, k6 = some i ∧ wd (σ.2 176) e [49, 46] (some (i + 1)) = some m ∧ s9 = lk (σ.2 176) e i ∧ isQt (lk (σ.2 176) e i) = true) → (m0 = none → hdV (σ.2 176) e 0 = none) → WL (fun (K15 : Int → IS → Prop) (s17 : Int) (σ18 : IS) => WJ (fun (s21 : Unit) (σ22 : IS) => WJ (fun (s25 : Int) (σ26 : IS) => w_KReader_written L s25 (fun v28 σ27 => if v28 = 0 then Q σ27 else wHe L Q s17 σ27) σ26) (fun J23 => WJ (fun (s179 : Unit) (σ180 : IS) => J23 (-1) σ180) (fun J177 => if ¬ s17 < 0 ∧ (¬ s17 = s13) then w_KReader_look L s17 (fun v182 σ181 => if v182 = s9 then J23 s17 σ181 else J177 () σ181) σ22 else J177 () σ22))) (fun J19 => if s17 < 0 then J19 () σ18 else w_KReader_look L s17 (fun v191 σ190 => w_K_isDigit L v191 (fun v193 σ192 => if v193 = 0 then J19 () σ192 else inR (s17 + 1) ∧ K15 (s17 + 1) σ192) σ190) σ18)) s13 σ := by
    intro s9 s13 m0 hs hm hno
    refine WL_ind (fun s ρ => ρ = σ ∧ ((m0 = none ∧ s = -1) ∨ ∃ m j : Nat, m0 = some m ∧ s = (j : Int) ∧ m ≤ j ∧ j ≤ e ∧ sk isDg (σ.2 176) e m = sk isDg (σ.2 176) e j)) (fun s _ => (e - s).toNat) ?_ s13 σ ⟨rfl, ?_⟩
    rotate_left
    · cases hm0 : m0 with
      | none => rw [hm0] at hs; exact Or.inl ⟨rfl, hs⟩
      | some m => rw [hm0] at hs; exact Or.inr ⟨m, m, rfl, hs, Nat.le_refl _, (hm m hm0).1, rfl⟩
    rintro s ρ ⟨rfl, hcase⟩ K hI
    try dsimp only
    rcases hcase with ⟨hn, rfl⟩ | ⟨m, j, hm0, rfl, hj1, hj2, hj3⟩
    · refine WJ_dir ?_
      try dsimp only
      rw [if_pos (by decide)]
      refine WJ_dir ?_
      refine WJ_dir ?_
      try dsimp only
      rw [if_neg (fun z => z.1 (by decide))]
      refine sp_K_written (x := none) rfl h3 (fun _ => ?_) (fun k hk => by cases hk)
      rw [if_pos rfl]
      rw [hno hn] at hq
      exact hq.1 rfl
    · obtain ⟨-, i, hi1, hi2, hi3, hi4⟩ := hm m hm0
      have hs13 : s13 = (m : Int) := by rw [hs, hm0]; rfl
      refine WJ_of (fun _ τ => τ = ρ ∧ sk isDg (ρ.2 176) e m = j) (fun J19 hJ => ?_) ?_
      · rw [if_neg (by omega)]
        refine sp_KReader_look hK j rfl (sp_K_isDigit ?_)
        cases c : isDg (lk (ρ.2 176) e j) with
        | true =>
          rw [if_neg (by decide)]
          have hje : j < e := by
            refine Classical.byContradiction fun z => ?_
            unfold lk at c
            rw [if_neg z] at c
            exact absurd c (by decide)
          rw [lk_b hje] at c
          exact ⟨⟨by omega, by omega⟩, hI _ _ ⟨rfl, Or.inr ⟨m, j + 1, hm0, by omega, by omega, by omega, by rw [hj3, sk_go hje c]⟩⟩ (by omega)⟩
        | false =>
          rw [if_pos (by decide)]
          refine hJ _ _ ⟨rfl, ?_⟩
          rw [hj3]
          by_cases hje : j < e
          · rw [lk_b hje] at c
            exact sk_stop c
          · exact sk_end (by omega)
      · rintro _ τ ⟨rfl, hsj⟩
        have hqi := lk_qt hi4
        have ef : isHl false = isDg := funext (fun c => isHl_f)
        have hV2 : hdV (τ.2 176) e 0 = if j = m then none else if lk (τ.2 176) e j = lk (τ.2 176) e i then some (j + 1) else none := by
          rw [hV, hi1]
          dsimp only
          rw [if_pos hi4]
          dsimp only
          rw [hi2]
          unfold lts
          dsimp only
          rw [ef, hsj]
          by_cases c : j = m
          · rw [if_pos c, if_pos c]
            rfl
          · rw [if_neg c, if_neg c]
            unfold qcl
            dsimp only
            rw [show i + 1 - 1 = i by omega, ← hqi.2]
        rw [hV2] at hq
        refine WJ_dir ?_
        refine WJ_dir ?_
        try dsimp only
        by_cases c : j = m
        · rw [if_neg (fun z => z.2 (by omega))]
          rw [if_pos c] at hq
          refine sp_K_written (x := none) rfl h3 (fun _ => ?_) (fun k hk => by cases hk)
          rw [if_pos rfl]
          exact hq.1 rfl
        · rw [if_pos ⟨by omega, by omega⟩]
          rw [if_neg c] at hq
          refine sp_KReader_look hK j rfl ?_
          rw [hi3]
          by_cases c2 : lk (τ.2 176) e j = lk (τ.2 176) e i
          · rw [if_pos c2] at hq ⊢
            have hje : j < e := by
              rw [← c2] at hi4
              exact (lk_qt hi4).1
            refine sp_K_written (x := some j) rfl h3 (fun z => by cases z) (fun k hk hv' => ?_)
            rw [if_neg (by decide)]
            exact sp_He (v := j) hK hc h3 h8 rfl hje hq
          · rw [if_neg c2] at hq ⊢
            refine sp_K_written (x := none) rfl h3 (fun _ => ?_) (fun k hk => by cases hk)
            rw [if_pos rfl]
            exact hq.1 rfl
  refine WJ_dir ?_
  try dsimp only
  cases hk : k6 with
  | none =>
    rw [if_pos (show enc none < 0 by decide)]
    refine WJ_dir ?_
    refine WJ_dir ?_
    try dsimp only
    rw [if_pos (show enc none < 0 by decide)]
    exact hloop 0 (-1) none rfl (fun m z => by cases z) (fun _ => by rw [hV, hk])
  | some i =>
    have hie := hpe i hk
    rw [if_neg (by show ¬ ((i : Nat) : Int) < 0; omega)]
    refine sp_KReader_look hK i rfl ?_
    refine WJ_dir ?_
    refine WJ_dir ?_
    try dsimp only
    rw [if_neg (by show ¬ ((i : Nat) : Int) < 0; omega)]
    refine sp_KReader_isQuote ?_
    have eq' : (lk (σ.2 176) e i == 34 || lk (σ.2 176) e i == 39) = isQt (lk (σ.2 176) e i) := rfl
    rw [eq']
    cases c : isQt (lk (σ.2 176) e i) with
    | false =>
      rw [if_pos (by decide)]
      refine hloop _ (-1) none rfl (fun m z => by cases z) (fun _ => ?_)
      rw [hV, hk]
      dsimp only
      rw [if_neg (by rw [c]; decide)]
    | true =>
      rw [if_neg (by decide)]
      have hi := lk_qt c
      have ei : enc (some i) = (i : Int) := rfl
      rw [ei]
      refine ⟨⟨by omega, by omega⟩, ?_⟩
      have hp1 : ple e (some (i + 1)) := fun y hy => by cases hy; omega
      refine sp_word hK (some (i + 1)) (by show (i : Int) + 1 = ((i + 1 : Nat) : Int); omega) hp1 ti_1109 ?_
      refine hloop _ _ (wd (σ.2 176) e [49, 46] (some (i + 1))) rfl (fun m z => ⟨wdl_le ti_1109 hp1 m z, i, hk, z, rfl, c⟩) (fun z => ?_)
      rw [hV, hk]
      dsimp only
      rw [if_pos c]
      dsimp only
      rw [z]
      rfl
end Khf
