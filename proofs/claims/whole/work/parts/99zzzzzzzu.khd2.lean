/-! ===== the reference reads the head of a text: encoding and version ===== -/
section Khe
variable {L : Nat → Nat} {σ : IS} {e : Nat} {Q : IS → Prop} {R : Int → IS → Prop} {wide : Bool}
theorem isHl_cs {c : Int} : isHl true c = (isLt c || (isDg c || (c == 46 || (c == 95 || c == 45)))) := by
  unfold isHl
  cases isDg c <;> cases isLt c <;> simp
theorem sp_He {v : Nat} {s17 : Int} (hK : KT L σ e) (hc : chs σ e) (h3 : σ.1 16 3 = 0) (h8 : σ.1 16 8 = 0 ↔ wide = false) (hs : s17 = (v : Int)) (hv : v < e)
    (hq : hOut (σ.2 176) wide Q σ (match hdE (σ.2 176) e (v + 1) with
      | none => none
      | some (en, j) => hdR (σ.2 176) e en j)) : wHe L Q s17 σ := by
  have hK3 := hK.2.2
  subst hs
  have hsk := sk_le (p := isSp) (T := σ.2 176) (e := e) (i := v + 1) (by omega)
  unfold wHe
  refine ⟨⟨by omega, by omega⟩, ?_⟩
  have ev1 : (v : Int) + 1 = ((v + 1 : Nat) : Int) := by omega
  rw [ev1]
  have hpj : ple e (some (v + 1)) := fun i hi => by cases hi; omega
  refine sp_KReader_spaces hK (some (v + 1)) rfl hpj ?_
  have hpl : ple e (spc (σ.2 176) e (some (v + 1))) := fun i hi => (spc_gt (by omega) hi).2.1
  refine sp_word hK _ rfl hpl ti_1110 ?_
  have hpw : ple e (wd (σ.2 176) e [101, 110, 99, 111, 100, 105, 110, 103] (spc (σ.2 176) e (some (v + 1)))) := wdl_le ti_1110 hpl
  refine sp_KReader_equal hK _ rfl hpw ?_
  refine sp_KReader_spaces hK (some (v + 1)) rfl hpj ?_
  refine sp_word hK _ rfl hpl ti_1110 ?_
  refine WJ_dir ?_
  try dsimp only
  have hpe : ple e (eqs (σ.2 176) e (wd (σ.2 176) e [101, 110, 99, 111, 100, 105, 110, 103] (spc (σ.2 176) e (some (v + 1))))) := by
    intro i hi
    cases hw : wd (σ.2 176) e [101, 110, 99, 111, 100, 105, 110, 103] (spc (σ.2 176) e (some (v + 1))) with
    | none => rw [hw] at hi; cases hi
    | some w => rw [hw] at hi; exact (eqs_gt (hpw w hw) hi).2
  cases hw : wd (σ.2 176) e [101, 110, 99, 111, 100, 105, 110, 103] (spc (σ.2 176) e (some (v + 1))) with
  | none =>
    rw [if_pos (show enc none < 0 by decide)]
    have hE : hdE (σ.2 176) e (v + 1) = some (none, v + 1) := by
      unfold hdE
      rw [if_neg]
      rintro ⟨y1, y2⟩
      have : spc (σ.2 176) e (some (v + 1)) = some (sk isSp (σ.2 176) e (v + 1)) := if_neg y1
      rw [this] at hw
      have hw' : (if mt (σ.2 176) e (sk isSp (σ.2 176) e (v + 1)) [101, 110, 99, 111, 100, 105, 110, 103] = true then some (sk isSp (σ.2 176) e (v + 1) + 8) else none) = none := hw
      rw [if_pos y2] at hw'
      cases hw'
    rw [hE] at hq
    exact sp_Hs (s42 := (((v + 1 : Nat) : Int), 0, 0)) (j := v + 1) (en := none) hK hc h3 h8 rfl (by omega) ⟨fun _ => rfl, fun i n z => by cases z⟩ hq
  | some w =>
    rw [hw] at hpe
    rw [if_neg (by show ¬ ((w : Nat) : Int) < 0; omega)]
    obtain ⟨hsp, hmt, hw2⟩ : spc (σ.2 176) e (some (v + 1)) = some (sk isSp (σ.2 176) e (v + 1)) ∧ mt (σ.2 176) e (sk isSp (σ.2 176) e (v + 1)) [101, 110, 99, 111, 100, 105, 110, 103] = true ∧ sk isSp (σ.2 176) e (v + 1) ≠ v + 1 := by
      by_cases y : sk isSp (σ.2 176) e (v + 1) = v + 1
      · have : spc (σ.2 176) e (some (v + 1)) = none := if_pos y
        rw [this] at hw; cases hw
      · have h1 : spc (σ.2 176) e (some (v + 1)) = some (sk isSp (σ.2 176) e (v + 1)) := if_neg y
        rw [h1] at hw
        have hw' : (if mt (σ.2 176) e (sk isSp (σ.2 176) e (v + 1)) [101, 110, 99, 111, 100, 105, 110, 103] = true then some (sk isSp (σ.2 176) e (v + 1) + 8) else none) = some w := hw
        split at hw'
        · rename_i c; exact ⟨h1, c, y⟩
        · cases hw'
    have hE : hdE (σ.2 176) e (v + 1) = hdE1 (σ.2 176) e (match eqs (σ.2 176) e (some w) with
      | none => none
      | some i => if isQt (lk (σ.2 176) e i) = true then some (i + 1) else none) := by
      unfold hdE
      rw [if_pos ⟨hw2, hmt⟩, ← hsp]
      unfold qof
      rw [hw] <;> rfl
    -- how it ends badly: the loop is not gone through
    have hloop : ∀ (s102 s106 : Int) (m0 : Option Nat), s106 = enc m0 → (∀ m, m0 = some m → m ≤ e ∧ ∃ i, eqs (σ.2 176) e (some w) = some i ∧ m = i + 2 ∧ s102 = lk (σ.2 176) e i ∧ isQt (lk (σ.2 176) e i) = true ∧ isLt (lk (σ.2 176) e (i + 1)) = true) → (m0 = none → hdE (σ.2 176) e (v + 1) = none) → WL (fun (K108 : Int → IS → Prop) (s110 : Int) (σ111 : IS) => WJ (fun (s114 : Unit) (σ115 : IS) => WJ (fun (s118 : Int) (σ119 : IS) => w_KReader_written L s118 (fun v121 σ120 => if v121 = 0 then Q σ120 else inR (enc (eqs (σ.2 176) e (some w)) + 1) ∧ inR (s110 + 1) ∧ wHs L Q ((s110 + 1), (enc (eqs (σ.2 176) e (some w)) + 1), s110) σ120) σ119) (fun J116 => WJ (fun (s127 : Unit) (σ128 : IS) => J116 (-1) σ128) (fun J125 => if s110 < 0 then J125 () σ115 else w_KReader_look L s110 (fun v131 σ130 => if v131 = s102 then J116 s110 σ130 else J125 () σ130) σ115))) (fun J112 => if s110 < 0 then J112 () σ111 else w_KReader_look L s110 (fun v135 σ134 => w_K_isLetter L v135 (fun v137 σ136 => WJ (fun (s140 : Unit) (σ141 : IS) => inR (s110 + 1) ∧ K108 (s110 + 1) σ141) (fun J138 => if v137 = 0 then w_KReader_look L s110 (fun v145 σ144 => w_K_isDigit L v145 (fun v147 σ146 => if v147 = 0 then w_KReader_look L s110 (fun v150 σ149 => if v150 = 46 then J138 () σ149 else w_KReader_look L s110 (fun v153 σ152 => if v153 = 95 then J138 () σ152 else w_KReader_look L s110 (fun v156 σ155 => if v156 = 45 then J138 () σ155 else J112 () σ155) σ152) σ149) σ146 else J138 () σ146) σ144) σ136 else J138 () σ136)) σ134) σ111)) s106 σ := by
      intro s102 s106 m0 hs hm hno
      refine WL_ind (fun s ρ => ρ = σ ∧ ((m0 = none ∧ s = -1) ∨ ∃ m j : Nat, m0 = some m ∧ s = (j : Int) ∧ m ≤ j ∧ j ≤ e ∧ sk (isHl true) (σ.2 176) e m = sk (isHl true) (σ.2 176) e j)) (fun s _ => (e - s).toNat) ?_ s106 σ ⟨rfl, ?_⟩
      rotate_left
      · cases hm0 : m0 with
        | none => rw [hm0] at hs; exact Or.inl ⟨rfl, hs⟩
        | some m => rw [hm0] at hs; exact Or.inr ⟨m, m, rfl, hs, Nat.le_refl _, (hm m hm0).1, rfl⟩
      rintro s ρ ⟨rfl, hcase⟩ K hI
      try dsimp only
      rcases hcase with ⟨hn, rfl⟩ | ⟨m, j, hm0, rfl, hj1, hj2, hj3⟩
      · refine WJ_dir ?_
        try dsimp only
        rw [if_pos (by decide)]
        refine WJ_dir ?_
        refine WJ_dir ?_
        try dsimp only
        rw [if_pos (by decide)]
        refine sp_K_written (x := none) rfl h3 (fun _ => ?_) (fun k hk => by cases hk)
        rw [if_pos rfl]
        rw [hno hn] at hq
        exact hq.1 rfl
      · obtain ⟨-, i, hi1, hi2, hi3, hi4, hi5⟩ := hm m hm0
        refine WJ_of (fun _ τ => τ = ρ ∧ sk (isHl true) (ρ.2 176) e m = j) (fun J112 hJ => ?_) ?_
        · rw [if_neg (by omega)]
          have hcont : isHl true (lk (ρ.2 176) e j) = true → inR ((j : Int) + 1) ∧ K ((j : Int) + 1) ρ := by
            intro hh
            have hje : j < e := by
              refine Classical.byContradiction fun z => ?_
              unfold lk at hh
              rw [if_neg z] at hh
              exact absurd hh (by decide)
            rw [lk_b hje] at hh
            exact ⟨⟨by omega, by omega⟩, hI _ _ ⟨rfl, Or.inr ⟨m, j + 1, hm0, by omega, by omega, by omega, by rw [hj3, sk_go hje hh]⟩⟩ (by omega)⟩
          have hexit : isHl true (lk (ρ.2 176) e j) = false → J112 () ρ := by
            intro hh
            refine hJ _ _ ⟨rfl, ?_⟩
            rw [hj3]
            by_cases hje : j < e
            · rw [lk_b hje] at hh
              exact sk_stop hh
            · exact sk_end (by omega)
          rw [isHl_cs] at hcont hexit
          refine sp_KReader_look hK j rfl (sp_K_isLetter ?_)
          refine WJ_dir ?_
          try dsimp only
          cases c1 : isLt (lk (ρ.2 176) e j) with
          | true =>
            rw [if_neg (by decide)]
            exact hcont (by rw [c1]; rfl)
          | false =>
            rw [c1] at hcont hexit
            rw [if_pos (by decide)]
            refine sp_KReader_look hK j rfl (sp_K_isDigit ?_)
            cases c2 : isDg (lk (ρ.2 176) e j) with
            | true =>
              rw [if_neg (by decide)]
              exact hcont (by rw [c2]; rfl)
            | false =>
              rw [c2] at hcont hexit
              rw [if_pos (by decide)]
              refine sp_KReader_look hK j rfl ?_
              by_cases c3 : lk (ρ.2 176) e j = 46
              · rw [if_pos c3]
                exact hcont (by rw [c3]; rfl)
              · rw [if_neg c3]
                refine sp_KReader_look hK j rfl ?_
                by_cases c4 : lk (ρ.2 176) e j = 95
                · rw [if_pos c4]
                  exact hcont (by rw [c4]; rfl)
                · rw [if_neg c4]
                  refine sp_KReader_look hK j rfl ?_
                  by_cases c5 : lk (ρ.2 176) e j = 45
                  · rw [if_pos c5]
                    exact hcont (by rw [c5]; rfl)
                  · rw [if_neg c5]
                    refine hexit ?_
                    simp [c3, c4, c5]
        · rintro _ τ ⟨rfl, hsj⟩
          have hqi := lk_qt hi4
          have hne : sk (isHl true) (τ.2 176) e (i + 1) = j := by
            have hl1 : i + 1 < e := by
              refine Classical.byContradiction fun z => ?_
              unfold lk at hi5
              rw [if_neg z] at hi5
              exact absurd hi5 (by decide)
            rw [lk_b hl1] at hi5
            rw [sk_go hl1 (by rw [isHl_cs, hi5]; rfl)]
            rw [hi2] at hsj
            exact hsj
          have hE2 : hdE (τ.2 176) e (v + 1) = if lk (τ.2 176) e j = lk (τ.2 176) e i then some (some (i + 1, j - (i + 1)), j + 1) else none := by
            rw [hE, hi1]
            dsimp only
            rw [if_pos hi4]
            unfold hdE1
            dsimp only
            rw [if_pos hi5]
            have hlt : lts true (τ.2 176) e (some (i + 1)) = some j := by
              unfold lts
              dsimp only
              rw [hne, if_neg (by omega)]
            rw [hlt, hne]
            unfold qcl
            dsimp only
            rw [show i + 1 - 1 = i by omega, ← hqi.2]
            by_cases c : lk (τ.2 176) e j = lk (τ.2 176) e i
            · rw [if_pos c, if_pos c]
            · rw [if_neg c, if_neg c]
          rw [hE2] at hq
          refine WJ_dir ?_
          refine WJ_dir ?_
          try dsimp only
          rw [if_neg (by omega)]
          refine sp_KReader_look hK j rfl ?_
          rw [hi3]
          by_cases c : lk (τ.2 176) e j = lk (τ.2 176) e i
          · rw [if_pos c] at hq ⊢
            have hje : j < e := by
              rw [← c] at hi4
              exact (lk_qt hi4).1
            refine sp_K_written (x := some j) rfl h3 (fun z => by cases z) (fun k hk hv' => ?_)
            rw [if_neg (by decide), hi1]
            refine ⟨⟨by show _ ≤ ((i : Nat) : Int) + 1; omega, by show ((i : Nat) : Int) + 1 ≤ _; omega⟩, ⟨by omega, by omega⟩, ?_⟩
            refine sp_Hs (j := j + 1) (en := some (i + 1, j - (i + 1))) hK hc h3 h8 (by show (j : Int) + 1 = ((j + 1 : Nat) : Int); omega) (by omega) ⟨fun z => (by cases z), fun i' n' z => ?_⟩ hq
            cases z
            exact ⟨by show ((i : Nat) : Int) + 1 = ((i + 1 : Nat) : Int); omega, by show (j : Int) = ((i + 1 + (j - (i + 1)) : Nat) : Int); omega, by omega, by omega⟩
          · rw [if_neg c] at hq ⊢
            refine sp_K_written (x := none) rfl h3 (fun _ => ?_) (fun k hk => by cases hk)
            rw [if_pos rfl]
            exact hq.1 rfl
    refine WJ_dir ?_
    try dsimp only
    cases heq : eqs (σ.2 176) e (some w) with
    | none =>
      rw [if_pos (show enc none < 0 by decide)]
      refine WJ_dir ?_
      refine WJ_dir ?_
      try dsimp only
      rw [if_pos (show enc none < 0 by decide)]
      rw [heq] at hloop hE
      exact hloop 0 (-1) none rfl (fun m z => by cases z) (fun _ => hE)
    | some i =>
      have hie := hpe i heq
      rw [if_neg (by show ¬ ((i : Nat) : Int) < 0; omega)]
      refine sp_KReader_look hK i rfl ?_
      refine WJ_dir ?_
      refine WJ_dir ?_
      try dsimp only
      rw [if_neg (by show ¬ ((i : Nat) : Int) < 0; omega)]
      refine sp_KReader_isQuote ?_
      have eq' : (lk (σ.2 176) e i == 34 || lk (σ.2 176) e i == 39) = isQt (lk (σ.2 176) e i) := rfl
      rw [eq']
      rw [heq] at hloop hE
      dsimp only at hE
      cases c : isQt (lk (σ.2 176) e i) with
      | false =>
        rw [if_pos (by decide)]
        rw [c, if_neg (by decide)] at hE
        exact hloop _ (-1) none rfl (fun m z => by cases z) (fun _ => hE)
      | true =>
        rw [if_neg (by decide)]
        rw [c, if_pos rfl] at hE
        have hi := lk_qt c
        have ei : enc (some i) = (i : Int) := rfl
        rw [ei]
        refine ⟨⟨by omega, by omega⟩, ?_⟩
        refine sp_KReader_look hK (i + 1) (by omega) (sp_K_isLetter ?_)
        cases c2 : isLt (lk (σ.2 176) e (i + 1)) with
        | false =>
          rw [if_pos (by decide)]
          refine hloop _ (-1) none rfl (fun m z => by cases z) (fun _ => ?_)
          rw [hE]
          unfold hdE1
          dsimp only
          rw [if_neg (by rw [c2]; decide)]
        | true =>
          rw [if_neg (by decide)]
          have hl1 : i + 1 < e := by
            refine Classical.byContradiction fun z => ?_
            unfold lk at c2
            rw [if_neg z] at c2
            exact absurd c2 (by decide)
          refine ⟨⟨by omega, by omega⟩, ?_⟩
          refine hloop _ _ (some (i + 2)) (by show (i : Int) + 2 = ((i + 2 : Nat) : Int); omega) (fun m z => ?_) (fun z => by cases z)
          cases z
          exact ⟨by omega, i, rfl, rfl, rfl, c, c2⟩
end Khe
