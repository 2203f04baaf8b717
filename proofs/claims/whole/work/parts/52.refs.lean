/-! ===== references and values in the reference ===== -/
def hexd (c : Int) : Bool := isDg c || inI (lowr c) 97 102
def rfp (T : Nat → Int) (e : Nat) (o : Option Nat) : Option Nat := match o with
  | none => none
  | some i => if lk T e i = 38 then (if lk T e (i + 1) = 35 then (if lk T e (i + 2) = 120 then (if sk hexd T e (i + 3) = i + 3 then none else wd T e [59] (some (sk hexd T e (i + 3)))) else (if sk isDg T e (i + 2) = i + 2 then none else wd T e [59] (some (sk isDg T e (i + 2))))) else wd T e [59] (nmg T e true (some (i + 1)))) else none
theorem lk_lt {T : Nat → Int} {e i : Nat} {c : Int} (hc : c ≠ -1) (h : lk T e i = c) : i < e ∧ T i = c := by
  unfold lk at h
  by_cases z : i < e
  · rw [if_pos z] at h
    exact ⟨z, h⟩
  · rw [if_neg z] at h
    exact absurd h.symm hc
theorem wd_gt {T : Nat → Int} {e i j : Nat} {l : List Int} (h : wd T e l (some i) = some j) : j = i + l.length := by
  have h' : (if mt T e i l = true then some (i + l.length) else none) = some j := h
  split at h'
  · cases h'; rfl
  · cases h'
theorem rfp_lt {T : Nat → Int} {e i j : Nat} (h : rfp T e (some i) = some j) : i < e ∧ i < j ∧ j ≤ e ∧ T i = 38 := by
  have h' : (if lk T e i = 38 then (if lk T e (i + 1) = 35 then (if lk T e (i + 2) = 120 then (if sk hexd T e (i + 3) = i + 3 then none else wd T e [59] (some (sk hexd T e (i + 3)))) else (if sk isDg T e (i + 2) = i + 2 then none else wd T e [59] (some (sk isDg T e (i + 2))))) else wd T e [59] (nmg T e true (some (i + 1)))) else none) = some j := h
  by_cases c1 : lk T e i = 38
  · rw [if_pos c1] at h'
    have d1 := lk_lt (by decide) c1
    by_cases c2 : lk T e (i + 1) = 35
    · rw [if_pos c2] at h'
      have d2 := lk_lt (by decide) c2
      by_cases c3 : lk T e (i + 2) = 120
      · rw [if_pos c3] at h'
        have d3 := lk_lt (by decide) c3
        have hs := sk_le (p := hexd) (T := T) (show i + 3 ≤ e by omega)
        split at h'
        · cases h'
        · have g1 := wd_gt h'
          have g2 := wdl_le (T := T) ti_1100 (o := some (sk hexd T e (i + 3))) (fun k hk => by cases hk; exact hs.2) j h'
          exact ⟨d1.1, by omega, g2, d1.2⟩
      · rw [if_neg c3] at h'
        have hs := sk_le (p := isDg) (T := T) (show i + 2 ≤ e by omega)
        split at h'
        · cases h'
        · have g1 := wd_gt h'
          have g2 := wdl_le (T := T) ti_1100 (o := some (sk isDg T e (i + 2))) (fun k hk => by cases hk; exact hs.2) j h'
          exact ⟨d1.1, by omega, g2, d1.2⟩
    · rw [if_neg c2] at h'
      cases hn : nmg T e true (some (i + 1)) with
      | none => rw [hn] at h'; cases h'
      | some k =>
        rw [hn] at h'
        have d3 := nmg_lt hn
        have g1 := wd_gt h'
        have g2 := wdl_le (T := T) ti_1100 (o := some k) (fun k' hk => by cases hk; exact d3.2.2) j h'
        exact ⟨d1.1, by omega, g2, d1.2⟩
  · rw [if_neg c1] at h'
    cases h'
theorem rfp_le {T : Nat → Int} {e : Nat} {o : Option Nat} : ple e (rfp T e o) := by
  intro j hj
  cases o with
  | none => cases hj
  | some i => exact (rfp_lt hj).2.2.1
section KPos3
variable {L : Nat → Nat} {Q : Int → IS → Prop} {σ : IS} {e : Nat}
theorem sp_KReader_reference (hk : KT L σ e) (hc : chs σ e) {x : Int} (o : Option Nat) (hx : x = enc o) (ho : ple e o) (h : Q (enc (rfp (σ.2 176) e o)) σ) : w_KReader_reference L x Q σ := by
  unfold w_KReader_reference WJ
  try dsimp only
  have hk' := hk
  obtain ⟨hk1, hk2, hk3⟩ := hk'
  cases o with
  | none =>
    rw [if_pos (by rw [hx]; decide)]
    exact h
  | some i =>
    have hi := ho i rfl
    have hx' : x = (i : Int) := hx
    rw [if_neg (by omega)]
    have h' : Q (enc (if lk (σ.2 176) e i = 38 then (if lk (σ.2 176) e (i + 1) = 35 then (if lk (σ.2 176) e (i + 2) = 120 then (if sk hexd (σ.2 176) e (i + 3) = i + 3 then none else wd (σ.2 176) e [59] (some (sk hexd (σ.2 176) e (i + 3)))) else (if sk isDg (σ.2 176) e (i + 2) = i + 2 then none else wd (σ.2 176) e [59] (some (sk isDg (σ.2 176) e (i + 2))))) else wd (σ.2 176) e [59] (nmg (σ.2 176) e true (some (i + 1)))) else none)) σ := h
    refine sp_KReader_look hk i hx' ?_
    by_cases c1 : lk (σ.2 176) e i = 38
    · rw [if_pos c1] at h' ⊢
      have d1 := lk_lt (by decide) c1
      refine ⟨⟨by omega, by omega⟩, sp_KReader_look hk (i + 1) (by omega) ?_⟩
      by_cases c2 : lk (σ.2 176) e (i + 1) = 35
      · rw [if_pos c2] at h' ⊢
        have d2 := lk_lt (by decide) c2
        refine ⟨⟨by omega, by omega⟩, sp_KReader_look hk (i + 2) (by omega) ?_⟩
        -- both kinds of numbers in one
        have key : ∀ (hex : Bool) (p : Int → Bool) (k0 : Nat) (a b : Int), (a = b1 hex) → b = (k0 : Int) → k0 ≤ e → p = (if hex = true then hexd else isDg) → Q (enc (if sk p (σ.2 176) e k0 = k0 then none else wd (σ.2 176) e [59] (some (sk p (σ.2 176) e k0)))) σ →
            WL (fun (K16 : Int → IS → Prop) (s18 : Int) (σ19 : IS) => w_KReader_look L s18 (fun v21 σ20 => w_K_isDigit L v21 (fun v23 σ22 => WJ (fun (s26 : Unit) (σ27 : IS) => inR (s18 + 1) ∧ K16 (s18 + 1) σ27) (fun J24 => if v23 = 0 then WJ (fun (s32 : Unit) (σ33 : IS) => WJ (fun (s36 : Int) (σ37 : IS) => Q s36 σ37) (fun J34 => if s18 = b then J34 (-1) σ33 else w_KReader_word L s18 1100 (fun v40 σ39 => J34 v40 σ39) σ33)) (fun J30 => if a = 0 then J30 () σ22 else w_KReader_look L s18 (fun v43 σ42 => w_K_lower L v43 (fun v45 σ44 => w_K_isIn L v45 97 102 (fun v47 σ46 => if v47 = 0 then J30 () σ46 else J24 () σ46) σ44) σ42) σ22) else J24 () σ22)) σ20) σ19) b σ := by
          intro hex p k0 a b ha hb hk0 hp hq
          refine WL_ind (fun k τ => τ = σ ∧ ∃ j : Nat, k = (j : Int) ∧ k0 ≤ j ∧ j ≤ e ∧ sk p (σ.2 176) e k0 = sk p (σ.2 176) e j) (fun k _ => (e - k).toNat) ?_ b σ ⟨rfl, k0, hb, by omega, hk0, rfl⟩
          rintro k τ ⟨rfl, j, rfl, hj0, hj, hs⟩ K hI
          try dsimp only
          refine sp_KReader_look hk j rfl (sp_K_isDigit ?_)
          unfold WJ
          try dsimp only
          rw [if_b1]
          have hgo : j < e → p (τ.2 176 j) = true → inR ((j : Int) + 1) ∧ K ((j : Int) + 1) τ := fun c cp => ⟨⟨by omega, by omega⟩, hI _ _ ⟨rfl, j + 1, by omega, by omega, by omega, by rw [hs, sk_go c cp]⟩ (by omega)⟩
          have hstop : sk p (τ.2 176) e j = j → (if (j : Int) = b then Q (-1) τ else w_KReader_word L (j : Int) 1100 (fun v40 σ39 => Q v40 σ39) τ) := by
            intro hj2
            rw [hs, hj2] at hq
            by_cases c : j = k0
            · rw [if_pos c] at hq
              rw [if_pos (by omega)]
              exact hq
            · rw [if_neg c] at hq
              rw [if_neg (by omega)]
              exact sp_word hk (some j) rfl (fun k hk => by cases hk; exact hj) ti_1100 hq
          have hlk := lk_sp (e := e) (T := τ.2 176) (i := j) (p := isDg) (by decide)
          by_cases cd : isDg (lk (τ.2 176) e j) = true
          · rw [if_pos cd]
            have cl : j < e := by
              by_cases z : j < e
              · exact z
              · rw [hlk.2 z] at cd; cases cd
            rw [hlk.1 cl] at cd
            refine hgo cl ?_
            rw [hp]
            cases hex
            · exact cd
            · show hexd (τ.2 176 j) = true
              unfold hexd
              rw [cd]
              rfl
          · rw [if_neg cd]
            cases hex with
            | false =>
              rw [if_pos (by rw [ha]; decide)]
              refine hstop ?_
              rw [hp]
              by_cases z : j < e
              · rw [hlk.1 z] at cd
                exact sk_stop (by simpa using cd)
              · exact sk_end (by omega)
            | true =>
              rw [if_neg (by rw [ha]; decide)]
              have hlr : -1 ≤ lk (τ.2 176) e j ∧ lk (τ.2 176) e j ≤ 2000000 := by
                unfold lk
                split
                · rename_i z
                  have := hc j z
                  omega
                · omega
              refine sp_KReader_look hk j rfl (sp_K_lower hlr (sp_K_isIn ?_))
              rw [if_b1]
              by_cases cx : inI (lowr (lk (τ.2 176) e j)) 97 102 = true
              · rw [if_pos cx]
                have cl : j < e := by
                  by_cases z : j < e
                  · exact z
                  · unfold lk at cx
                    rw [if_neg z] at cx
                    exact absurd cx (by decide)
                have hl2 : lk (τ.2 176) e j = τ.2 176 j := by unfold lk; rw [if_pos cl]
                rw [hl2] at cx
                refine hgo cl ?_
                rw [hp]
                show hexd (τ.2 176 j) = true
                unfold hexd
                rw [cx]
                simp
              · rw [if_neg cx]
                refine hstop ?_
                rw [hp]
                by_cases z : j < e
                · have hl2 : lk (τ.2 176) e j = τ.2 176 j := by unfold lk; rw [if_pos z]
                  rw [hl2] at cx cd
                  refine sk_stop ?_
                  show hexd (τ.2 176 j) = false
                  unfold hexd
                  simp [cx, cd]
                · exact sk_end (by omega)
        by_cases c3 : lk (σ.2 176) e (i + 2) = 120
        · rw [if_pos c3] at h'
          have d3 := lk_lt (by decide) c3
          simp only [if_pos c3]
          refine ⟨⟨fun z => absurd z (by decide), fun _ => ⟨by omega, by omega⟩⟩, ?_⟩
          rw [if_neg (show ¬ (1 : Int) = 0 by decide)]
          exact key true hexd (i + 3) 1 (x + 3) rfl (by omega) (by omega) rfl h'
        · rw [if_neg c3] at h'
          have e0 : (if lk (σ.2 176) e (i + 2) = 120 then (1 : Int) else (0 : Int)) = 0 := if_neg c3
          rw [e0]
          refine ⟨⟨fun _ => ⟨by omega, by omega⟩, fun z => absurd rfl z⟩, ?_⟩
          exact key false isDg (i + 2) 0 (if (0 : Int) = 0 then (x + 2) else (x + 3)) rfl (by rw [if_pos rfl]; omega) (by omega) rfl h'
      · rw [if_neg c2] at h' ⊢
        refine ⟨⟨by omega, by omega⟩, ?_⟩
        exact sp_KReader_name hk (some (i + 1)) (by show x + 1 = ((i + 1 : Nat) : Int); omega) (fun k hk => by cases hk; omega) (sp_word hk _ rfl nmg_le ti_1100 h')
    · rw [if_neg c1] at h' ⊢
      exact h'
end KPos3
