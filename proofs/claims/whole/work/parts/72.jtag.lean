/-! ===== tags: how they are written ===== -/
/-- behind the last value, from behind a name or value on -/
def atk (T : Nat → Int) (e : Nat) : Nat → Nat → Option Nat
  | 0, _ => none
  | m + 1, k => match spc T e (some k) with
    | none => some k
    | some x => match nmg T e true (some x) with
      | none => some k
      | some b => match vlp T e (eqs T e (some b)) with
        | none => none
        | some j => atk T e m j
/-- what attributes stand there: where the name begins, ends, the value begins, ends -/
def atL (T : Nat → Int) (e : Nat) : Nat → Nat → List (Nat × Nat × Nat × Nat)
  | 0, _ => []
  | m + 1, k => match spc T e (some k) with
    | none => []
    | some x => match nmg T e true (some x) with
      | none => []
      | some b => match eqs T e (some b) with
        | none => []
        | some v => match vlp T e (some v) with
          | none => []
          | some j => (x, b, v, j) :: atL T e m j
theorem vlp_gt {T : Nat → Int} {e i j : Nat} (h : vlp T e (some i) = some j) : i + 1 < j ∧ j ≤ e ∧ i < e := by
  have hv : (if isQt (lk T e i) = true then vlg T e (T i) (e + 1) (i + 1) else none) = some j := h
  split at hv
  · rename_i c
    have h2 := vlg_le _ _ _ hv
    have hlt : i < e := by
      by_cases z : i < e
      · exact z
      · unfold lk at c
        rw [if_neg z] at c
        exact absurd c (by decide)
    exact ⟨h2.1, h2.2.1, hlt⟩
  · cases hv
theorem eqs_gt {T : Nat → Int} {e b v : Nat} (hb : b ≤ e) (h : eqs T e (some b) = some v) : b < v ∧ v ≤ e := by
  have h' : asp T e (wd T e [61] (some (sk isSp T e b))) = some v := h
  cases hw : wd T e [61] (some (sk isSp T e b)) with
  | none => rw [hw] at h'; cases h'
  | some w =>
    rw [hw] at h'
    have g := wd1 (by decide) hw
    have h2 : sk isSp T e w = v := Option.some.inj h'
    have h3 := sk_le (p := isSp) (T := T) hb
    have h4 := sk_le (p := isSp) (T := T) (show w ≤ e by omega)
    omega
theorem vle_gt {T : Nat → Int} {e b j : Nat} (hb : b ≤ e) (h : vlp T e (eqs T e (some b)) = some j) : b < j ∧ j ≤ e := by
  cases hv : eqs T e (some b) with
  | none => rw [hv] at h; cases h
  | some v =>
    rw [hv] at h
    have h1 := eqs_gt hb hv
    have h2 := vlp_gt h
    omega
theorem spc_gt {T : Nat → Int} {e k x : Nat} (hk : k ≤ e) (h : spc T e (some k) = some x) : k < x ∧ x ≤ e ∧ x = sk isSp T e k := by
  have h' : (if sk isSp T e k = k then none else some (sk isSp T e k)) = some x := h
  have h2 := sk_le (p := isSp) (T := T) hk
  split at h'
  · cases h'
  · cases h'
    exact ⟨by omega, h2.2, rfl⟩
theorem atk_fuel {T : Nat → Int} {e : Nat} : ∀ (n m k : Nat), k ≤ e → e < n + k → e < m + k → atk T e n k = atk T e m k := by
  intro n
  induction n with
  | zero => intro m k h0 h1 h2; omega
  | succ n ih =>
    intro m k h0 h1 h2
    cases m with
    | zero => omega
    | succ m =>
      show (match spc T e (some k) with
        | none => some k
        | some x => match nmg T e true (some x) with
          | none => some k
          | some b => match vlp T e (eqs T e (some b)) with
            | none => none
            | some j => atk T e n j) = (match spc T e (some k) with
        | none => some k
        | some x => match nmg T e true (some x) with
          | none => some k
          | some b => match vlp T e (eqs T e (some b)) with
            | none => none
            | some j => atk T e m j)
      cases hs : spc T e (some k) with
      | none => rfl
      | some x =>
        dsimp only
        have g1 := spc_gt h0 hs
        cases hn : nmg T e true (some x) with
        | none => rfl
        | some b =>
          dsimp only
          have g2 := nmg_lt hn
          cases hv : vlp T e (eqs T e (some b)) with
          | none => rfl
          | some j =>
            dsimp only
            have g3 := vle_gt g2.2.2 hv
            exact ih m j g3.2 (by omega) (by omega)
theorem atk_step {T : Nat → Int} {e k : Nat} (hk : k ≤ e) : atk T e (e + 1) k = match spc T e (some k) with
    | none => some k
    | some x => match nmg T e true (some x) with
      | none => some k
      | some b => match vlp T e (eqs T e (some b)) with
        | none => none
        | some j => atk T e (e + 1) j := by
  show (match spc T e (some k) with
    | none => some k
    | some x => match nmg T e true (some x) with
      | none => some k
      | some b => match vlp T e (eqs T e (some b)) with
        | none => none
        | some j => atk T e e j) = _
  cases hs : spc T e (some k) with
  | none => rfl
  | some x =>
    dsimp only
    have g1 := spc_gt hk hs
    cases hn : nmg T e true (some x) with
    | none => rfl
    | some b =>
      dsimp only
      have g2 := nmg_lt hn
      cases hv : vlp T e (eqs T e (some b)) with
      | none => rfl
      | some j =>
        dsimp only
        have g3 := vle_gt g2.2.2 hv
        exact atk_fuel e (e + 1) j g3.2 (by omega) (by omega)
theorem atk_le {T : Nat → Int} {e : Nat} : ∀ (n k z : Nat), k ≤ e → atk T e n k = some z → k ≤ z ∧ z ≤ e := by
  intro n
  induction n with
  | zero => intro k z _ h; cases h
  | succ n ih =>
    intro k z hk h
    have h' : (match spc T e (some k) with
      | none => some k
      | some x => match nmg T e true (some x) with
        | none => some k
        | some b => match vlp T e (eqs T e (some b)) with
          | none => none
          | some j => atk T e n j) = some z := h
    cases hs : spc T e (some k) with
    | none => rw [hs] at h'; cases h'; exact ⟨Nat.le_refl _, hk⟩
    | some x =>
      rw [hs] at h'
      dsimp only at h'
      have g1 := spc_gt hk hs
      cases hn : nmg T e true (some x) with
      | none => rw [hn] at h'; cases h'; exact ⟨Nat.le_refl _, hk⟩
      | some b =>
        rw [hn] at h'
        dsimp only at h'
        have g2 := nmg_lt hn
        cases hv : vlp T e (eqs T e (some b)) with
        | none => rw [hv] at h'; cases h'
        | some j =>
          rw [hv] at h'
          dsimp only at h'
          have g3 := vle_gt g2.2.2 hv
          have := ih j z g3.2 h'
          omega
/-- behind the tag that begins at p -/
def tgk (T : Nat → Int) (e p : Nat) : Option Nat := wd T e [62] (skp T e [47] (asp T e ((nmg T e true (some (p + 1))).bind (atk T e (e + 1)))))
section JTag
variable {L : Nat → Nat} {σ τ : IS} {e : Nat}
theorem mt1 {T : Nat → Int} {i : Nat} {c : Int} : mt T e i [c] = (lk T e i == c) := by
  show ((lk T e i == c) && true) = _
  rw [Bool.and_true]
theorem WJ_dir {S : Type} {R : S → IS → Prop} {BB : (S → IS → Prop) → Prop} (h : BB R) : WJ R BB := h
set_option maxRecDepth 10000 in
theorem j_readTag0 {Q : IS → Prop} (hS : JS L σ e) (hch : jch L σ) {p : Nat} (hm : mt (σ.2 101) e p [60] = true) (h : jp e 0 σ (some p) τ) (hq : ∀ τ', jp e 0 σ (tgk (σ.2 101) e p) τ' → Q τ') : w_Content_readTag L 0 Q τ := by
  have he : e < 1000000 := by have := hS.2.1; have := hS.2.2.1; omega
  unfold w_Content_readTag
  refine p_need hS (by omega) ti_1019 (by decide) h (fun τ1 h1 => ?_)
  have hw : wd (σ.2 101) e [60] (some p) = some (p + 1) := by
    show (if mt (σ.2 101) e p [60] = true then some (p + 1) else none) = _
    rw [if_pos hm]
  rw [hw] at h1
  refine p_readName hS (by omega) h1 (fun v4 τ2 h2 _ _ => ?_)
  refine WJ_of (fun _ ρ => τ2 = ρ) (fun J hJ => by rw [if_pos rfl]; exact hJ _ _ rfl) ?_
  rintro s7 _ rfl
  refine WJ_of (fun _ ρ => τ2 = ρ) (fun J hJ => by rw [if_pos rfl]; exact hJ _ _ rfl) ?_
  rintro s11 _ rfl
  refine WJ_of (fun _ ρ => τ2 = ρ) (fun J hJ => by rw [if_pos rfl]; exact hJ _ _ rfl) ?_
  rintro _ _ rfl
  refine p_skipSpace hS (by omega) h2 (fun v18 τ3 h3 h01 hv => ?_)
  refine WL_ind (fun s ρ => ∃ z : Option Nat, jp e 0 σ (asp (σ.2 101) e z) ρ ∧ tgk (σ.2 101) e p = wd (σ.2 101) e [62] (skp (σ.2 101) e [47] (asp (σ.2 101) e (z.bind (atk (σ.2 101) e (e + 1))))) ∧ ∀ q, z = some q → q ≤ e ∧ s.1 = (if sk isSp (σ.2 101) e q = q then 0 else 1) ∧ 0 ≤ s.2 ∧ s.2 ≤ (q : Int)) (fun s _ => (1000000 - s.2).toNat) ?_ (v18, 0) τ3 ⟨nmg (σ.2 101) e true (some (p + 1)), h3, rfl, fun q hq => ⟨nmg_le q hq, hv q hq, by dsimp only; omega, by dsimp only; omega⟩⟩
  rintro ⟨s, t⟩ ρ ⟨z, hz, htz, hzq⟩ K hI
  dsimp only at hzq hI ⊢
  -- the end
  refine WJ_of (fun _ ρ => ∃ o : Option Nat, jp e 0 σ o ρ ∧ tgk (σ.2 101) e p = wd (σ.2 101) e [62] (skp (σ.2 101) e [47] o)) (fun J hJ => ?_) ?_
  rotate_left
  · rintro _ ρ ⟨o, ho, ht⟩
    refine p_skip hS (by omega) ti_1020 (by decide) ho (fun v ρ1 h1 _ _ => ?_)
    refine p_need hS (by omega) ti_1018 (by decide) h1 (fun ρ2 h2 => ?_)
    refine WJ_dir ?_
    dsimp only
    rw [if_neg (fun z => z.1 rfl)]
    exact hq _ (by rw [ht]; exact h2)
  have hfl := hz.fault hS
  cases z with
  | none =>
    have hf5 : ρ.1 2 4 = 5 := jp.f5 hz
    rw [if_neg (fun y => by rw [hf5] at y; exact absurd y.2 (by decide))]
    exact hJ _ _ ⟨none, hz, htz⟩
  | some q =>
    obtain ⟨hqe, hs, ht0, htq⟩ := hzq q rfl
    have hf0 : ρ.1 2 4 = 0 := jp.f0 hz (by first | exact hS1 | exact hS)
    have hz' : jp e 0 σ (some (sk isSp (σ.2 101) e q)) ρ := hz
    have hsl := sk_le (p := isSp) (T := σ.2 101) hqe
    have htz' : tgk (σ.2 101) e p = wd (σ.2 101) e [62] (skp (σ.2 101) e [47] (asp (σ.2 101) e (atk (σ.2 101) e (e + 1) q))) := htz
    rw [if_pos ⟨by omega, hf0⟩]
    generalize hy : sk isSp (σ.2 101) e q = y at *
    -- the last value is before this place
    have hlast : atk (σ.2 101) e (e + 1) q = some q → J () ρ := by
      intro ha
      refine hJ _ _ ⟨some y, hz', ?_⟩
      rw [htz', ha]
      show wd (σ.2 101) e [62] (skp (σ.2 101) e [47] (some (sk isSp (σ.2 101) e q))) = _
      rw [hy]
    have hnon : ∀ c : Int, isSt c = false → lk (σ.2 101) e y = c → atk (σ.2 101) e (e + 1) q = some q := by
      intro c hc hl
      rw [atk_step hqe]
      cases hsp : spc (σ.2 101) e (some q) with
      | none => rfl
      | some x =>
        have g := spc_gt hqe hsp
        dsimp only
        have hx : nmg (σ.2 101) e true (some x) = none := by
          show (if (if true = true then isSt (lk (σ.2 101) e x) else isNm (lk (σ.2 101) e x)) = true then some (sk isNm (σ.2 101) e (x + 1)) else none) = none
          rw [if_pos rfl, g.2.2, hy, hl, hc, if_neg (by decide)]
        rw [hx]
    refine p_at hS (by omega) ti_1018 (by decide) hz' (fun v43 _ hv43 => ?_)
    rw [hv43 y rfl, if_b1, mt1]
    by_cases c1 : (lk (σ.2 101) e y == 62) = true
    · rw [if_pos c1]
      exact hlast (hnon 62 (by decide) (by simpa using c1))
    · rw [if_neg c1]
      refine p_at hS (by omega) ti_1020 (by decide) hz' (fun v46 _ hv46 => ?_)
      rw [hv46 y rfl, if_b1, mt1]
      by_cases c2 : (lk (σ.2 101) e y == 47) = true
      · rw [if_pos c2]
        exact hlast (hnon 47 (by decide) (by simpa using c2))
      · rw [if_neg c2]
        -- a place that is none of the two
        have hno : atk (σ.2 101) e (e + 1) q = some q → tgk (σ.2 101) e p = none := by
          intro ha
          rw [htz', ha]
          show wd (σ.2 101) e [62] (skp (σ.2 101) e [47] (some (sk isSp (σ.2 101) e q))) = none
          rw [hy]
          have e1 : skp (σ.2 101) e [47] (some y) = some y := by
            show (if mt (σ.2 101) e y [47] = true then some (y + 1) else some y) = _
            rw [mt1, if_neg c2]
          rw [e1]
          show (if mt (σ.2 101) e y [62] = true then some (y + 1) else none) = none
          rw [mt1, if_neg c1]
        refine WJ_of (fun _ ρ1 => ∃ o2 : Option Nat, jp e 0 σ o2 ρ1 ∧ (∀ y', o2 = some y' → y' = y ∧ q < y) ∧ (o2 = none → tgk (σ.2 101) e p = none)) (fun J2 hJ2 => ?_) ?_
        · by_cases c3 : s = 0
          · rw [if_pos c3]
            refine p_fail hS hz' (fun ρ1 hρ1 => hJ2 _ _ ⟨none, hρ1, fun y' hy' => (by cases hy'), fun _ => hno ?_⟩)
            have hyq : y = q := by
              by_cases w : y = q
              · exact w
              · rw [if_neg w] at hs; omega
            rw [atk_step hqe]
            have hsp : spc (σ.2 101) e (some q) = none := by
              show (if sk isSp (σ.2 101) e q = q then none else some (sk isSp (σ.2 101) e q)) = _
              rw [hy, if_pos hyq]
            rw [hsp]
          · rw [if_neg c3]
            refine hJ2 _ _ ⟨some y, hz', fun y' hy' => ⟨(Option.some.inj hy').symm, ?_⟩, fun hy' => by cases hy'⟩
            by_cases w : y = q
            · rw [if_pos w] at hs; exact absurd hs c3
            · omega
        · rintro _ ρ1 ⟨o2, ho2, hoy, hbad⟩
          refine p_readName hS (by omega) ho2 (fun v53 ρ2 hρ2 _ _ => ?_)
          refine WJ_of (fun _ ρ => ρ2 = ρ) (fun J hJ => by rw [if_pos rfl]; exact hJ _ _ rfl) ?_
          rintro s56 _ rfl
          refine WJ_of (fun _ ρ => ρ2 = ρ) (fun J hJ => ⟨fun y => absurd rfl y, by rw [if_neg (fun y => y.1 rfl)]; exact hJ _ _ rfl⟩) ?_
          rintro _ _ rfl
          refine p_skipSpace hS (by omega) hρ2 (fun v63 ρ3 hρ3 _ _ => p_need hS (by omega) ti_1012 (by decide) hρ3 (fun ρ4 hρ4 => p_skipSpace hS (by omega) hρ4 (fun v67 ρ5 hρ5 _ _ => ?_)))
          refine WJ_dir ?_
          dsimp only
          rw [if_pos rfl]
          refine p_checkValue hS (by omega) hch hρ5 (fun ρ6 hρ6 => p_skipSpace hS (by omega) hρ6 (fun v73 ρ7 hρ7 hv01 hv73 => ⟨⟨by omega, by omega⟩, ?_⟩))
          have hρ7' : jp e 0 σ (asp (σ.2 101) e (vlp (σ.2 101) e (eqs (σ.2 101) e (nmg (σ.2 101) e true o2)))) ρ7 := hρ7
          have hst : tgk (σ.2 101) e p = wd (σ.2 101) e [62] (skp (σ.2 101) e [47] (asp (σ.2 101) e ((vlp (σ.2 101) e (eqs (σ.2 101) e (nmg (σ.2 101) e true o2))).bind (atk (σ.2 101) e (e + 1))))) := by
            cases o2 with
            | none => exact hbad rfl
            | some y' =>
              obtain ⟨rfl, hqy⟩ := hoy y' rfl
              have hsp : spc (σ.2 101) e (some q) = some y' := by
                show (if sk isSp (σ.2 101) e q = q then none else some (sk isSp (σ.2 101) e q)) = _
                rw [hy, if_neg (by omega)]
              have ha := atk_step (T := σ.2 101) hqe
              rw [hsp] at ha
              dsimp only at ha
              cases hn : nmg (σ.2 101) e true (some y') with
              | none =>
                rw [hn] at ha
                dsimp only at ha
                rw [hno ha]
                rfl
              | some b =>
                rw [hn] at ha
                dsimp only at ha
                rw [htz', ha]
                cases hvv : vlp (σ.2 101) e (eqs (σ.2 101) e (some b)) with
                | none => rfl
                | some j => rfl
          refine hI _ _ ⟨_, hρ7', hst, fun j hj => ?_⟩ (by dsimp only; omega)
          dsimp only
          have hjq : q < j ∧ j ≤ e := by
            cases o2 with
            | none => cases hj
            | some y' =>
              obtain ⟨rfl, hqy⟩ := hoy y' rfl
              cases hn : nmg (σ.2 101) e true (some y') with
              | none => rw [hn] at hj; cases hj
              | some b =>
                rw [hn] at hj
                have g2 := nmg_lt hn
                have g3 := vle_gt g2.2.2 hj
                omega
          exact ⟨hjq.2, hv73 j hj, by omega, by omega⟩
end JTag
