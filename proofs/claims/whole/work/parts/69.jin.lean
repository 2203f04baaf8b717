/-! ===== instructions in the class ===== -/
/-- behind the name, where the rest begins, behind all -/
def pin (T : Nat → Int) (e p : Nat) : Option (Nat × Nat × Nat) := match nmg T e true (some (p + 2)) with
  | none => none
  | some n => if (sl T (p + 2) (n - (p + 2))).map lowr = [120, 109, 108] then none else if mt T e n [63, 62] = true then some (n, n, n + 2) else match spc T e (some n) with
    | none => none
    | some f => match sek T e [63, 62] f with
      | none => none
      | some q => some (n, f, q + 2)
section JIn
variable {L : Nat → Nat} {σ τ : IS} {e k : Nat} {o : Option Nat}
theorem mt2_sp {T : Nat → Int} {n : Nat} (h : mt T e n [63, 62] = true) : sk isSp T e n = n := by
  have h' : ((lk T e n == 63) && ((lk T e (n + 1) == 62) && true)) = true := h
  rw [Bool.and_eq_true] at h'
  have d := lk_lt (by decide) (show lk T e n = 63 by simpa using h'.1)
  exact sk_stop (by rw [d.2]; decide)
set_option maxRecDepth 10000 in
theorem j_readInstruction {Q : IS → Prop} (hS : JS L σ e) (hk : k ≤ 50) (hch : jch L σ) (hc6 : 0 ≤ σ.1 2 6 ∧ σ.1 2 6 ≤ 1000000) {p : Nat} (hm : mt (σ.2 101) e p [60, 63] = true) (hτ : τ = pf σ 2 2 (p : Int))
    (h1 : ∀ n f q τ', pin (σ.2 101) e p = some (n, f, q) → τ' = pf (pf (pf (pf (pf (pf σ 2 8 ((p : Int) + 2)) 2 9 ((n : Int) - ((p : Int) + 2))) 2 10 (f : Int)) 2 11 ((q : Int) - 2 - (f : Int))) 2 2 (q : Int)) 2 6 (σ.1 2 6 + hasc (sl (σ.2 101) (p + 2) (n - (p + 2)))) → Q τ')
    (h0 : pin (σ.2 101) e p = none → ∀ τ', jst e k σ none τ' → Q τ') : w_Reader_readInstruction L Q τ := by
  have he : e < 1000000 := by have := hS.2.1; have := hS.2.2.1; omega
  have hL1 := hS.2.1
  have hp2 : p + 2 ≤ e := wd_bad (l := [60, 63]) ti_1053 (by decide) hm
  unfold w_Reader_readInstruction
  subst hτ
  refine sp_Reader_need (hS.jt (show p ≤ e by omega) rfl) ti_1053 (by decide) (fun _ => ?_) (fun c => by rw [pf_2, hm] at c; cases c)
  rw [pf_pf, show p + [(60 : Int), 63].length = p + 2 from rfl]
  -- the end, from behind the name on: w, s are the word's place and size
  have htail : ∀ (w s : Nat) (hws : w + s ≤ L 101) (o3 : Option Nat) (ρ : IS), (∀ f, o3 = some f → f ≤ e) → jsw e k (pf (pf σ 2 8 (w : Int)) 2 9 (s : Int)) o3 ρ → (∀ τ', (match o3.bind (fun f => (sek (σ.2 101) e [63, 62] f).map (fun q => (f, q))) with
      | none => jst e k σ none τ'
      | some (f, q) => τ' = pf (pf (pf (pf (pf (pf σ 2 8 (w : Int)) 2 9 (s : Int)) 2 10 (f : Int)) 2 11 ((q : Int) - (f : Int))) 2 2 ((q : Int) + 2)) 2 6 (σ.1 2 6 + hasc (sl (σ.2 101) w s))) → Q τ') → w_Reader_seek L 1055 (fun σ11 => inR ((σ11.1 2 2) - (σ11.1 2 10)) ∧ w_Reader_need L 1055 (fun σ13 => w_Reader_lookForColon L (σ13.1 2 8) (σ13.1 2 9) (fun σ15 => Q σ15) σ13) (pf σ11 2 11 ((σ11.1 2 2) - (σ11.1 2 10)))) (pf ρ 2 10 (ρ.1 2 2)) := by
    intro w s hws o3 ρ ho3 hρ hQ
    have hL2 := hS.2.2.1
    have hSw : JS L (pf (pf σ 2 8 (w : Int)) 2 9 (s : Int)) e := (hS.fld (by omega) (by omega)).fld (by omega) (by omega)
    have hposr : -2000000 ≤ ρ.1 2 2 ∧ ρ.1 2 2 ≤ 2000000 := by
      cases o3 with
      | some f => rw [hρ.1.2, pf_eq]; have := hρ.1.1; omega
      | none => obtain ⟨q, hq, hqk⟩ := hρ.1.1.2.2.1; rw [hq]; omega
    have hρ10 := hρ.fld (j := 10) (x := ρ.1 2 2) (by omega) hposr
    have hS10 := hSw.fld (j := 10) (x := ρ.1 2 2) (by omega) hposr
    refine w_seek hS10 hk ti_1055 (by decide) hρ10 (fun ρ1 hρ1 => ?_)
    have hrow : (pf (pf (pf σ 2 8 (w : Int)) 2 9 (s : Int)) 2 10 (ρ.1 2 2)).2 = σ.2 := rfl
    rw [hrow] at hρ1
    have hpos1 : -1100000 ≤ ρ1.1 2 2 ∧ ρ1.1 2 2 ≤ 1100000 := by
      cases hz : o3.bind (sek (σ.2 101) e [63, 62]) with
      | some q => rw [hz] at hρ1; rw [hρ1.1.2, pf_eq]; have := hρ1.1.1; omega
      | none => rw [hz] at hρ1; obtain ⟨q, hq, hqk⟩ := hρ1.1.1.2.2.1; rw [hq]; omega
    have h10 : -1100000 ≤ ρ1.1 2 10 ∧ ρ1.1 2 10 ≤ 1100000 ∨ True := Or.inr trivial
    cases hz : o3.bind (sek (σ.2 101) e [63, 62]) with
    | some q =>
      rw [hz] at hρ1
      obtain ⟨f, hf, hsq⟩ := Option.bind_eq_some_iff.mp hz
      subst hf
      have hfe := ho3 f rfl
      have hsl := sek_lt hsq
      have hρ1e : ρ1 = pf (pf (pf (pf σ 2 8 (w : Int)) 2 9 (s : Int)) 2 10 (ρ.1 2 2)) 2 2 (q : Int) := hρ1.1.2
      have hρf : ρ.1 2 2 = (f : Int) := by rw [hρ.1.2, pf_eq]
      rw [hρf] at hρ1e
      have g10 : ρ1.1 2 10 = (f : Int) := by rw [hρ1e, pf_nk (by decide), pf_eq]
      have g2 : ρ1.1 2 2 = (q : Int) := by rw [hρ1e, pf_eq]
      rw [g10, g2]
      refine ⟨⟨by omega, by omega⟩, ?_⟩
      have hq2 : q + 2 ≤ e := wd_bad (l := [63, 62]) ti_1055 (by decide) hsl.2.2
      have hS11 : JS L (pf (pf (pf (pf σ 2 8 (w : Int)) 2 9 (s : Int)) 2 10 (f : Int)) 2 11 ((q : Int) - (f : Int))) e := (hSw.fld (by omega) (by omega)).fld (by omega) (by omega)
      have hst : pf ρ1 2 11 ((q : Int) - (f : Int)) = pf (pf (pf (pf (pf σ 2 8 (w : Int)) 2 9 (s : Int)) 2 10 (f : Int)) 2 11 ((q : Int) - (f : Int))) 2 2 (q : Int) := by
        rw [hρ1e, pf_comm (o := 2) (k := 2) (p := 2) (j := 11) (by omega)]
      refine sp_Reader_need (hS11.jt (show q ≤ e by omega) hst) ti_1055 (by decide) (fun _ => ?_) (fun c => ?_)
      · rw [hst, pf_pf, show q + [(63 : Int), 62].length = q + 2 from rfl]
        have e8 : (pf (pf (pf (pf (pf σ 2 8 (w : Int)) 2 9 (s : Int)) 2 10 (f : Int)) 2 11 ((q : Int) - (f : Int))) 2 2 ((q + 2 : Nat) : Int)).1 2 8 = (w : Int) := by
          rw [pf_nk (by decide), pf_nk (by decide), pf_nk (by decide), pf_nk (by decide), pf_eq]
        have e9 : (pf (pf (pf (pf (pf σ 2 8 (w : Int)) 2 9 (s : Int)) 2 10 (f : Int)) 2 11 ((q : Int) - (f : Int))) 2 2 ((q + 2 : Nat) : Int)).1 2 9 = (s : Int) := by
          rw [pf_nk (by decide), pf_nk (by decide), pf_nk (by decide), pf_eq]
        have e6 : (pf (pf (pf (pf (pf σ 2 8 (w : Int)) 2 9 (s : Int)) 2 10 (f : Int)) 2 11 ((q : Int) - (f : Int))) 2 2 ((q + 2 : Nat) : Int)).1 2 6 = σ.1 2 6 := by
          rw [pf_nk (by decide), pf_nk (by decide), pf_nk (by decide), pf_nk (by decide), pf_nk (by decide)]
        rw [e8, e9]
        refine sp_Reader_lookForColon w s rfl rfl hws hS.2.2.1 (by rw [e6]; omega) ?_
        rw [e6]
        refine hQ _ ?_
        rw [show ((some f).bind (fun f => (sek (σ.2 101) e [63, 62] f).map (fun q => (f, q)))) = some (f, q) by rw [Option.bind_some, hsq]; rfl]
        show _ = _
        rw [show ((q + 2 : Nat) : Int) = (q : Int) + 2 by omega]
        rfl
      · exfalso
        rw [hst, pf_2] at c
        have : mt (σ.2 101) e q [63, 62] = true := hsl.2.2
        rw [show ((pf (pf (pf (pf σ 2 8 (w : Int)) 2 9 (s : Int)) 2 10 (f : Int)) 2 11 ((q : Int) - (f : Int))).2 101) = σ.2 101 from rfl, this] at c
        cases c
    | none =>
      rw [hz] at hρ1
      have r10 := hρ1.1.1.2.2.2 10 (by omega) (by omega)
      refine ⟨⟨by omega, by omega⟩, ?_⟩
      have hb8 : ρ1.1 2 8 = (w : Int) := by rw [hρ1.2 8 (by omega) (by omega), pf_nk (by decide), pf_nk (by decide), pf_eq]
      have hb9 : ρ1.1 2 9 = (s : Int) := by rw [hρ1.2 9 (by omega) (by omega), pf_nk (by decide), pf_eq]
      have hb10 : ρ1.1 2 10 = ρ.1 2 2 := by rw [hρ1.2 10 (by omega) (by omega), pf_eq]
      have hpr : -1100000 ≤ ρ.1 2 2 ∧ ρ.1 2 2 ≤ 1100000 := by
        cases o3 with
        | some f => rw [hρ.1.2, pf_eq]; have := hρ.1.1; omega
        | none => obtain ⟨q, hq, hqk⟩ := hρ.1.1.2.2.1; rw [hq]; omega
      have hpn : 0 ≤ ρ.1 2 2 ∧ 0 ≤ ρ1.1 2 2 := by
        refine ⟨?_, ?_⟩
        · cases o3 with
          | some f => rw [hρ.1.2, pf_eq]; omega
          | none => obtain ⟨q, hq, hqk⟩ := hρ.1.1.2.2.1; rw [hq]; omega
        · obtain ⟨q, hq, hqk⟩ := hρ1.1.1.2.2.1
          rw [hq]; omega
      have hρ11 := hρ1.fld (j := 11) (x := ρ1.1 2 2 - ρ1.1 2 10) (by omega) (by rw [hb10]; omega)
      have hS11 := hS10.fld (j := 11) (x := ρ1.1 2 2 - ρ1.1 2 10) (by omega) (by rw [hb10]; omega)
      refine w_need hS11 hk ti_1055 (by decide) hρ11 (fun ρ2 hρ2 => ?_)
      have hρ2' : jsw e k (pf (pf (pf (pf σ 2 8 (w : Int)) 2 9 (s : Int)) 2 10 (ρ.1 2 2)) 2 11 (ρ1.1 2 2 - ρ1.1 2 10)) none ρ2 := hρ2
      have b8 : ρ2.1 2 8 = (w : Int) := by rw [hρ2'.2 8 (by omega) (by omega), pf_nk (by decide), pf_nk (by decide), pf_nk (by decide), pf_eq]
      have b9 : ρ2.1 2 9 = (s : Int) := by rw [hρ2'.2 9 (by omega) (by omega), pf_nk (by decide), pf_nk (by decide), pf_eq]
      have hb2 : jst e k σ none ρ2 := (jst.base (by omega)).mp ((jst.base (by omega)).mp ((jst.base (by omega)).mp ((jst.base (by omega)).mp hρ2'.1)))
      have b6 : ρ2.1 2 6 = σ.1 2 6 := by rw [hρ2'.2 6 (by omega) (by omega), pf_nk (by decide), pf_nk (by decide), pf_nk (by decide), pf_nk (by decide)]
      rw [b8, b9]
      refine sp_Reader_lookForColon w s rfl rfl hws hS.2.2.1 (by rw [b6]; omega) ?_
      have hhc : 0 ≤ hasc (sl (ρ2.2 101) w s) ∧ hasc (sl (ρ2.2 101) w s) ≤ 1 := by
        unfold hasc
        split <;> omega
      refine hQ _ ?_
      have hz2 : o3.bind (fun f => (sek (σ.2 101) e [63, 62] f).map (fun q => (f, q))) = none := by
        cases o3 with
        | none => rfl
        | some f =>
          rw [Option.bind_some] at hz ⊢
          rw [hz]
          rfl
      rw [hz2]
      exact ⟨hb2.1.fld (by omega) (by rw [b6]; omega), by rw [pf_nk (by decide)]; exact hb2.2⟩
  have hbadQ : pin (σ.2 101) e p = none → ∀ (w s : Nat), ∀ τ' : IS, (match (none : Option Nat).bind (fun f => (sek (σ.2 101) e [63, 62] f).map (fun q => (f, q))) with
      | none => jst e k σ none τ'
      | some (f, q) => τ' = pf (pf (pf (pf (pf (pf σ 2 8 (w : Int)) 2 9 (s : Int)) 2 10 (f : Int)) 2 11 ((q : Int) - (f : Int))) 2 2 ((q : Int) + 2)) 2 6 (σ.1 2 6 + hasc (sl (σ.2 101) w s))) → Q τ' := fun hp w s τ' h => h0 hp τ' h
  have hch2 : ∀ i, i < L 101 → -1 ≤ σ.2 101 i ∧ σ.2 101 i ≤ 2000000 := fun i hi => by have := hch i hi; omega
  refine sp_Reader_readName (hS.jt hp2 rfl) (fun n c => ?_) (fun c => ?_)
  · rw [pf_2] at c
    have hn := nmg_lt c
    have hws : (p + 2) + (n - (p + 2)) ≤ L 101 := by omega
    rw [pf_pf, pf_eq]
    refine ⟨⟨by omega, by omega⟩, ?_⟩
    rw [show ((p + 2 : Nat) : Int) = (p : Int) + 2 by omega]
    have hpin : pin (σ.2 101) e p = (if (sl (σ.2 101) (p + 2) (n - (p + 2))).map lowr = [120, 109, 108] then none else if mt (σ.2 101) e n [63, 62] = true then some (n, n, n + 2) else match spc (σ.2 101) e (some n) with
      | none => none
      | some f => match sek (σ.2 101) e [63, 62] f with
        | none => none
        | some q => some (n, f, q + 2)) := by
      unfold pin
      rw [c]
    have hst : pf (pf (pf σ 2 2 (n : Int)) 2 8 ((p : Int) + 2)) 2 9 ((n : Int) - ((p : Int) + 2)) = pf (pf (pf σ 2 8 ((p + 2 : Nat) : Int)) 2 9 ((n - (p + 2) : Nat) : Int)) 2 2 (n : Int) := by
      rw [pf_comm (o := 2) (k := 2) (p := 2) (j := 8) (by omega), pf_comm (o := 2) (k := 2) (p := 2) (j := 9) (by omega), show ((p + 2 : Nat) : Int) = (p : Int) + 2 by omega, show ((n - (p + 2) : Nat) : Int) = (n : Int) - ((p : Int) + 2) by omega]
    rw [hst]
    have hL2 := hS.2.2.1
    have hSw : JS L (pf (pf σ 2 8 ((p + 2 : Nat) : Int)) 2 9 ((n - (p + 2) : Nat) : Int)) e := (hS.fld (by omega) (by omega)).fld (by omega) (by omega)
    have hjw : jsw e k (pf (pf σ 2 8 ((p + 2 : Nat) : Int)) 2 9 ((n - (p + 2) : Nat) : Int)) (some n) (pf (pf (pf σ 2 8 ((p + 2 : Nat) : Int)) 2 9 ((n - (p + 2) : Nat) : Int)) 2 2 (n : Int)) := jsw.some hn.2.2 rfl
    -- what the end gives for a good place
    have hgood : ∀ f q, sek (σ.2 101) e [63, 62] f = some q → pin (σ.2 101) e p = some (n, f, q + 2) → ∀ τ' : IS, τ' = pf (pf (pf (pf (pf (pf σ 2 8 ((p + 2 : Nat) : Int)) 2 9 ((n - (p + 2) : Nat) : Int)) 2 10 (f : Int)) 2 11 ((q : Int) - (f : Int))) 2 2 ((q : Int) + 2)) 2 6 (σ.1 2 6 + hasc (sl (σ.2 101) (p + 2) (n - (p + 2)))) → Q τ' := by
      intro f q hsq hp τ' hτ'
      refine h1 n f (q + 2) τ' hp ?_
      rw [hτ', show ((p + 2 : Nat) : Int) = (p : Int) + 2 by omega, show ((n - (p + 2) : Nat) : Int) = (n : Int) - ((p : Int) + 2) by omega, show (((q + 2 : Nat) : Int) - 2 - (f : Int)) = (q : Int) - (f : Int) by omega, show ((q + 2 : Nat) : Int) = (q : Int) + 2 by omega]
    refine sp_Reader_isWrittenAs (a := (p : Int) + 2) (n := (n : Int) - ((p : Int) + 2)) hS.2.2.1 (by intro i hi; exact hch2 i hi) (p + 2) (n - (p + 2)) (by omega) (by omega) hws ti_1054 (fun cx => ?_) (fun cx => ?_)
    · unfold WJ
      try dsimp only
      rw [if_neg (by decide)]
      have cx' : (sl (σ.2 101) (p + 2) (n - (p + 2))).map lowr = [120, 109, 108] := cx
      rw [if_pos cx'] at hpin
      exact w_fail hSw hjw (fun ρ hρ => htail (p + 2) (n - (p + 2)) hws none ρ (fun f hf => by cases hf) hρ (hbadQ hpin (p + 2) (n - (p + 2))))
    · unfold WJ
      try dsimp only
      rw [if_pos rfl]
      have cx' : ¬ (sl (σ.2 101) (p + 2) (n - (p + 2))).map lowr = [120, 109, 108] := cx
      rw [if_neg cx'] at hpin
      refine w_skipSpace hSw hk hjw (fun v ρ hρ hv => ?_)
      have hv' := hv n rfl
      rw [hv']
      have hrow : (pf (pf σ 2 8 ((p + 2 : Nat) : Int)) 2 9 ((n - (p + 2) : Nat) : Int)).2 = σ.2 := rfl
      rw [hrow] at hρ ⊢
      have hρ' : jsw e k (pf (pf σ 2 8 ((p + 2 : Nat) : Int)) 2 9 ((n - (p + 2) : Nat) : Int)) (some (sk isSp (σ.2 101) e n)) ρ := hρ
      have hsl := sk_le (p := isSp) (T := σ.2 101) hn.2.2
      have hspc : spc (σ.2 101) e (some n) = if sk isSp (σ.2 101) e n = n then none else some (sk isSp (σ.2 101) e n) := rfl
      by_cases c1 : sk isSp (σ.2 101) e n = n
      · rw [if_pos c1, if_pos rfl]
        rw [c1] at hρ'
        refine sp_Reader_at (hSw.jt hn.2.2 hρ'.1.2) ti_1055 (by decide) ?_
        have hr2 : ρ.2 = σ.2 := by rw [hρ'.1.2]; rfl
        rw [if_b1, hr2]
        by_cases c2 : mt (σ.2 101) e n [63, 62] = true
        · rw [if_pos c2]
          rw [if_pos c2] at hpin
          have hlt2 : n + 2 ≤ e := wd_bad (l := [63, 62]) ti_1055 (by decide) c2
          refine htail (p + 2) (n - (p + 2)) hws (some n) ρ (fun f hf => by cases hf; exact hn.2.2) hρ' (fun τ' hτ' => ?_)
          have hsq : sek (σ.2 101) e [63, 62] n = some n := sek_hit (by omega) c2
          rw [show ((some n).bind (fun f => (sek (σ.2 101) e [63, 62] f).map (fun q => (f, q)))) = some (n, n) by rw [Option.bind_some, hsq]; rfl] at hτ'
          exact hgood n n hsq hpin τ' hτ'
        · rw [if_neg c2]
          rw [if_neg c2, hspc, if_pos c1] at hpin
          exact w_fail hSw hρ' (fun ρ1 hρ1 => htail (p + 2) (n - (p + 2)) hws none ρ1 (fun f hf => by cases hf) hρ1 (hbadQ hpin (p + 2) (n - (p + 2))))
      · rw [if_neg c1, if_neg (by decide)]
        have c2 : ¬ mt (σ.2 101) e n [63, 62] = true := fun z => c1 (mt2_sp z)
        rw [if_neg c2, hspc, if_neg c1] at hpin
        dsimp only at hpin
        refine htail (p + 2) (n - (p + 2)) hws (some (sk isSp (σ.2 101) e n)) ρ (fun f hf => by cases hf; exact hsl.2) hρ' (fun τ' hτ' => ?_)
        cases hsq : sek (σ.2 101) e [63, 62] (sk isSp (σ.2 101) e n) with
        | none =>
          rw [hsq] at hpin
          rw [show ((some (sk isSp (σ.2 101) e n)).bind (fun f => (sek (σ.2 101) e [63, 62] f).map (fun q => (f, q)))) = none by rw [Option.bind_some, hsq]; rfl] at hτ'
          exact h0 hpin τ' hτ'
        | some q =>
          rw [hsq] at hpin
          rw [show ((some (sk isSp (σ.2 101) e n)).bind (fun f => (sek (σ.2 101) e [63, 62] f).map (fun q => (f, q)))) = some (sk isSp (σ.2 101) e n, q) by rw [Option.bind_some, hsq]; rfl] at hτ'
          exact hgood _ q hsq hpin τ' hτ'
  · rw [pf_2] at c
    have hpin : pin (σ.2 101) e p = none := by
      unfold pin
      rw [c]
    have hL2 := hS.2.2.1
    have h4 : (pf σ 2 2 ((p + 2 : Nat) : Int)).1 2 4 = 0 := by rw [pf_nk (by decide)]; exact hS.2.2.2.1
    have hfe : flt (pf σ 2 2 ((p + 2 : Nat) : Int)) 5 = pf (pf σ 2 2 ((p + 2 : Nat) : Int)) 2 4 5 := by unfold flt; rw [if_pos h4]
    have hpos : (flt (pf σ 2 2 ((p + 2 : Nat) : Int)) 5).1 2 2 = ((p + 2 : Nat) : Int) := by rw [hfe, pf_nk (by decide), pf_eq]
    rw [hpos]
    refine ⟨⟨by omega, by omega⟩, ?_⟩
    have hz0 : ((p + 2 : Nat) : Int) - ((p + 2 : Nat) : Int) = ((0 : Nat) : Int) := by omega
    rw [hz0]
    have hSw : JS L (pf (pf σ 2 8 ((p + 2 : Nat) : Int)) 2 9 ((0 : Nat) : Int)) e := (hS.fld (by omega) (by omega)).fld (by omega) (by omega)
    have hjw : jsw e k (pf (pf σ 2 8 ((p + 2 : Nat) : Int)) 2 9 ((0 : Nat) : Int)) none (pf (pf (flt (pf σ 2 2 ((p + 2 : Nat) : Int)) 5) 2 8 ((p + 2 : Nat) : Int)) 2 9 ((0 : Nat) : Int)) := by
      have hb := flt_none (k := k) hS hp2 rfl
      refine ⟨⟨(JB.base (by omega)).mpr ((JB.base (by omega)).mpr ((hb.1.fld (by omega) (by omega)).fld (by omega) (by omega))), by rw [pf_nk (by decide), pf_nk (by decide)]; exact hb.2⟩, fun j g1 g2 => ?_⟩
      rw [pf_1, pf_1, pf_1, pf_1]
      split
      · rfl
      · split
        · rfl
        · rw [hfe, pf_1, if_neg (by omega), pf_1, if_neg (by omega)]
    have hend : ∀ ρ, jsw e k (pf (pf σ 2 8 ((p + 2 : Nat) : Int)) 2 9 ((0 : Nat) : Int)) none ρ → w_Reader_seek L 1055 (fun σ11 => inR ((σ11.1 2 2) - (σ11.1 2 10)) ∧ w_Reader_need L 1055 (fun σ13 => w_Reader_lookForColon L (σ13.1 2 8) (σ13.1 2 9) (fun σ15 => Q σ15) σ13) (pf σ11 2 11 ((σ11.1 2 2) - (σ11.1 2 10)))) (pf ρ 2 10 (ρ.1 2 2)) := fun ρ hρ => htail (p + 2) 0 (by omega) none ρ (fun f hf => by cases hf) hρ (hbadQ hpin (p + 2) 0)
    have hrw : (pf (pf (flt (pf σ 2 2 ((p + 2 : Nat) : Int)) 5) 2 8 ((p + 2 : Nat) : Int)) 2 9 ((0 : Nat) : Int)).2 = σ.2 := by rw [hfe]; rfl
    refine sp_Reader_isWrittenAs hS.2.2.1 (by intro i hi; rw [hrw]; exact hch2 i hi) (p + 2) 0 rfl rfl (by omega) ti_1054 (fun cx => ?_) (fun _ => ?_)
    · exfalso
      have := congrArg List.length cx
      rw [List.length_map, sl_ln] at this
      exact absurd this (by decide)
    · unfold WJ
      try dsimp only
      rw [if_pos rfl]
      refine w_skipSpace hSw hk hjw (fun v ρ hρ _ => ?_)
      have hρ' : jsw e k (pf (pf σ 2 8 ((p + 2 : Nat) : Int)) 2 9 ((0 : Nat) : Int)) none ρ := hρ
      split
      · obtain ⟨q, hj, hqk⟩ := hρ'.1.1.jt hSw hk
        refine sp_Reader_at hj ti_1055 (by decide) ?_
        split
        · exact w_fail hSw hρ' hend
        · exact hend ρ hρ'
      · exact hend ρ hρ'
end JIn
