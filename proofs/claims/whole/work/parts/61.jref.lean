/-! ===== references: what they are made of ===== -/
theorem skw_all {p : Int → Bool} {T : Nat → Int} : ∀ (n i q : Nat), i ≤ q → q < skw p T n i → p (T q) = true := by
  intro n
  induction n with
  | zero => intro i q h1 h2; exact absurd h2 (by show ¬ q < i; omega)
  | succ n ih =>
    intro i q h1 h2
    have h2' : q < (if p (T i) = true then skw p T n (i + 1) else i) := h2
    by_cases c : p (T i) = true
    · rw [if_pos c] at h2'
      by_cases e : q = i
      · rw [e]; exact c
      · exact ih (i + 1) q (by omega) h2'
    · rw [if_neg c] at h2'
      omega
theorem sk_all {p : Int → Bool} {T : Nat → Int} {e i : Nat} (q : Nat) (h1 : i ≤ q) (h2 : q < sk p T e i) : p (T q) = true := skw_all _ _ q h1 h2
def hxP (hex : Bool) : Int → Bool := fun c => if hex = true then hexd c else isDg c
theorem wd1 {T : Nat → Int} {e i j : Nat} {c : Int} (hc : c ≠ -1) (h : wd T e [c] (some i) = some j) : j = i + 1 ∧ i < e ∧ T i = c := by
  have h' : (if mt T e i [c] = true then some (i + 1) else none) = some j := h
  split at h'
  · rename_i hm
    cases h'
    have hm' : ((lk T e i == c) && true) = true := hm
    rw [Bool.and_true] at hm'
    have h2 := lk_lt hc (show lk T e i = c by simpa using hm')
    exact ⟨rfl, h2.1, h2.2⟩
  · cases h'
theorem rfp_num {T : Nat → Int} {e p j : Nat} (h : rfp T e (some p) = some j) (h35 : T (p + 1) = 35) (hex : Bool) (hh : hex = true ↔ T (p + 2) = 120) (k0 : Nat) (hk0 : k0 = if hex = true then p + 3 else p + 2) : k0 + 1 < j ∧ j ≤ e ∧ T (j - 1) = 59 ∧ sk (hxP hex) T e k0 = j - 1 := by
  have hlt := rfp_lt h
  have h' : (if lk T e p = 38 then (if lk T e (p + 1) = 35 then (if lk T e (p + 2) = 120 then (if sk hexd T e (p + 3) = p + 3 then none else wd T e [59] (some (sk hexd T e (p + 3)))) else (if sk isDg T e (p + 2) = p + 2 then none else wd T e [59] (some (sk isDg T e (p + 2))))) else wd T e [59] (nmg T e true (some (p + 1)))) else none) = some j := h
  by_cases c1 : lk T e p = 38
  · rw [if_pos c1] at h'
    by_cases c2 : lk T e (p + 1) = 35
    · rw [if_pos c2] at h'
      have d2 := lk_lt (by decide) c2
      by_cases c3 : lk T e (p + 2) = 120
      · rw [if_pos c3] at h'
        have d3 := lk_lt (by decide) c3
        have hx : hex = true := hh.mpr d3.2
        subst hx
        rw [if_pos rfl] at hk0
        subst hk0
        have hP : hxP true = hexd := by funext c; rfl
        rw [hP]
        split at h'
        · cases h'
        · have g := wd1 (by decide) h'
          have hs := sk_le (p := hexd) (T := T) (show p + 3 ≤ e by omega)
          exact ⟨by omega, by omega, by rw [g.1]; simpa using g.2.2, by omega⟩
      · rw [if_neg c3] at h'
        have hx : hex = false := by
          cases hz : hex with
          | false => rfl
          | true =>
            have h120 := hh.mp hz
            exfalso
            by_cases z : p + 2 < e
            · exact c3 (by unfold lk; rw [if_pos z]; exact h120)
            · have hs : sk isDg T e (p + 2) = p + 2 := sk_end (by omega)
              rw [if_pos hs] at h'
              cases h'
        subst hx
        rw [if_neg (by decide)] at hk0
        subst hk0
        have hP : hxP false = isDg := by funext c; rfl
        rw [hP]
        split at h'
        · cases h'
        · have g := wd1 (by decide) h'
          have hs := sk_le (p := isDg) (T := T) (show p + 2 ≤ e by omega)
          exact ⟨by omega, by omega, by rw [g.1]; simpa using g.2.2, by omega⟩
    · exfalso
      by_cases z : p + 1 < e
      · exact c2 (by unfold lk; rw [if_pos z]; exact h35)
      · rw [if_neg c2] at h'
        cases hn : nmg T e true (some (p + 1)) with
        | none => rw [hn] at h'; cases h'
        | some m => have := nmg_lt hn; omega
  · rw [if_neg c1] at h'
    cases h'
theorem rfp_nam {T : Nat → Int} {e p j : Nat} (h : rfp T e (some p) = some j) (h35 : ¬ T (p + 1) = 35) : nmg T e true (some (p + 1)) = some (j - 1) ∧ T (j - 1) = 59 ∧ p + 2 < j ∧ j ≤ e := by
  have hlt := rfp_lt h
  have h' : (if lk T e p = 38 then (if lk T e (p + 1) = 35 then (if lk T e (p + 2) = 120 then (if sk hexd T e (p + 3) = p + 3 then none else wd T e [59] (some (sk hexd T e (p + 3)))) else (if sk isDg T e (p + 2) = p + 2 then none else wd T e [59] (some (sk isDg T e (p + 2))))) else wd T e [59] (nmg T e true (some (p + 1)))) else none) = some j := h
  by_cases c1 : lk T e p = 38
  · rw [if_pos c1] at h'
    by_cases c2 : lk T e (p + 1) = 35
    · exact absurd (lk_lt (by decide) c2).2 h35
    · rw [if_neg c2] at h'
      cases hn : nmg T e true (some (p + 1)) with
      | none => rw [hn] at h'; cases h'
      | some m =>
        rw [hn] at h'
        have g := wd1 (by decide) h'
        have := nmg_lt hn
        refine ⟨by rw [show j - 1 = m by omega], by rw [show j - 1 = m by omega]; exact g.2.2, by omega, by omega⟩
  · rw [if_neg c1] at h'
    cases h'
def clmp (m N : Int) : Int := if m < N then m else N
theorem clmp_in {N : Int} (h : 0 ≤ N) : -2000000 ≤ clmp 1114112 N ∧ clmp 1114112 N ≤ 2000000 := by
  unfold clmp
  split <;> omega
section JRef
variable {L : Nat → Nat} {σ τ : IS} {e p k : Nat}
theorem j_readReference {Q : IS → Prop} (hS : JS L σ e) (hk : k ≤ 50) (hch : jch L σ) (hp : p < e) (h38 : σ.2 101 p = 38) (h : τ = pf σ 2 2 (p : Int))
    (hN : ∀ j hex k0, rfp (σ.2 101) e (some p) = some j → σ.2 101 (p + 1) = 35 → (hex = true ↔ σ.2 101 (p + 2) = 120) → k0 = (if hex = true then p + 3 else p + 2) → ∀ τ', jst e k (pf σ 2 7 (clmp 1114112 (numl (if hex = true then 16 else 10) (sl (σ.2 101) k0 (j - 1 - k0))))) (some j) τ' → Q τ')
    (hM : ∀ j, rfp (σ.2 101) e (some p) = some j → ¬ σ.2 101 (p + 1) = 35 → ∀ τ', jst e k (pf (pf (pf σ 2 7 (-1)) 2 8 ((p : Int) + 1)) 2 9 ((j : Int) - 1 - ((p : Int) + 1))) (some j) τ' → Q τ')
    (h0 : rfp (σ.2 101) e (some p) = none → ∀ τ', jst e k σ none τ' → Q τ') : w_Reader_readReference L Q τ := by
  have he : e < 1000000 := by have := hS.2.1; have := hS.2.2.1; omega
  have hS7 : JS L (pf σ 2 7 (-1)) e := hS.fld (by omega) (by omega)
  unfold w_Reader_readReference
  rw [h, pf_eq, pf_pf, pf_comm (o := 2) (k := 2) (p := 2) (j := 7) (by omega)]
  refine ⟨⟨by omega, by omega⟩, ?_⟩
  have hl38 : lk (σ.2 101) e p = 38 := by unfold lk; rw [if_pos hp]; exact h38
  have hrf : rfp (σ.2 101) e (some p) = (if lk (σ.2 101) e (p + 1) = 35 then (if lk (σ.2 101) e (p + 2) = 120 then (if sk hexd (σ.2 101) e (p + 3) = p + 3 then none else wd (σ.2 101) e [59] (some (sk hexd (σ.2 101) e (p + 3)))) else (if sk isDg (σ.2 101) e (p + 2) = p + 2 then none else wd (σ.2 101) e [59] (some (sk isDg (σ.2 101) e (p + 2))))) else wd (σ.2 101) e [59] (nmg (σ.2 101) e true (some (p + 1)))) := by
    show (if lk (σ.2 101) e p = 38 then _ else none) = _
    rw [if_pos hl38]
  -- behind a number of either kind
  have hnum : ∀ (hex : Bool) (k0 : Nat), k0 ≤ e → p < k0 → σ.2 101 (p + 1) = 35 → (hex = true ↔ σ.2 101 (p + 2) = 120) → k0 = (if hex = true then p + 3 else p + 2) → rfp (σ.2 101) e (some p) = (if sk (hxP hex) (σ.2 101) e k0 = k0 then none else wd (σ.2 101) e [59] (some (sk (hxP hex) (σ.2 101) e k0))) → w_Reader_readNumber L (if hex = true then 16 else 10) (fun σ16 => w_Reader_need L 1060 (fun σ7 => Q σ7) σ16) (pf (pf σ 2 7 (-1)) 2 2 (k0 : Int)) := by
    intro hex k0 hk0e hpk h35 hh hk0 hr
    have hsl := sk_le (p := hxP hex) (T := σ.2 101) hk0e
    refine sp_Reader_readNumber (hS7.jt hk0e rfl) (by intro i hi; exact hch i hi) hex rfl (fun c => ?_) (fun c => ?_)
    · have c' : sk (hxP hex) (σ.2 101) e k0 ≠ k0 := c
      rw [if_neg c'] at hr
      have hall : ∀ ch ∈ sl (σ.2 101) k0 (sk (hxP hex) (σ.2 101) e k0 - k0), True := fun _ _ => trivial
      show w_Reader_need L 1060 (fun σ7 => Q σ7) (pf (pf (pf (pf σ 2 7 (-1)) 2 2 (k0 : Int)) 2 7 (clmp 1114112 (numl (if hex = true then 16 else 10) (sl (σ.2 101) k0 (sk (hxP hex) (σ.2 101) e k0 - k0))))) 2 2 ((sk (hxP hex) (σ.2 101) e k0 : Nat) : Int))
      rw [pf_num]
      have hcl : -2000000 ≤ clmp 1114112 (numl (if hex = true then 16 else 10) (sl (σ.2 101) k0 (sk (hxP hex) (σ.2 101) e k0 - k0))) ∧ clmp 1114112 (numl (if hex = true then 16 else 10) (sl (σ.2 101) k0 (sk (hxP hex) (σ.2 101) e k0 - k0))) ≤ 2000000 := by
        have hpos : 0 ≤ numl (if hex = true then 16 else 10) (sl (σ.2 101) k0 (sk (hxP hex) (σ.2 101) e k0 - k0)) := by
          refine numl_pos (by cases hex <;> decide) _ (fun ch hcm => ?_)
          unfold sl at hcm
          obtain ⟨q, hq2, rfl⟩ := List.mem_map.mp hcm
          have hq3 := List.mem_range.mp hq2
          have := sk_all (p := hxP hex) (T := σ.2 101) (e := e) (i := k0) (k0 + q) (by omega) (by omega)
          unfold hxP at this
          cases hex
          · exact dg_hex this
          · exact this
        exact clmp_in hpos
      refine j_need (hS.fld (j := 7) (by omega) hcl) hk ti_1060 (by decide) (o := some (sk (hxP hex) (σ.2 101) e k0)) ⟨hsl.2, rfl⟩ (fun τ' hτ => ?_)
      rw [pf_2] at hτ
      rw [← hr] at hτ
      cases hrr : rfp (σ.2 101) e (some p) with
      | none =>
        rw [hrr] at hτ
        exact h0 hrr τ' ((jst.base (by omega)).mp hτ)
      | some j =>
        rw [hrr] at hτ
        have hn := rfp_num hrr h35 hex hh k0 hk0
        rw [hn.2.2.2] at hτ
        exact hN j hex k0 hrr h35 hh hk0 τ' hτ
    · have c' : sk (hxP hex) (σ.2 101) e k0 = k0 := c
      rw [if_pos c'] at hr
      rw [pf_comm (o := 2) (k := 2) (p := 2) (j := 7) (by omega), pf_pf]
      have hb := flt_none (k := k) (hS.fld (j := 7) (x := 0) (by omega) (by omega)) hk0e rfl
      have hb2 : jst e k σ none (flt (pf (pf σ 2 7 0) 2 2 (k0 : Int)) 5) := (jst.base (by omega)).mp hb
      exact j_need hS hk ti_1060 (by decide) hb2 (fun τ' hτ => h0 hr τ' hτ)
  refine j_skip (k := k) hS7 hk ti_1058 (by decide) (o := some (p + 1)) ⟨by omega, by rw [show ((p + 1 : Nat) : Int) = (p : Int) + 1 by omega]⟩ (fun v τ1 hτ1 hv01 hv => ?_)
  have hv' := hv (p + 1) rfl
  rw [pf_2] at hτ1 hv'
  unfold WJ
  try dsimp only
  have hsk : skp (σ.2 101) e [35, 120] (some (p + 1)) = if mt (σ.2 101) e (p + 1) [35, 120] = true then some (p + 1 + 2) else some (p + 1) := rfl
  have hm2 : mt (σ.2 101) e (p + 1) [35, 120] = ((lk (σ.2 101) e (p + 1) == 35) && ((lk (σ.2 101) e (p + 2) == 120) && true)) := rfl
  rw [hv', if_b1]
  by_cases c1 : mt (σ.2 101) e (p + 1) [35, 120] = true
  · rw [if_pos c1]
    rw [hsk, if_pos c1] at hτ1
    rw [hm2, Bool.and_eq_true, Bool.and_true] at c1
    have d1 := lk_lt (by decide) (show lk (σ.2 101) e (p + 1) = 35 by simpa using c1.1)
    have d2 := lk_lt (by decide) (show lk (σ.2 101) e (p + 2) = 120 by simpa using c1.2)
    rw [hτ1.2]
    refine hnum true (p + 3) (by omega) (by omega) d1.2 ⟨fun _ => d2.2, fun _ => rfl⟩ rfl ?_
    rw [hrf, if_pos (show lk (σ.2 101) e (p + 1) = 35 by simpa using c1.1), if_pos (show lk (σ.2 101) e (p + 2) = 120 by simpa using c1.2)]
    rfl
  · rw [if_neg c1]
    rw [hsk, if_neg c1] at hτ1
    refine j_skip (k := k) hS7 hk ti_1059 (by decide) hτ1 (fun v2 τ2 hτ2 _ hv2 => ?_)
    have hv2' := hv2 (p + 1) rfl
    rw [pf_2] at hτ2 hv2'
    have hsk2 : skp (σ.2 101) e [35] (some (p + 1)) = if mt (σ.2 101) e (p + 1) [35] = true then some (p + 1 + 1) else some (p + 1) := rfl
    have hm1 : mt (σ.2 101) e (p + 1) [35] = ((lk (σ.2 101) e (p + 1) == 35) && true) := rfl
    rw [hv2', if_b1]
    by_cases c2 : mt (σ.2 101) e (p + 1) [35] = true
    · rw [if_pos c2]
      rw [hsk2, if_pos c2] at hτ2
      rw [hm1, Bool.and_true] at c2
      have e35 : lk (σ.2 101) e (p + 1) = 35 := by simpa using c2
      have d1 := lk_lt (by decide) e35
      have n120 : ¬ lk (σ.2 101) e (p + 2) = 120 := by
        intro z
        apply c1
        rw [hm2]
        simp [e35, z]
      rw [hτ2.2]
      by_cases z : p + 2 < e
      · have nT : ¬ σ.2 101 (p + 2) = 120 := by
          intro y
          exact n120 (by unfold lk; rw [if_pos z]; exact y)
        refine hnum false (p + 2) (by omega) (by omega) d1.2 ⟨fun y => (Bool.noConfusion y), fun y => absurd y nT⟩ rfl ?_
        rw [hrf, if_pos e35, if_neg n120]
        rfl
      · have hs0 : ∀ P : Int → Bool, sk P (σ.2 101) e (p + 2) = p + 2 := fun P => sk_end (by omega)
        have hr0 : rfp (σ.2 101) e (some p) = none := by rw [hrf, if_pos e35, if_neg n120, if_pos (hs0 _)]
        refine sp_Reader_readNumber (hS7.jt (show p + 2 ≤ e by omega) rfl) (by intro i hi; exact hch i hi) false rfl (fun y => absurd (hs0 _) y) (fun _ => ?_)
        rw [pf_comm (o := 2) (k := 2) (p := 2) (j := 7) (by omega), pf_pf]
        have hb := flt_none (k := k) (hS.fld (j := 7) (x := 0) (by omega) (by omega)) (show p + 2 ≤ e by omega) rfl
        have hb2 : jst e k σ none (flt (pf (pf σ 2 7 0) 2 2 ((p + 2 : Nat) : Int)) 5) := (jst.base (by omega)).mp hb
        exact j_need hS hk ti_1060 (by decide) hb2 (fun τ' hτ => h0 hr0 τ' hτ)
    · rw [if_neg c2]
      rw [hsk2, if_neg c2] at hτ2
      rw [hm1, Bool.and_true] at c2
      have n35 : ¬ lk (σ.2 101) e (p + 1) = 35 := by simpa using c2
      rw [if_neg n35] at hrf
      rw [hτ2.2]
      refine sp_Reader_readName (hS7.jt (show p + 1 ≤ e by omega) rfl) (fun j c => ?_) (fun c => ?_)
      · rw [pf_2] at c
        rw [show ((pf σ 2 7 (-1)).2 101) = σ.2 101 from rfl] at c
        have hn := nmg_lt c
        rw [pf_pf, pf_eq]
        refine ⟨⟨by omega, by omega⟩, ?_⟩
        rw [show ((p + 1 : Nat) : Int) = (p : Int) + 1 by omega]
        have hS9 : JS L (pf (pf (pf σ 2 7 (-1)) 2 8 ((p : Int) + 1)) 2 9 ((j : Int) - ((p : Int) + 1))) e := ((hS7.fld (by omega) (by omega)).fld (by omega) (by omega))
        refine j_need hS9 hk ti_1060 (by decide) (o := some j) ⟨hn.2.2, ?_⟩ (fun τ' hτ => ?_)
        · rw [pf_comm (o := 2) (k := 2) (p := 2) (j := 8) (by omega), pf_comm (o := 2) (k := 2) (p := 2) (j := 9) (by omega)]
        · have hτ' : jst e k (pf (pf (pf σ 2 7 (-1)) 2 8 ((p : Int) + 1)) 2 9 ((j : Int) - ((p : Int) + 1))) (wd (σ.2 101) e [59] (some j)) τ' := hτ
          rw [← c, ← hrf] at hτ'
          cases hrr : rfp (σ.2 101) e (some p) with
          | none =>
            rw [hrr] at hτ'
            exact h0 hrr τ' ((jst.base (by omega)).mp ((jst.base (by omega)).mp ((jst.base (by omega)).mp hτ')))
          | some j2 =>
            rw [hrr] at hτ'
            have nT : ¬ σ.2 101 (p + 1) = 35 := by
              intro y
              exact n35 (by unfold lk; rw [if_pos hn.1]; exact y)
            have hnn := rfp_nam hrr nT
            rw [c] at hnn
            have ej : j = j2 - 1 := Option.some.inj hnn.1
            refine hM j2 hrr nT τ' ?_
            rw [show ((j2 : Int) - 1 - ((p : Int) + 1)) = ((j : Int) - ((p : Int) + 1)) by omega]
            exact hτ'
      · rw [pf_2] at c
        rw [show ((pf σ 2 7 (-1)).2 101) = σ.2 101 from rfl] at c
        have hr0 : rfp (σ.2 101) e (some p) = none := by rw [hrf, c]; rfl
        have hb := flt_none (k := k) hS7 (show p + 1 ≤ e by omega) rfl
        have hb2 : jst e k σ none (flt (pf (pf σ 2 7 (-1)) 2 2 ((p + 1 : Nat) : Int)) 5) := (jst.base (by omega)).mp hb
        have hpos : (flt (pf (pf σ 2 7 (-1)) 2 2 ((p + 1 : Nat) : Int)) 5).1 2 2 = ((p + 1 : Nat) : Int) := by
          unfold flt
          rw [if_pos (by rw [pf_nk (by decide)]; exact hS7.2.2.2.1), pf_nk (by decide), pf_eq]
        rw [hpos]
        refine ⟨⟨by omega, by omega⟩, ?_⟩
        have hb3 : jst e k σ none (pf (pf (flt (pf (pf σ 2 7 (-1)) 2 2 ((p + 1 : Nat) : Int)) 5) 2 8 ((p + 1 : Nat) : Int)) 2 9 (((p + 1 : Nat) : Int) - ((p + 1 : Nat) : Int))) := ⟨(hb2.1.fld (by omega) (by omega)).fld (by omega) (by omega), by rw [pf_nk (by decide), pf_nk (by decide)]; exact hb2.2⟩
        exact j_need hS hk ti_1060 (by decide) hb3 (fun τ' hτ => h0 hr0 τ' hτ)
end JRef
