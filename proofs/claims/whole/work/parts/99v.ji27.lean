/-! ===== items of the class: one definition of an attribute list (4): its value ===== -/
section JI27
variable {L : Nat → Nat} {rm nd : Nat} {ρ : IS} {B : AS}
theorem dfK_rng {T : Nat → Int} {e i : Nat} : 1 ≤ dfK T e i ∧ dfK T e i ≤ 4 := by
  unfold dfK
  split
  · omega
  · split
    · omega
    · split <;> omega
set_option maxHeartbeats 1000000 in
theorem j_def2 {J : Int → IS → Prop} {l : List Int} {g : Nat × Nat} {t : List Frm} {p y w k j b ty : Nat} {ls : List Str} {v33 tyI : Int} (hln : JLn L rm nd) (hA : AP L rm nd (adv B y) ((p + y : Nat) : Int) b ls ρ) (hF : aF B = (l, g) :: t) (hk : dfP (gd l) l.length w = some k) (hyk : y ≤ k) (hkl : k ≤ l.length) (h2 : ρ.1 2 2 = ((p + k : Nat) : Int)) (hj : dft (gd l) l.length w = some j) (hv33 : v33 = jhw (dfK (gd l) l.length w)) (hty : tyI = (ty : Int) + 10)
    (hGO : GO (aE B) (aF B)) (hen : (aE B).length < rm / 14 + 2) (hN5 : aN B 5 ≤ 1) (hc : aN B 0 ≤ rm) (hl : j - 1 - (k + 1) ≤ aN B 0) (hm : aN B 1 ≤ 700000) (hcapT : jtp ρ + (j - 1 - (k + 1)) + (rm - aN B 0) ≤ L 101) (hcapW : jw ρ < L 102)
    (hno : dfV (gd l) l.length w = none → RJ L rm nd (pf ρ 4 16 (b : Int)) (adv B j) → J (-1) ρ)
    (hbad : ∀ f ρ' x, dfV (gd l) l.length w = some k → vlp (gd l) l.length (some k) = some j → val rm B (sl (gd l) (k + 1) (j - 1 - (k + 1))) (aN B 0) (aN B 1) = .inl f → JBd L rm nd ρ' f (ρ.1 2 5) → J x ρ')
    (hgood : ∀ c m out x ρ', dfV (gd l) l.length w = some k → vlp (gd l) l.length (some k) = some j → val rm B (sl (gd l) (k + 1) (j - 1 - (k + 1))) (aN B 0) (aN B 1) = .inr (c, m, out) → RJ L rm nd (pf ρ' 4 16 (b : Int)) (adv (sN (sN B 0 c) 1 m) j) → sgr ρ ρ' → Jn ρ' x (nrt ty out) → (jw ρ' ≤ jw ρ + 1 ∧ (nrt ty out = [] → jw ρ' = jw ρ)) → jtp ρ' ≤ jtp ρ + (nrt ty out).length → c ≤ rm → (∀ o k, ¬ (o = 1 ∧ (k = 3 ∨ k = 13 ∨ k = 14)) → ¬ (o = 2 ∧ k ≠ 5) → ¬ (o = 3 ∧ 12 ≤ k ∧ k ≤ 14) → ρ'.1 o k = ρ.1 o k) → ρ'.2 124 = ρ.2 124 → ρ'.1 2 3 = ρ.1 2 3 → J x ρ') :
    (if ¬ v33 < 2 ∧ (¬ (1 : Int) = 0) then w_Entities_readValue L (fun v53 σ52 => WJ (fun (s56 : Int) (σ57 : IS) => J s56 σ57) (fun J54 => if (σ52.1 2 4) = 0 then w_Entities_keepValue L v53 tyI (fun v60 σ59 => J54 v60 σ59) σ52 else J54 (-1) σ52)) ρ else if v33 < 2 then J (-1) ρ else w_Reader_checkValue L (fun σ62 => J (-1) σ62) ρ) := by
  have hrg := dfK_rng (T := gd l) (e := l.length) (i := w)
  have hcy : (cur (adv B y)).length = l.length - y := by
    rw [adv_of hF]
    show (l.drop y).length = _
    rw [List.length_drop]
  have hR := hA.pl (k := k - y) hln rfl (by rw [hcy]; omega) (by rw [show y + (k - y) = k by omega]; exact h2)
  rw [show y + (k - y) = k by omega] at hR
  unfold dfP at hk
  unfold dft at hj
  generalize hdk : dfK (gd l) l.length w = dk at *
  by_cases c1 : dk = 1
  · rw [if_pos c1] at hk hj
    have e1 : v33 = 1 := by rw [hv33, c1]; rfl
    rw [if_neg (by rw [e1]; omega), if_pos (by rw [e1]; omega)]
    have e2 : j = k := by rw [hk] at hj; exact (Option.some.inj hj).symm
    refine hno ?_ (by rw [e2]; exact hR)
    unfold dfV
    rw [hdk, if_neg (by omega), if_neg (by omega)]
  · rw [if_neg c1] at hk hj
    by_cases c2 : dk = 2
    · rw [if_pos c2] at hk hj
      have e1 : v33 = 0 := by rw [hv33, c2]; rfl
      rw [if_neg (by rw [e1]; omega), if_pos (by rw [e1]; omega)]
      have e2 : j = k := by rw [hk] at hj; exact (Option.some.inj hj).symm
      refine hno ?_ (by rw [e2]; exact hR)
      unfold dfV
      rw [hdk, if_neg (by omega), if_neg (by omega)]
    · rw [if_neg c2] at hk hj
      have e1 : v33 = (dk : Int) - 1 := by rw [hv33]; unfold jhw; rw [if_neg c1, if_neg c2]
      rw [if_pos ⟨by omega, by decide⟩]
      have hj' : vlp (gd l) l.length (some k) = some j := by rw [hk] at hj; exact hj
      exact sp_value hln hR hF hj' hGO hen hN5 hc hl hm hcapT hcapW hty (fun f ρ' x h1 h2 => hbad f ρ' x hk hj' h1 h2) (fun c m out x ρ' h1 => hgood c m out x ρ' hk hj' h1)
end JI27
