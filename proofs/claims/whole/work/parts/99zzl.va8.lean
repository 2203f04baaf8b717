/-! ===== the validator: all declared attributes, the loops ===== -/
section VAu
variable {L : Nat → Nat} {σ : IS} {ed : List EDc} {ad : List ADc} {nt : List Str} {Q : IS → Prop}
set_option maxHeartbeats 2000000 in
theorem sp_Validator_countAttributes (h : VD L σ ed ad nt) (hc : ∀ k, 13 ≤ k → k ≤ 19 → 0 ≤ σ.2 149 k ∧ σ.2 149 k ≤ 200000000) (hs : 0 ≤ σ.1 1 16 ∧ σ.1 1 16 ≤ 1900000000) (hm : ∀ w, σ.2 155 w ≤ σ.1 1 16) (hq : ∀ σ', VC σ σ' → σ'.1 1 16 ≤ σ.1 1 16 + (ad.length : Int) → (∀ k, σ'.2 149 k = σ.2 149 k + (cnA ed ad nt k : Int)) → Q σ') : w_Validator_countAttributes L Q σ := by
  obtain ⟨hS, hl, hE, ⟨a1, a2, a3, a4⟩, hN, ⟨l1, l2, l3, l4, l5, l6⟩, l7, l8, l9, l10, l11, l12⟩ := id h
  have hj := hS.jw_le
  have h102 : L 102 < 1000000 := hl.2.2.2.2.2.2.1
  have hj14 : σ.1 1 14 = (jw σ : Int) := by unfold jw; have := hS.1.1; omega
  have hle := ctA_le (ed := ed) (nt := nt) h.len l8
  have hsm : ∀ (P : Nat → Bool) k, sm P (ctA ed ad nt k) ad.length ≤ 700000000 := fun P k => Nat.le_trans (sm_le (hle k) _) l12
  have hsm1 : ∀ (P : Nat → Bool), sm P (fun _ => 1) ad.length ≤ ad.length := fun P => by have := sm_le (P := P) (f := fun _ => 1) (m := 1) (fun _ => Nat.le_refl _) ad.length; omega
  unfold w_Validator_countAttributes
  refine WL_ind (fun s τ => ∃ w : Nat, s = (w : Int) ∧ w ≤ jw σ ∧ VC σ τ ∧ (τ.1 1 16 = σ.1 1 16 + (sm (fun d => dnw σ w (ad.getD d adD).1) (fun _ => 1) ad.length : Int)) ∧ ∀ k, τ.2 149 k = σ.2 149 k + (sm (fun d => dnw σ w (ad.getD d adD).1) (ctA ed ad nt k) ad.length : Int)) (fun s _ => (jw σ - s).toNat) ?_ 0 σ ⟨0, rfl, Nat.zero_le _, VC.refl hm, ?_, fun k => ?_⟩
  · rintro _ τ ⟨w, rfl, hw, v1, v2, v3⟩ K hK
    rw [v1.1 1 14 (by omega), hj14]
    by_cases c : w < jw σ
    · have e126 : σ.2 126 w = en1 (adE ad (wst σ w)) := a3.1 w c
      rw [if_pos (by omega), show Int.toNat (w : Int) = w from rfl, v1.2.1 126 (by decide) (by decide), e126, adE_fnd]
      generalize hsw : wst σ w = s
      have hD : dnw σ w s = false := by
        unfold dnw
        rw [List.any_eq_false]
        intro v hv z
        have hv' := List.mem_range.mp hv
        have := hS.2.2.2 v w (by omega) (by omega) (by rw [hsw]; simpa using z)
        omega
      have hen : ∀ j, -1 ≤ en1 (fnd ad s j) - 1 ∧ en1 (fnd ad s j) - 1 ≤ 1000000 := fun j => by
        cases hf : fnd ad s j with
        | none => show -1 ≤ (0 : Int) - 1 ∧ (0 : Int) - 1 ≤ 1000000; omega
        | some i => have := (fnd_some hf).2.1; show -1 ≤ (i : Int) + 1 - 1 ∧ (i : Int) + 1 - 1 ≤ 1000000; omega
      refine ⟨⟨by omega, by omega⟩, ⟨by have := hen 0; omega, by have := hen 0; omega⟩, ?_⟩
      have hout : ∀ ρ : IS, VC σ ρ → (ρ.1 1 16 = σ.1 1 16 + (sm (chP ad (dnw σ w) s ad.length) (fun _ => 1) ad.length : Int)) → (∀ k, ρ.2 149 k = σ.2 149 k + (sm (chP ad (dnw σ w) s ad.length) (ctA ed ad nt k) ad.length : Int)) → inR ((w : Int) + 1) ∧ K ((w : Int) + 1) ρ := fun ρ r1 r2 r3 => by
        have hl' : ∀ f, sm (fun d => dnw σ (w + 1) (ad.getD d adD).1) f ad.length = sm (chP ad (dnw σ w) s ad.length) f ad.length := fun f => ch_last (fun k y1 y2 => by omega) (fun t => by rw [dnw_s, hsw])
        exact ⟨⟨by omega, by omega⟩, hK _ _ ⟨w + 1, rfl, by omega, r1, by rw [hl']; exact r2, fun k => by rw [hl']; exact r3 k⟩ (by omega)⟩
      refine WL_ind (fun (z : Int × Int × Int × Int) ρ => ∃ (o : Option Nat) (t : Nat), z = (en1 o - 1, b1 ((List.range (o.getD ad.length)).any (fun j => (ad.getD j adD).1 == s && (ad.getD j adD).2.2.1 == 1)), b1 ((List.range (o.getD ad.length)).any (fun j => (ad.getD j adD).1 == s && (ad.getD j adD).2.2.1 == 8)), (t : Int)) ∧ t ≤ o.getD ad.length ∧ (∀ i, o = some i → i < ad.length ∧ (ad.getD i adD).1 = s) ∧ VC σ ρ ∧ (ρ.1 1 16 = σ.1 1 16 + (sm (chP ad (dnw σ w) s (o.getD ad.length)) (fun _ => 1) ad.length : Int)) ∧ ∀ k, ρ.2 149 k = σ.2 149 k + (sm (chP ad (dnw σ w) s (o.getD ad.length)) (ctA ed ad nt k) ad.length : Int)) (fun z _ => (ad.length - z.2.2.2).toNat) ?_ _ τ ?_
      · rintro _ ρ ⟨o, t, rfl, ht, ho, r1, r2, r3⟩ K6 hK6
        dsimp only at hK6 ⊢
        rw [r1.1 4 12 (by omega), a1]
        cases o with
        | none =>
          rw [if_neg (fun z => z.2 rfl)]
          exact hout ρ r1 r2 r3
        | some c =>
          obtain ⟨hcn, hcs⟩ := ho c rfl
          have e1 : en1 (some c) - 1 = (c : Int) := by show (c : Int) + 1 - 1 = c; omega
          have ec : (some c).getD ad.length = c := rfl
          rw [ec] at ht r2 r3
          rw [ec, e1, if_pos ⟨by omega, by omega⟩, show Int.toNat (c : Int) = c from rfl]
          obtain ⟨x148, x118, x119, x120, x122, ⟨b, x121, xb, xl⟩, x123⟩ := a2 c hcn
          rw [r1.2.1 118 (by decide) (by decide), r1.2.1 119 (by decide) (by decide), r1.2.1 120 (by decide) (by decide), x118, x119]
          generalize hp1 : (List.range c).any (fun j => (ad.getD j adD).1 == s && (ad.getD j adD).2.2.1 == 1) = p1
          generalize hp8 : (List.range c).any (fun j => (ad.getD j adD).1 == s && (ad.getD j adD).2.2.1 == 8) = p8
          have l118 := l1 118 (by omega) (by omega)
          have l119 := l1 119 (by omega) (by omega)
          have l120 := l1 120 (by omega) (by omega)
          have l121 := l1 121 (by omega) (by omega)
          have l122 := l1 122 (by omega) (by omega)
          have l123 := l1 123 (by omega) (by omega)
          have xb' : (b : Int) + ((ad.getD c adD).2.2.2.2.2.length : Int) ≤ σ.1 4 16 := xb
          have hb4 : b + (ad.getD c adD).2.2.2.2.2.length ≤ L 124 := by omega
          have k15 : ctA ed ad nt 15 c = if 3 ≤ (ad.getD c adD).2.2.2.1 ∧ asW (ad.getD c adD).2.2.1 (ad.getD c adD).2.2.2.2.2 (ad.getD c adD).2.2.2.2.1 = false then 1 else 0 := rfl
          refine ⟨⟨by omega, by omega⟩, ⟨by omega, by omega⟩, ⟨by omega, by omega⟩, ?_⟩
          refine WJ_of (fun (s12 : Int) ρ' => ρ = ρ' ∧ s12 = (ctA ed ad nt 15 c : Int)) (fun J hJ => ?_) ?_
          · refine WJ_dir ?_
            by_cases cv : 3 ≤ (ad.getD c adD).2.2.2.1
            · rw [if_neg (by rw [if_neg (fun z => jhw_2.mp z cv)]; decide)]
              obtain ⟨v, hv1, hv2, hv3⟩ := x120 cv
              rw [hv1]
              refine ⟨⟨by omega, by omega⟩, sp_Validator_isAsWanted (r1.si hS) hl (by rw [r1.jwE]; exact hv2) ⟨by omega, by omega, by omega⟩ (by rw [r1.2.1 118 (by decide) (by decide)]; exact x118) (by rw [r1.2.1 121 (by decide) (by decide)]; exact x121) (by rw [r1.2.1 122 (by decide) (by decide)]; exact x122) hb4 l9 (fun k hk => by rw [r1.2.1 124 (by decide) (by decide)]; exact r1.jn (xl k hk)) ?_⟩
              rw [if_b1, r1.wstE, hv3]
              by_cases ca : asW (ad.getD c adD).2.2.1 (ad.getD c adD).2.2.2.2.2 (ad.getD c adD).2.2.2.2.1 = true
              · rw [if_pos ca]
                exact hJ _ _ ⟨rfl, by rw [k15, if_neg (fun z => by rw [ca] at z; exact absurd z.2 (by decide))]; rfl⟩
              · rw [if_neg ca]
                exact hJ _ _ ⟨rfl, by rw [k15, if_pos ⟨cv, by simpa using ca⟩]; rfl⟩
            · rw [if_pos (by rw [if_pos (jhw_2.mpr cv)])]
              exact hJ _ _ ⟨rfl, by rw [k15, if_neg (fun z => cv z.1)]; rfl⟩
          · rintro s12 _ ⟨rfl, rfl⟩
            have hbd : ∀ k, 13 ≤ k → k ≤ 19 → 0 ≤ ρ.2 149 k ∧ ρ.2 149 k ≤ 900000000 := fun k hk1 hk2 => by rw [r3 k]; have z1 := hsm (chP ad (dnw σ w) s c) k; have z2 := hc k hk1 hk2; omega
            have hbe : ∀ t, bef ad c t = (List.range c).any (fun j => (ad.getD j adD).1 == s && (ad.getD j adD).2.2.1 == t) := fun t => bef_s hcs
            have hb1 := (hbe 1).trans hp1
            have hb8 := (hbe 8).trans hp8
            generalize hty : (ad.getD c adD).2.2.1 = ty at *
            have k13 : ctA ed ad nt 13 c = if ty = 1 ∧ p1 = true then 1 else 0 := by rw [← hb1, ← hty]; rfl
            have k14 : ctA ed ad nt 14 c = if ty = 1 ∧ 3 ≤ (ad.getD c adD).2.2.2.1 then 1 else 0 := by rw [← hty]; rfl
            have k17 : ctA ed ad nt 17 c = if ty = 8 ∧ p8 = true then 1 else 0 := by rw [← hb8, ← hty]; rfl
            have k18 : ctA ed ad nt 18 c = if ty = 8 ∧ emp ed s = true then 1 else 0 := by rw [← hcs, ← hty]; rfl
            have k16 : ctA ed ad nt 16 c = if ty = 8 then nok nt (ad.getD c adD).2.2.2.2.2 (ad.getD c adD).2.2.2.2.2.length else 0 := by rw [← hty]; rfl
            have k19 : ctA ed ad nt 19 c = rpk (ad.getD c adD).2.2.2.2.2 (ad.getD c adD).2.2.2.2.2.length := rfl
            have ko : ∀ k, ¬ (13 ≤ k ∧ k ≤ 19) → ctA ed ad nt k c = 0 := fun k hk => by
              unfold ctA
              rw [if_neg (by omega), if_neg (by omega), if_neg (by omega), if_neg (by omega), if_neg (by omega), if_neg (by omega), if_neg (by omega)]
            have u15 : ctA ed ad nt 15 c ≤ 1 := by rw [k15]; split <;> omega
            rw [show Int.toNat 15 = 15 from rfl, show Int.toNat 13 = 13 from rfl, show Int.toNat 14 = 14 from rfl, show Int.toNat 17 = 17 from rfl, show Int.toNat 18 = 18 from rfl]
            have h15 := hbd 15 (by omega) (by omega)
            have h13 := hbd 13 (by omega) (by omega)
            have h14 := hbd 14 (by omega) (by omega)
            have b1r : ∀ p : Bool, 0 ≤ b1 p ∧ b1 p ≤ 1 := fun p => by cases p <;> decide
            have b1p := b1r p1
            refine ⟨⟨by omega, by omega⟩, ⟨by omega, by omega⟩, ?_⟩
            refine WJ_of (fun (s16 : Int) ρ' => VC σ ρ' ∧ ρ'.1 1 16 = ρ.1 1 16 ∧ s16 = b1 (p1 || (ty == 1)) ∧ ∀ k, ρ'.2 149 k = ρ.2 149 k + (if k = 13 ∨ k = 14 ∨ k = 15 then (ctA ed ad nt k c : Int) else 0)) (fun J hJ => ?_) ?_
            · by_cases c1 : ty = 1
              · rw [if_pos (by omega)]
                have e13 : ∀ x, (pr ρ 149 15 x).2 149 13 = ρ.2 149 13 := fun x => by rw [pr_2, if_neg (by omega)]
                have e14 : ∀ x y, (pr (pr ρ 149 15 x) 149 13 y).2 149 14 = ρ.2 149 14 := fun x y => by rw [pr_2, if_neg (by omega), pr_2, if_neg (by omega)]
                have ey : (if (if jhw (ad.getD c adD).2.2.2.1 < 2 then (0 : Int) else 1) = 0 then (0 : Int) else 1) = (ctA ed ad nt 14 c : Int) := by
                  rw [k14]
                  by_cases cv : 3 ≤ (ad.getD c adD).2.2.2.1
                  · rw [if_neg (fun z => jhw_2.mp z cv), if_neg (by decide), if_pos ⟨c1, cv⟩]; rfl
                  · rw [if_pos (jhw_2.mpr cv), if_pos rfl, if_neg (fun z => cv z.2)]; rfl
                have u14 : ctA ed ad nt 14 c ≤ 1 := by rw [k14]; split <;> omega
                have e1' : b1 p1 = (ctA ed ad nt 13 c : Int) := by
                  rw [k13]
                  cases p1 with
                  | true => rw [if_pos ⟨c1, rfl⟩]; rfl
                  | false => rw [if_neg (fun z => absurd z.2 (by decide))]; rfl
                rw [e13, e14, ey]
                refine ⟨⟨by omega, by omega⟩, ⟨by omega, by omega⟩, ⟨by omega, by omega⟩, ⟨by omega, by omega⟩, ⟨by omega, by omega⟩, ⟨by omega, by omega⟩, hJ _ _ ⟨r1.prE.prE.prE, rfl, ?_, fun k => ?_⟩⟩
                · rw [c1]; cases p1 <;> rfl
                · rw [pr_2]
                  by_cases y14 : k = 14
                  · rw [if_pos ⟨rfl, y14⟩, if_pos (by omega), y14]
                  · rw [if_neg (fun z => y14 z.2), pr_2]
                    by_cases y13 : k = 13
                    · rw [if_pos ⟨rfl, y13⟩, if_pos (by omega), y13, e1']
                    · rw [if_neg (fun z => y13 z.2), pr_2]
                      by_cases y15 : k = 15
                      · rw [if_pos ⟨rfl, y15⟩, if_pos (by omega), y15]
                      · rw [if_neg (fun z => y15 z.2), if_neg (by omega), Int.add_zero]
              · rw [if_neg (by omega)]
                refine hJ _ _ ⟨r1.prE, rfl, ?_, fun k => ?_⟩
                · rw [show (ty == 1) = false by simpa using c1, Bool.or_false]
                · rw [pr_2]
                  by_cases y15 : k = 15
                  · rw [if_pos ⟨rfl, y15⟩, if_pos (by omega), y15]
                  · rw [if_neg (fun z => y15 z.2)]
                    by_cases y : k = 13 ∨ k = 14
                    · have : ctA ed ad nt k c = 0 := by
                        rcases y with y | y
                        · rw [y, k13, if_neg (fun z => c1 z.1)]
                        · rw [y, k14, if_neg (fun z => c1 z.1)]
                      rw [this, if_pos (by omega)]; simp
                    · rw [if_neg (by omega), Int.add_zero]
            · rintro s16 ρ1 ⟨q1, q2, rfl, q3⟩
              have g17 : ρ1.2 149 17 = ρ.2 149 17 := by rw [q3 17]; simp
              have g18 : ρ1.2 149 18 = ρ.2 149 18 := by rw [q3 18]; simp
              have h17 := hbd 17 (by omega) (by omega)
              have h18 := hbd 18 (by omega) (by omega)
              have b8p := b1r p8
              refine WJ_of (fun (s20 : Int) ρ' => VC σ ρ' ∧ ρ'.1 1 16 = ρ.1 1 16 ∧ s20 = b1 (p8 || (ty == 8)) ∧ ∀ k, ρ'.2 149 k = ρ.2 149 k + (if k = 16 ∨ k = 19 then 0 else (ctA ed ad nt k c : Int))) (fun J hJ => ?_) ?_
              · by_cases c8 : ty = 8
                · rw [if_pos (by omega), g17]
                  have e18 : ∀ x, (pr ρ1 149 17 x).2 149 18 = ρ.2 149 18 := fun x => by rw [pr_2, if_neg (by omega)]; exact g18
                  have e8' : b1 p8 = (ctA ed ad nt 17 c : Int) := by
                    rw [k17]
                    cases p8 with
                    | true => rw [if_pos ⟨c8, rfl⟩]; rfl
                    | false => rw [if_neg (fun z => absurd z.2 (by decide))]; rfl
                  have eb : (if b1 (emp ed (wst σ w)) = 0 then (0 : Int) else 1) = (ctA ed ad nt 18 c : Int) := by
                    rw [hsw, k18, c8]
                    cases emp ed s <;> rfl
                  have u18 : ctA ed ad nt 18 c ≤ 1 := by rw [k18]; split <;> omega
                  refine ⟨⟨by omega, by omega⟩, ⟨by omega, by omega⟩, ⟨by omega, by omega⟩, ⟨by omega, by omega⟩, sp_Declared_isEmpty h q1.prE (by assumption) ?_⟩
                  rw [e18, eb]
                  refine ⟨⟨by omega, by omega⟩, ⟨by omega, by omega⟩, hJ _ _ ⟨q1.prE.prE, q2, ?_, fun k => ?_⟩⟩
                  · rw [c8]; cases p8 <;> rfl
                  · rw [pr_2]
                    by_cases y18 : k = 18
                    · rw [if_pos ⟨rfl, y18⟩, if_neg (by omega), y18]
                    · rw [if_neg (fun z => y18 z.2), pr_2]
                      by_cases y17 : k = 17
                      · rw [if_pos ⟨rfl, y17⟩, if_neg (by omega), y17, e8']
                      · rw [if_neg (fun z => y17 z.2), q3 k]
                        by_cases y : k = 13 ∨ k = 14 ∨ k = 15
                        · rw [if_pos y, if_neg (by omega)]
                        · rw [if_neg y]
                          by_cases y2 : k = 16 ∨ k = 19
                          · rw [if_pos y2]
                          · rw [if_neg y2, ko k (by omega)]; rfl
                · rw [if_neg (by omega)]
                  refine hJ _ _ ⟨q1, q2, ?_, fun k => ?_⟩
                  · rw [show (ty == 8) = false by simpa using c8, Bool.or_false]
                  · rw [q3 k]
                    by_cases y : k = 13 ∨ k = 14 ∨ k = 15
                    · rw [if_pos y, if_neg (by omega)]
                    · rw [if_neg y]
                      by_cases y2 : k = 16 ∨ k = 19
                      · rw [if_pos y2]
                      · rw [if_neg y2]
                        by_cases y17 : k = 17
                        · rw [y17, k17, if_neg (fun z => c8 z.1)]; rfl
                        · by_cases y18 : k = 18
                          · rw [y18, k18, if_neg (fun z => c8 z.1)]; rfl
                          · rw [ko k (by omega)]; rfl
              · rintro s20 ρ2 ⟨w1, w2, rfl, w3⟩
                have eb : (if (ty : Int) + 10 = 18 then (1 : Int) else 0) = b1 (ty == 8) := by
                  by_cases c8 : ty = 8
                  · rw [if_pos (by omega), c8]; rfl
                  · rw [if_neg (by omega), show (ty == 8) = false by simpa using c8]; rfl
                rw [eb]
                have hst := hsm1 (chP ad (dnw σ w) s c)
                refine sp_Validator_countListed (on := ty == 8) (nt := nt) (lst := (ad.getD c adD).2.2.2.2.2) (w1.si hS) hl ⟨by omega, by omega⟩ (by rw [w1.2.1 121 (by decide) (by decide)]; exact x121) (by rw [w1.2.1 122 (by decide) (by decide)]; exact x122) hb4 l9 (fun k hk => by rw [w1.2.1 124 (by decide) (by decide)]; exact w1.jn (xl k hk)) l3 l6 (fun w' hw' => ?_) (fun k hk1 hk2 => ?_) ⟨by rw [w2, r2]; omega, by rw [w2, r2]; omega⟩ w1.2.2.2 (fun ρ3 z1 z2 z3 => ?_)
                · rw [w1.jwE] at hw'
                  have : σ.2 127 w' = if wst σ w' ∈ nt then 1 else 0 := hN.2.1 w' hw'
                  rw [w1.2.1 127 (by decide) (by decide), w1.wstE, this]
                  by_cases y : wst σ w' ∈ nt
                  · rw [if_pos y]; exact ⟨fun z => by omega, fun z => absurd y z⟩
                  · rw [if_neg y]; exact ⟨fun _ => y, fun _ => rfl⟩
                · have y1 := hbd k hk1 hk2
                  have y2 : ctA ed ad nt k c ≤ L 124 := hle k c
                  rw [w3 k]
                  split <;> omega
                · rw [z1.2.1 123 (by decide) (by decide), w1.2.1 123 (by decide) (by decide)]
                  have hx : σ.2 123 c = en1 (adX ad c) - 1 := by omega
                  have hX : adX ad c = fnd ad s (c + 1) := by rw [adX_fnd, hcs]
                  have hc' : c < (adX ad c).getD ad.length ∧ (adX ad c).getD ad.length ≤ ad.length ∧ ∀ k, c < k → k < (adX ad c).getD ad.length → (ad.getD k adD).1 ≠ s := by
                    rw [hX]
                    cases hf : fnd ad s (c + 1) with
                    | none => exact ⟨hcn, Nat.le_refl _, fun k y1 y2 => fnd_none hf k y1 y2⟩
                    | some i => exact ⟨(fnd_some hf).1, Nat.le_of_lt (fnd_some hf).2.1, fun k y1 y2 => (fnd_some hf).2.2.2 k y1 y2⟩
                  have hstep : ∀ f, sm (chP ad (dnw σ w) s ((adX ad c).getD ad.length)) f ad.length = sm (chP ad (dnw σ w) s c) f ad.length + f c := fun f => ch_step hcn hcs hD hc'.1 (fun k y1 y2 _ => hc'.2.2 k y1 y2)
                  refine ⟨⟨by omega, by omega⟩, ⟨by omega, by omega⟩, hK6 _ _ ⟨adX ad c, t + 1, ?_, by omega, fun i hi => ?_, w1.trans z1, ?_, fun k => ?_⟩ (by dsimp only; omega)⟩
                  · rw [hx, any_step hcs hc'.1 hc'.2.2, any_step hcs hc'.1 hc'.2.2, hp1, hp8, hty]; rfl
                  · rw [hX] at hi; exact ⟨(fnd_some hi).2.1, (fnd_some hi).2.2.1⟩
                  · rw [z2, w2, r2, hstep]; omega
                  · rw [z3 k, w3 k, r3 k, hstep]
                    by_cases y16 : k = 16
                    · rw [if_pos (by omega), if_pos y16, y16, k16]
                      by_cases c8 : ty = 8
                      · rw [if_pos c8, if_pos (by rw [c8]; rfl)]; omega
                      · rw [if_neg c8, if_neg (by simpa using c8)]; omega
                    · rw [if_neg y16]
                      by_cases y19 : k = 19
                      · rw [if_pos (by omega), if_pos y19, y19, k19]; omega
                      · rw [if_neg (by omega), if_neg y19]; omega
      · have hfst : ∀ k, k < (fnd ad s 0).getD ad.length → k < ad.length → (ad.getD k adD).1 ≠ s := fun k y1 y2 => by
          cases hf : fnd ad s 0 with
          | none => exact fnd_none hf k (Nat.zero_le _) y2
          | some i => rw [hf] at y1; exact (fnd_some hf).2.2.2 k (Nat.zero_le _) y1
        have hany : ∀ t, (List.range ((fnd ad s 0).getD ad.length)).any (fun j => (ad.getD j adD).1 == s && (ad.getD j adD).2.2.1 == t) = false := fun t => by
          rw [List.any_eq_false]
          intro j hj' z
          rw [Bool.and_eq_true] at z
          have hj2 := List.mem_range.mp hj'
          refine hfst j hj2 ?_ (by simpa using z.1)
          cases hf : fnd ad s 0 with
          | none => rw [hf] at hj2; exact hj2
          | some i => rw [hf] at hj2; have := (fnd_some hf).2.1; have hj3 : j < i := hj2; omega
        refine ⟨fnd ad s 0, 0, by rw [hany, hany]; rfl, Nat.zero_le _, fun i hi => ⟨(fnd_some hi).2.1, (fnd_some hi).2.2.1⟩, v1, by rw [ch_first hfst]; exact v2, fun k => by rw [ch_first hfst]; exact v3 k⟩
    · rw [if_neg (by omega)]
      have ew : w = jw σ := by omega
      have hall : ∀ f, sm (fun d => dnw σ w (ad.getD d adD).1) f ad.length = sm (fun _ => true) f ad.length := fun f => sm_ext (fun d hd => by
        have hne : en1 (adE ad (ad.getD d adD).1) ≠ 0 := by
          rw [adE_fnd]
          cases hf : fnd ad (ad.getD d adD).1 0 with
          | none => exact absurd rfl (fnd_none hf d (Nat.zero_le _) hd)
          | some i => show (i : Int) + 1 ≠ 0; omega
        obtain ⟨v, hv, hvs⟩ := a3.2.2 _ hne
        show dnw σ w _ = true
        unfold dnw
        rw [List.any_eq_true]
        exact ⟨v, List.mem_range.mpr (by omega), by simpa using hvs⟩)
      refine hq τ v1 ?_ (fun k => ?_)
      · rw [v2]; have := hsm1 (fun d => dnw σ w (ad.getD d adD).1); omega
      · rw [v3 k, hall]; rfl
  · rw [sm_none (P := fun d => dnw σ 0 (ad.getD d adD).1) (fun d _ => rfl)]; simp
  · rw [sm_none (P := fun d => dnw σ 0 (ad.getD d adD).1) (fun d _ => rfl)]; simp
end VAu
