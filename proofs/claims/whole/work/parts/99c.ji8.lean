/-! ===== items of the class: words kept; notations; the declaration's begin; ends of texts ===== -/
section JI8
variable {L : Nat → Nat} {rm nd : Nat} {σ τ : IS} {a : AS} {Q : IS → Prop}
/-- the same but for the store's words -/
def frW (σ σ' : IS) : Prop := (∀ o k, ¬ (o = 1 ∧ (k = 13 ∨ k = 14)) → σ'.1 o k = σ.1 o k) ∧ ∀ r, r < 102 ∨ 106 < r → σ'.2 r = σ.2 r
theorem sp_int {Q : Int → IS → Prop} {s n : Nat} {x1 x2 : Int} (hln : JLn L rm nd) (h : RJ L rm nd σ a) (hcap : jw σ < L 102) (hb : s + n ≤ jtp σ) (hx1 : x1 = (s : Int)) (hx2 : x2 = (n : Int)) (hq : ∀ x σ', RJ L rm nd σ' a → sgr σ σ' → Jn σ' x (sl (σ.2 101) s n) → jw σ' ≤ jw σ + 1 → jtp σ' = jtp σ → frW σ σ' → Q x σ') : w_Store_intern L x1 x2 Q σ := by
  have hj := h.1.1.jtp_le
  have hjw := h.1.1.jw_le
  refine sp_Store_intern h.1.1 hln.1 ⟨by omega, by omega, by omega⟩ (fun _ => by omega) (fun x σ' hin => ?_)
  rw [show x1.toNat = s by omega, show x2.toNat = n by omega] at hin
  obtain ⟨hg, hJn⟩ := hin.gr h.1.1
  obtain ⟨i1, -, -, i4, -, i6⟩ := hin
  have hA : ∀ (F : Nat → Nat → Bool) (R : Nat → Bool), (∀ o k, F o k = true → ¬ (o = 1 ∧ (k = 13 ∨ k = 14))) → (∀ r, R r = true → r < 102 ∨ 106 < r) → ag F R σ σ' := fun F R hF hR => ⟨fun o k hk => i4.1 o k (hF o k hk), fun r hr => funext (fun i => i4.2 r i (hR r hr))⟩
  have hZ : JZ L rm nd σ' := h.1.dep i1 hg (jch_row h.1.2.1 (funext (fun i => i4.2 101 i (by omega)))) (rng_of h.1.2.2.2.2.2.1 (fun j _ _ => i4.1 2 j (by omega))) (hA _ _ (fun o k hk => by simp [fZ] at hk; omega) (fun r hr => by simp [rZ] at hr; omega))
  have hj' := i1.jw_le
  refine hq x σ' (h.mk' hln hZ hg (Or.inl ⟨hA _ _ (fun o k hk => by simp [fFr] at hk; omega) (fun r hr => by simp [rFr] at hr; omega), rfl, rfl⟩) (Or.inl ⟨hA _ _ (fun o k hk => by simp [fEn] at hk; omega) (fun r hr => by simp [rEn] at hr; omega), rfl, rfl⟩) (Or.inl ⟨hA _ _ (fun o k hk => by simp [fNu] at hk; omega) (fun r hr => by simp [rNo] at hr), rfl⟩) (Or.inl ⟨hA _ _ (fun o k hk => by simp [fRo] at hk; omega) (fun r hr => by simp [rNo] at hr), rfl⟩) (Or.inl ⟨hA _ _ (fun o k hk => by simp [fEd] at hk; omega) (fun r hr => by simp [rEd] at hr; omega), rfl⟩) (Or.inl ⟨hA _ _ (fun o k hk => by simp [fAd] at hk; omega) (fun r hr => by simp [rAd] at hr; omega), rfl⟩) (Or.inl ⟨hA _ _ (fun o k hk => by simp [fNt] at hk; omega) (fun r hr => by simp [rNt] at hr; omega), rfl⟩) (Or.inl ⟨hA _ _ (fun o k hk => by simp [fEl] at hk; omega) (fun r hr => by simp [rEl] at hr; omega), rfl, rfl⟩) (Or.inl ⟨hA _ _ (fun o k hk => by simp [fAt] at hk; omega) (fun r hr => by simp [rAt] at hr; omega), rfl⟩) (Or.inl ⟨hA _ _ (fun o k hk => by simp [fSt] at hk; omega) (fun r hr => by simp [rSt] at hr; omega), rfl⟩) ⟨by rw [i4.1 2 4 (by omega)]; exact h.2.2.2.2.2.2.2.2.2.2.2.1, by rw [i4.1 2 6 (by omega)]; exact h.2.2.2.2.2.2.2.2.2.2.2.2⟩) hg hJn ?_ (by unfold jtp; rw [i4.1 1 3 (by omega)]) ⟨fun o k hk => i4.1 o k hk, fun r hr => funext (fun i => i4.2 r i hr)⟩
  rcases i6 with h6 | h6
  · have := h6.2.1; omega
  · have := h6.2.1; omega
theorem sp_int_w {Q : Int → IS → Prop} {f : Nat} {pl x1 x2 : Int} (hln : JLn L rm nd) (h : JBd L rm nd σ f pl) (hcap : jw σ < L 102) (hb : 0 ≤ x1 ∧ 0 ≤ x2 ∧ x1 + x2 ≤ σ.1 1 3) (hq : ∀ x σ', JBd L rm nd σ' f pl → frW σ σ' → Q x σ') : w_Store_intern L x1 x2 Q σ := by
  obtain ⟨h1, h2, h3, h4, h5⟩ := h
  have hjw := h1.1.jw_le
  refine sp_Store_intern h1.1 hln.1 hb (fun _ => by omega) (fun x σ' hin => ?_)
  obtain ⟨hg, hJn⟩ := hin.gr h1.1
  obtain ⟨i1, -, -, i4, -, i6⟩ := hin
  have hZ : JZ L rm nd σ' := h1.dep i1 hg (jch_row h1.2.1 (funext (fun i => i4.2 101 i (by omega)))) (rng_of h1.2.2.2.2.2.1 (fun j _ _ => i4.1 2 j (by omega))) ⟨fun o k hk => i4.1 o k (by simp [fZ] at hk; omega), fun r hr => funext (fun i => i4.2 r i (by simp [rZ] at hr; omega))⟩
  refine hq x σ' ⟨hZ, by rw [i4.1 2 4 (by omega)]; exact h2, h3, by rw [i4.1 2 5 (by omega)]; exact h4, fun r hr w w1 w2 => ?_⟩ ⟨fun o k hk => i4.1 o k hk, fun r hr => funext (fun i => i4.2 r i hr)⟩
  rw [i4.2 r w (by omega)]
  exact h5 r hr w (Nat.le_trans hg.1 w1) w2
theorem JC.cap (hln : JLn L rm nd) (hG : GA rm nd a) (hC : JC L σ a) : jw σ < L 102 := by
  obtain ⟨-, -, ⟨r1, r2, -⟩, -⟩ := hG
  have h102 := hln.2.2.2.1
  obtain ⟨-, -, -, d⟩ := hC
  omega
theorem ndu_app {nt : List Str} {s : Str} : ndu (nt ++ [s]) = ndu nt + (if s ∈ nt then 1 else 0) := by
  induction nt with
  | nil => rfl
  | cons x r ih =>
    show ndu (r ++ [s]) + (if x ∈ r ++ [s] then 1 else 0) = ndu r + (if x ∈ r then 1 else 0) + (if s ∈ x :: r then 1 else 0)
    rw [ih]
    by_cases c1 : x = s
    · subst c1
      have e1 : x ∈ r ++ [x] := by simp
      have e2 : x ∈ x :: r := by simp
      rw [if_pos e1, if_pos e2]
    · have e1 : (x ∈ r ++ [s]) ↔ x ∈ r := by simp [c1]
      have e2 : (s ∈ x :: r) ↔ s ∈ r := by
        rw [List.mem_cons]
        exact ⟨fun z => z.resolve_left (fun z => c1 z.symm), Or.inr⟩
      simp only [e1, e2]
      omega
set_option maxHeartbeats 1000000 in
theorem jI_not (hln : JLn L rm nd) (h : RJ L rm nd σ a) (hG : GA rm nd a) (hC : JC L σ a) (hm : mt (gd (cur a)) (cur a).length 0 [60, 33, 78, 79, 84, 65, 84, 73, 79, 78] = true) (hq : JO L rm nd σ Q (iNot a)) : w_Doctype_readNotation L Q σ := by
  obtain ⟨p, g, t, hF, hp, hS, hT, htp, hj⟩ := h.at hln
  have hjl := h.1.1.jtp_le
  have h9 : L 101 < 1000000 := hln.1.2.2.2.2.2.2.2
  have hcap := hC.cap hln hG
  obtain ⟨gO, gw, ⟨r1, r2, r3, r4⟩, ⟨c1, c2, c3, c4, c5, c6⟩, ⟨b1, b2⟩, gp, ho, ⟨gf1, gf2⟩, g1, g2, g3, g4⟩ := id hG
  have hrm := hln.2.1
  have hm' : mt (σ.2 101) (p + (cur a).length) p [60, 33, 78, 79, 84, 65, 84, 73, 79, 78] = true := by
    have := sh_mt hT [60, 33, 78, 79, 84, 65, 84, 73, 79, 78] 0
    rw [show p + 0 = p by omega] at this
    rw [this]; exact hm
  have h10 : 10 ≤ (cur a).length := wd_bad (l := [60, 33, 78, 79, 84, 65, 84, 73, 79, 78]) ti_1031 (by decide) hm
  have hnt := sh_ntk hT 0
  rw [show p + 0 = p by omega] at hnt
  have hid : iNot a = match spc (gd (cur a)) (cur a).length (some 10), ntk (gd (cur a)) (cur a).length 0 with
    | some s, some k => match nmg (gd (cur a)) (cur a).length true (some s) with
      | some n => .inr (adv (sN (sT a (aT a ++ [sl (gd (cur a)) s (n - s)])) 2 (aN a 2 + (hasc (sl (gd (cur a)) s (n - s))).toNat)) k)
      | none => .inl 5
    | _, _ => .inl 5 := rfl
  refine j_readNotation hS h.1.2.1 hm' hj (fun s' n' k' τ hs hn hk hτ => ?_) (fun hno τ hτ => ?_)
  · rw [sh_spcs hT] at hs
    obtain ⟨s, hs1, rfl⟩ := mvo_eq_some.mp hs
    rw [sh_nmgs hT] at hn
    obtain ⟨n, hn1, rfl⟩ := mvo_eq_some.mp hn
    rw [hnt] at hk
    obtain ⟨k, hk1, rfl⟩ := mvo_eq_some.mp hk
    rw [hs1, hk1] at hid
    dsimp only at hid
    rw [hn1] at hid
    dsimp only at hid
    have hsl := spc_gt h10 hs1
    have hnl := nmg_lt hn1
    have hkl : k ≤ (cur a).length := by have := hτ.at.2; omega
    have hkn : 12 ≤ k := by
      by_cases c : 12 ≤ k
      · exact c
      · exfalso
        unfold ntk at hk1
        rw [show 0 + 10 = 10 from rfl, hs1, hn1] at hk1
        cases hz : spc (gd (cur a)) (cur a).length (some n) with
        | none => rw [hz] at hk1; cases hk1
        | some z =>
          rw [hz] at hk1
          have g5 := spc_gt hnl.2.2 hz
          cases ho' : outJ (gd (cur a)) (cur a).length true (some z) with
          | none => rw [ho'] at hk1; cases hk1
          | some w =>
            rw [ho'] at hk1
            have hw : z ≤ w ∧ w ≤ (cur a).length := by
              have ho2 : (if mt (gd (cur a)) (cur a).length z [83, 89, 83, 84, 69, 77] = true then ltl (gd (cur a)) (cur a).length (spc (gd (cur a)) (cur a).length (some (z + 6))) else match plt (gd (cur a)) (cur a).length (spc (gd (cur a)) (cur a).length (wd (gd (cur a)) (cur a).length [80, 85, 66, 76, 73, 67] (some z))) with
                | none => none
                | some j => if sk isSp (gd (cur a)) (cur a).length j ≠ j ∧ isQt (lk (gd (cur a)) (cur a).length (sk isSp (gd (cur a)) (cur a).length j)) = true then ltl (gd (cur a)) (cur a).length (some (sk isSp (gd (cur a)) (cur a).length j)) else if true = true then some (sk isSp (gd (cur a)) (cur a).length j) else none) = some w := ho'
              split at ho2
              · rename_i c6
                have g6 : z + 6 ≤ (cur a).length := wd_bad (l := [83, 89, 83, 84, 69, 77]) ti_1062 (by decide) c6
                cases hz2 : spc (gd (cur a)) (cur a).length (some (z + 6)) with
                | none => rw [hz2] at ho2; cases ho2
                | some y =>
                  rw [hz2] at ho2
                  have g7 := spc_gt g6 hz2
                  have g8 := ltl_lt ho2
                  omega
              · split at ho2
                · cases ho2
                · rename_i j hj'
                  have g8 : z ≤ j ∧ j ≤ (cur a).length := by
                    cases hw2 : wd (gd (cur a)) (cur a).length [80, 85, 66, 76, 73, 67] (some z) with
                    | none => rw [hw2] at hj'; cases hj'
                    | some y =>
                      rw [hw2] at hj'
                      have g9 := wd_gt hw2
                      have g10 : y ≤ (cur a).length := wdl_le ti_1063 (fun i hi => by cases hi; omega) y hw2
                      have g11 : [(80 : Int), 85, 66, 76, 73, 67].length = 6 := rfl
                      cases hz2 : spc (gd (cur a)) (cur a).length (some y) with
                      | none => rw [hz2] at hj'; cases hj'
                      | some y2 =>
                        rw [hz2] at hj'
                        have g12 := spc_gt g10 hz2
                        have g13 := plt_le j hj'
                        cases hl : ltl (gd (cur a)) (cur a).length (some y2) with
                        | none => rw [plt_none hl] at hj'; cases hj'
                        | some m =>
                          rw [plt_of hl] at hj'
                          have g14 := ltl_lt hl
                          split at hj'
                          · cases hj'; omega
                          · cases hj'
                  have g15 := sk_le (p := isSp) (T := gd (cur a)) g8.2
                  split at ho2
                  · have := ltl_lt ho2; omega
                  · rw [if_pos rfl] at ho2
                    cases ho2
                    omega
            have hw1 := wd1 (by decide) (show wd (gd (cur a)) (cur a).length [62] (some (sk isSp (gd (cur a)) (cur a).length w)) = some k from hk1)
            have := sk_le (p := isSp) (T := gd (cur a)) hw.2
            omega
    obtain ⟨hR, -⟩ := h.rd hln hp hkl hτ
    obtain ⟨s1, s2, s3, s4, s5⟩ := hτ.store
    rw [adv_of hF] at hR
    generalize hX : ((cur a).drop k, g) :: t = X at *
    have hτ101 : τ.2 101 = σ.2 101 := by rw [hτ.row]
    have hstr : sl (τ.2 101) (p + s) (n - s) = sl (gd (cur a)) s (n - s) := by rw [hτ101]; exact sh_sl hT (by omega)
    have h6 : τ.1 2 6 = (aN a 2 : Int) := hR.2.2.2.2.2.2.2.2.2.2.2.2
    have hh : 0 ≤ hasc (sl (gd (cur a)) s (n - s)) ∧ hasc (sl (gd (cur a)) s (n - s)) ≤ 1 := by unfold hasc; split <;> omega
    refine sp_Reader_lookForColon (p + s) (n - s) rfl (by omega) (by omega) h9 (by rw [h6]; omega) ?_
    rw [hstr, h6, show (aN a 2 : Int) + hasc (sl (gd (cur a)) s (n - s)) = ((aN a 2 + (hasc (sl (gd (cur a)) s (n - s))).toNat : Nat) : Int) by omega]
    generalize hcl : aN a 2 + (hasc (sl (gd (cur a)) s (n - s))).toNat = cl at *
    obtain ⟨hR1, hg1⟩ := hR.col (n := cl) hln (by omega)
    have hjw1 : jw (pf τ 2 6 (cl : Int)) = jw σ := by unfold jw; rw [pf_no (by decide)]; exact s1
    have hjt1 : jtp (pf τ 2 6 (cl : Int)) = jtp σ := by unfold jtp; rw [pf_no (by decide)]; exact s2
    refine sp_int (s := p + s) (n := n - s) hln hR1 (by omega) (by omega) rfl (by omega) (fun x σ1 hR2 hg2 hJn hjw2 hjt2 hfr => ?_)
    have hstr2 : sl ((pf τ 2 6 (cl : Int)).2 101) (p + s) (n - s) = sl (gd (cur a)) s (n - s) := hstr
    rw [hstr2] at hJn
    have hxr := hJn.rng hR2.1.1
    have hL127 : L 127 = L 102 := hln.2.2.2.2.2.1.2.2.2.2
    have hNt := hR2.2.2.2.2.2.2.2.1
    have hNt1 : σ1.1 4 18 = (ndu (aT a) : Int) := hNt.1
    have hNt2 : WM L σ1 127 (fun s => if s ∈ aT a then 1 else 0) := hNt.2
    have h127 : σ1.2 127 x.toNat = if sl (gd (cur a)) s (n - s) ∈ aT a then 1 else 0 := by rw [hNt2.1 _ hxr.2.2.2.1, hxr.2.2.2.2]
    have hndl : ∀ l : List Str, ndu l ≤ l.length := by
      intro l
      induction l with
      | nil => exact Nat.le_refl _
      | cons x r ih => show ndu r + (if x ∈ r then 1 else 0) ≤ r.length + 1; split <;> omega
    unfold w_Declared_addNotation
    rw [hNt1, h127]
    have hnd2 := hndl (aT a)
    refine ⟨⟨by omega, by omega⟩, ⟨by split <;> omega, by split <;> omega⟩, ⟨by omega, by omega⟩, ?_⟩
    generalize hnm : sl (gd (cur a)) s (n - s) = nm at *
    have hv : (ndu (aT a) : Int) + (if nm ∈ aT a then 1 else 0) = (ndu (aT a ++ [nm]) : Int) := by
      rw [ndu_app]
      split <;> omega
    rw [hv]
    generalize hφ : pr (pf σ1 4 18 (ndu (aT a ++ [nm]) : Int)) 127 x.toNat 1 = φ
    have hA : ∀ (F : Nat → Nat → Bool) (R : Nat → Bool), F 4 18 = false → R 127 = false → ag F R σ1 φ := by
      intro F R x1 x2
      rw [← hφ]
      exact (ag.refl.pf x1).pr x2
    have hφf : ∀ o k, ¬ (o = 4 ∧ k = 18) → φ.1 o k = σ1.1 o k := fun o k hk' => by rw [← hφ, pr_1, pf_1, if_neg hk']
    obtain ⟨hZφ, hgφ⟩ := hR2.1.out (σ' := φ) (fun o k hk' => hφf o k (by omega)) (fun r hr => by rw [← hφ]; funext j; rw [pr_2, if_neg (by omega), pf_2])
    have hF3 : aF (sN (sT a (aT a ++ [nm])) 2 cl) = (cur a, g) :: t := hF
    rw [adv_of hF3, hX] at hid
    have hRφ : RJ L rm nd φ (sF (sN (sT a (aT a ++ [nm])) 2 cl) X) := by
      refine hR2.mk' hln hZφ hgφ (Or.inl ⟨hA _ _ rfl rfl, rfl, rfl⟩) (Or.inl ⟨hA _ _ rfl rfl, rfl, rfl⟩) (Or.inl ⟨hA _ _ rfl rfl, rfl⟩) (Or.inl ⟨hA _ _ rfl rfl, rfl⟩) (Or.inl ⟨hA _ _ rfl rfl, rfl⟩) (Or.inl ⟨hA _ _ rfl rfl, rfl⟩) (Or.inr ?_) (Or.inl ⟨hA _ _ rfl rfl, rfl, rfl⟩) (Or.inl ⟨hA _ _ rfl rfl, rfl⟩) (Or.inl ⟨hA _ _ rfl rfl, rfl⟩) ⟨by rw [hφf 2 4 (by omega)]; exact hR2.2.2.2.2.2.2.2.2.2.2.2.1, by rw [hφf 2 6 (by omega)]; exact hR2.2.2.2.2.2.2.2.2.2.2.2.2⟩
      show JNt L φ (aT a ++ [nm])
      have hS' := SI_pf (o := 4) (k := 18) (x := (ndu (aT a ++ [nm]) : Int)) hR2.1.1 (by omega)
      have hWs := (hNt2.gr hS'.2 hS'.1 hln.1 rfl).set (x := 1) hS'.1 (by omega) (show x.toNat < jw (pf σ1 4 18 (ndu (aT a ++ [nm]) : Int)) by unfold jw; rw [pf_no (by decide)]; exact hxr.2.2.2.1)
      rw [hφ] at hWs
      refine ⟨by rw [← hφ, pr_1, pf_eq], hWs.cong (fun s' => ?_)⟩
      have hwx : wst (pf σ1 4 18 (ndu (aT a ++ [nm]) : Int)) x.toNat = nm := hxr.2.2.2.2
      rw [hwx]
      by_cases c1' : s' = nm
      · rw [if_pos c1', if_pos (by rw [c1']; simp)]
      · rw [if_neg c1']
        have : (s' ∈ aT a ++ [nm]) ↔ s' ∈ aT a := by simp [c1']
        simp only [this]
    have hso : ∀ o k, o ≠ 1 → o ≠ 4 → φ.1 o k = τ.1 o k ∨ (o = 2 ∧ k = 6) := by
      intro o k h1 h2
      by_cases c' : o = 2 ∧ k = 6
      · exact Or.inr c'
      · left
        rw [hφf o k (by omega), hfr.1 o k (by omega), pf_1, if_neg c']
    have h5φ : φ.1 2 5 = σ.1 2 5 := by rw [hφf 2 5 (by omega), hfr.1 2 5 (by omega), pf_nk (by decide)]; exact s5
    refine hq.2 _ hid φ hRφ ?_ h5φ
    have hremX := rem_adv hkl
    rw [adv_of hF, hX] at hremX
    have hrem2 : rem (sF (sN (sT a (aT a ++ [nm])) 2 cl) X) = rem (sF a X) := rfl
    have hjwφ : jw φ ≤ jw σ + 1 := by
      have : jw φ = jw σ1 := by unfold jw; rw [hφf 1 14 (by omega)]
      omega
    have hjtφ : jtp φ = jtp σ := by
      have : jtp φ = jtp σ1 := by unfold jtp; rw [hφf 1 3 (by omega)]
      omega
    have h12φ : φ.1 1 2 = σ.1 1 2 := by rw [hφf 1 2 (by omega), hfr.1 1 2 (by omega), pf_no (by decide)]; exact s3
    have h416 : φ.1 4 16 = σ.1 4 16 := by rw [hφf 4 16 (by omega), hfr.1 4 16 (by omega), pf_no (by decide)]; exact s4
    obtain ⟨d1, d2, d3, d4, d5⟩ := hC
    have e0 : aN (sF (sN (sT a (aT a ++ [nm])) 2 cl) X) 0 = aN a 0 := rfl
    have e8 : aN (sF (sN (sT a (aT a ++ [nm])) 2 cl) X) 8 = aN a 8 := rfl
    unfold JC
    rw [hrem2, e0, e8, hjtφ, h12φ, h416]
    have h16φ : φ.1 1 16 = σ.1 1 16 := by rw [hφf 1 16 (by omega), hfr.1 1 16 (by omega), pf_no (by decide)]; exact hτ.keep (by omega) (by omega)
    refine ⟨?_, by omega, by omega, by omega, by rw [h16φ]; exact d5⟩
    show 2 * jw φ + rsv a + rem (sF a X) ≤ aN a 0 + 38 + (aO a).length
    omega
  · rw [hnt] at hno
    have hk0 := mvo_eq_none.mp hno
    rw [hk0] at hid
    have hid' : iNot a = .inl 5 := by
      rw [hid]
      cases spc (gd (cur a)) (cur a).length (some 10) <;> rfl
    exact hq.1 5 hid' τ (h.bad hτ)
end JI8
