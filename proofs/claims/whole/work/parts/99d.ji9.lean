/-! ===== items of the class: the declaration's begin, element declarations ===== -/
/-- further of the pure machine -/
def GB (a : AS) : Prop := (∀ f ∈ aF a, f.1.length ≤ aN a 8) ∧ (∀ x ∈ aE a, x.2.2.length ≤ aN a 8) ∧ (aN a 4 = 3 → aL a ≠ [])
section JI9
variable {L : Nat → Nat} {rm nd : Nat} {σ τ : IS} {a : AS} {Q : IS → Prop}
theorem JBd.f5 {f k : Nat} {pl x : Int} (h : JBd L rm nd σ f pl) : JBd L rm nd (pf σ 5 k x) f pl := by
  obtain ⟨h1, h2, h3, h4, h5⟩ := h
  refine ⟨(h1.out (σ' := pf σ 5 k x) (fun o k hk => by rw [pf_1, if_neg (by omega)]) (fun _ _ => rfl)).1, by rw [pf_no (by decide)]; exact h2, h3, by rw [pf_no (by decide)]; exact h4, fun r hr w w1 w2 => h5 r hr w ?_ w2⟩
  have : jw (pf σ 5 k x) = jw σ := by unfold jw; rw [pf_no (by decide)]
  omega
/-- room for a word more, some characters further -/
theorem JC.one {a' : AS} {k : Nat} (h : JC L σ a) (hk : 2 ≤ k) (hw : jw τ ≤ jw σ + 1) (ht : jtp τ ≤ jtp σ) (hb : τ.1 1 2 = σ.1 1 2) (hl : τ.1 4 16 = σ.1 4 16) (hN0 : aN a' 0 = aN a 0) (hN8 : aN a' 8 = aN a 8) (hr : rem a' + k = rem a) (hL : (aL a').map (fun x => x.1) = (aL a).map (fun x => x.1)) (hB : aB a' = aB a) (hA : aA a' = aA a) (hO : (aO a').length = (aO a).length) (hD : cnl (aD a') + 2 ≤ cnl (aD a) + k) (hs : τ.1 1 16 = σ.1 1 16) (hN3 : aN a 3 ≤ aN a' 3) : JC L τ a' := by
  obtain ⟨d1, d2, d3, d4⟩ := h
  have e1 := nms_eq hL hB hA
  unfold JC
  unfold rsv at d1 ⊢
  rw [hb, hl, hN0, hN8, e1, hO, hs]
  omega
set_option maxHeartbeats 1000000 in
theorem jI_dtd (hln : JLn L rm nd) (h : RJ L rm nd σ a) (hG : GA rm nd a) (hC : JC L σ a) (hph : aN a 4 = 0) (hm : mt (gd (cur a)) (cur a).length 0 [60, 33, 68, 79, 67, 84, 89, 80, 69] = true) (hq : JO L rm nd σ Q (iDtd a)) : w_Doctype_readBegin L Q σ := by
  obtain ⟨p, g, t, hF, hp, hS, hT, htp, hj⟩ := h.at hln
  have hjl := h.1.1.jtp_le
  have h9 : L 101 < 1000000 := hln.1.2.2.2.2.2.2.2
  have hcap := hC.cap hln hG
  have hm' : mt (σ.2 101) (p + (cur a).length) p [60, 33, 68, 79, 67, 84, 89, 80, 69] = true := by
    have := sh_mt hT [60, 33, 68, 79, 67, 84, 89, 80, 69] 0
    rw [show p + 0 = p by omega] at this
    rw [this]; exact hm
  have h10 : 9 ≤ (cur a).length := wd_bad (l := [60, 33, 68, 79, 67, 84, 89, 80, 69]) ti_1021 (by decide) hm
  have hdk := sh_dtk hT 0
  have hdn := sh_dtn hT 0
  rw [show p + 0 = p by omega] at hdk hdn
  have hid : iDtd a = match dtn (gd (cur a)) (cur a).length 0, spc (gd (cur a)) (cur a).length (some 9), dtk (gd (cur a)) (cur a).length 0 with
    | some n, some s, some k => if dtO (gd (cur a)) (cur a).length n = true then .inl 3
      else .inr (adv (sN (sR a (some (sl (gd (cur a)) s (n - s)))) 4 (if gd (cur a) (k - 1) = 91 then 1 else 0)) k)
    | _, _, _ => .inl 5 := rfl
  refine j_readBegin hS h.1.2.1 hm' hj (fun n' s' z' k' τ hs hn hz hk hτ => ?_) (fun hno x1 x2 x3 τ hτ hx hx3 => ?_)
  · rw [sh_spcs hT] at hs
    obtain ⟨s, hs1, rfl⟩ := mvo_eq_some.mp hs
    rw [hdn] at hn
    obtain ⟨n, hn1, rfl⟩ := mvo_eq_some.mp hn
    rw [sh_dtE hT] at hz
    obtain ⟨z, hz1, rfl⟩ := mvo_eq_some.mp hz
    rw [hdk] at hk
    obtain ⟨k, hk1, rfl⟩ := mvo_eq_some.mp hk
    rw [sh_dtO hT, sh_mt hT]
    rw [hs1, hk1, hn1] at hid
    dsimp only at hid
    have hsl := spc_gt h10 hs1
    have hnl : s < n ∧ n ≤ (cur a).length := by
      have : nmg (gd (cur a)) (cur a).length true (spc (gd (cur a)) (cur a).length (some (0 + 9))) = some n := hn1
      rw [show 0 + 9 = 9 from rfl, hs1] at this
      have := nmg_lt this
      omega
    have hkl : k ≤ (cur a).length := by have := hτ.at.2; omega
    have hzk : k = z + 1 ∧ z < (cur a).length ∧ (mt (gd (cur a)) (cur a).length z [91] = true ↔ gd (cur a) (k - 1) = 91) := by
      have hk2 : ((dtn (gd (cur a)) (cur a).length 0).bind (dtE (gd (cur a)) (cur a).length)).bind (dtb (gd (cur a)) (cur a).length) = some k := hk1
      rw [hn1, Option.bind_some, hz1, Option.bind_some] at hk2
      unfold dtb at hk2
      by_cases c : mt (gd (cur a)) (cur a).length z [91] = true
      · rw [if_pos c] at hk2
        rw [mt1] at c
        have g5 := lk_lt (by decide) (show lk (gd (cur a)) (cur a).length z = 91 by simpa using c)
        cases hk2
        exact ⟨rfl, g5.1, ⟨fun _ => by rw [show z + 1 - 1 = z by omega]; exact g5.2, fun _ => by rw [mt1]; exact c⟩⟩
      · rw [if_neg c] at hk2
        have g5 := wd1 (by decide) hk2
        refine ⟨g5.1, g5.2.1, ⟨fun x => absurd x c, fun x => ?_⟩⟩
        rw [g5.1, show z + 1 - 1 = z by omega, g5.2.2] at x
        exact absurd x (by decide)
    have hnz : n ≤ z := by
      unfold dtE at hz1
      have g5 := sk_le (p := isSp) (T := gd (cur a)) hnl.2
      split at hz1
      · cases ho' : outs (gd (cur a)) (cur a).length (some (sk isSp (gd (cur a)) (cur a).length n)) with
        | none => rw [ho'] at hz1; cases hz1
        | some w =>
          rw [ho'] at hz1
          have hw : w ≤ (cur a).length := outs_le w ho'
          have e1 : sk isSp (gd (cur a)) (cur a).length w = z := Option.some.inj hz1
          have g6 := sk_le (p := isSp) (T := gd (cur a)) hw
          have hgt : sk isSp (gd (cur a)) (cur a).length n ≤ w := by
            unfold outs at ho'
            split at ho'
            · rename_i y hy
              have g7 := wd_gt hy
              have g8 : y ≤ (cur a).length := wdl_le ti_1062 (fun i hi => by cases hi; exact g5.2) y hy
              cases hz2 : spc (gd (cur a)) (cur a).length (some y) with
              | none => rw [hz2] at ho'; cases ho'
              | some y2 =>
                rw [hz2] at ho'
                have g9 := spc_gt g8 hz2
                have g10 := ltl_lt ho'
                omega
            · cases hw2 : wd (gd (cur a)) (cur a).length [80, 85, 66, 76, 73, 67] (some (sk isSp (gd (cur a)) (cur a).length n)) with
              | none => rw [hw2] at ho'; cases ho'
              | some y =>
                rw [hw2] at ho'
                have g7 := wd_gt hw2
                have g8 : y ≤ (cur a).length := wdl_le ti_1063 (fun i hi => by cases hi; exact g5.2) y hw2
                cases hz2 : spc (gd (cur a)) (cur a).length (some y) with
                | none => rw [hz2] at ho'; cases ho'
                | some y2 =>
                  rw [hz2] at ho'
                  have g9 := spc_gt g8 hz2
                  cases hp2 : plt (gd (cur a)) (cur a).length (some y2) with
                  | none => rw [hp2] at ho'; cases ho'
                  | some y3 =>
                    rw [hp2] at ho'
                    have g11 := plt_le y3 hp2
                    cases hl : ltl (gd (cur a)) (cur a).length (some y2) with
                    | none => rw [plt_none hl] at hp2; cases hp2
                    | some m =>
                      rw [plt_of hl] at hp2
                      have g14 := ltl_lt hl
                      have hm3 : m = y3 := by
                        split at hp2
                        · exact Option.some.inj hp2
                        · cases hp2
                      cases hz3 : spc (gd (cur a)) (cur a).length (some y3) with
                      | none => rw [hz3] at ho'; cases ho'
                      | some y4 =>
                        rw [hz3] at ho'
                        have g15 := spc_gt g11 hz3
                        have g16 := ltl_lt ho'
                        omega
          omega
      · cases hz1
        omega
    obtain ⟨hR, hg0⟩ := h.rd hln hp hkl hτ
    obtain ⟨s1, s2, s3, s4, s5⟩ := hτ.store
    rw [adv_of hF] at hR
    generalize hX : ((cur a).drop k, g) :: t = X at *
    have hτ101 : τ.2 101 = σ.2 101 := by rw [hτ.row]
    have hzn : ((p + n : Nat) : Int) - ((p + s : Nat) : Int) = ((n - s : Nat) : Int) := by omega
    by_cases cO : dtO (gd (cur a)) (cur a).length n = true
    · rw [if_pos cO] at hid
      rw [if_pos cO]
      have hR4 : τ.1 2 4 = 0 := hR.2.2.2.2.2.2.2.2.2.2.2.1
      have hB0 := hR.ft (n := 3) (by decide)
      rw [flt_val hR4, s5] at hB0
      have hB : JBd L rm nd (pf (pf (pf τ 5 6 (b1 (mt (gd (cur a)) (cur a).length z [91]))) 2 4 3) 5 5 1) 3 (σ.1 2 5) := by
        rw [pf_comm (by omega)]
        exact hB0.f5.f5
      have ejw : jw (pf (pf (pf τ 5 6 (b1 (mt (gd (cur a)) (cur a).length z [91]))) 2 4 3) 5 5 1) = jw σ := by unfold jw; rw [pf_no (by decide), pf_no (by decide), pf_no (by decide)]; exact s1
      have e13 : (pf (pf (pf τ 5 6 (b1 (mt (gd (cur a)) (cur a).length z [91]))) 2 4 3) 5 5 1).1 1 3 = σ.1 1 3 := by rw [pf_no (by decide), pf_no (by decide), pf_no (by decide), hτ.keep (by omega) (by omega)]
      refine sp_int_w hln hB (by omega) (by rw [e13]; omega) (fun x σ1 hB1 _ => hq.1 3 hid _ hB1.f5)
    · rw [if_neg cO] at hid
      rw [if_neg cO]
      generalize hb : b1 (mt (gd (cur a)) (cur a).length z [91]) = b at *
      have hbv : b = if gd (cur a) (k - 1) = 91 then 1 else 0 := by
        rw [← hb]
        unfold b1
        by_cases c : mt (gd (cur a)) (cur a).length z [91] = true
        · rw [if_pos c, if_pos (hzk.2.2.mp c)]
        · rw [if_neg c, if_neg (fun x => c (hzk.2.2.mpr x))]
      have hZ0 := hR.1.out (σ' := pf (pf τ 5 6 b) 5 5 1) (fun o k hk' => by rw [pf_1, if_neg (by omega), pf_1, if_neg (by omega)]) (fun _ _ => rfl)
      have hjt0 : jtp (pf (pf τ 5 6 b) 5 5 1) = jtp σ := by unfold jtp; rw [pf_no (by decide), pf_no (by decide)]; exact s2
      have hjw0 : jw (pf (pf τ 5 6 b) 5 5 1) = jw σ := by unfold jw; rw [pf_no (by decide), pf_no (by decide)]; exact s1
      have hjl0 := hZ0.1.1.jtp_le
      have hjwl0 := hZ0.1.1.jw_le
      refine sp_Store_intern hZ0.1.1 hln.1 ⟨by omega, by omega, by omega⟩ (fun _ => by omega) (fun x σ1 hin => ?_)
      have hstr : sl ((pf (pf τ 5 6 b) 5 5 1).2 101) ((p + s : Nat) : Int).toNat (((p + n : Nat) : Int) - ((p + s : Nat) : Int)).toNat = sl (gd (cur a)) s (n - s) := by
        rw [hzn, show ((p + s : Nat) : Int).toNat = p + s by omega, show ((n - s : Nat) : Int).toNat = n - s by omega, pf_2, pf_2, hτ101]
        exact sh_sl hT (by omega)
      rw [hstr] at hin
      obtain ⟨hg1, hJn⟩ := hin.gr hZ0.1.1
      obtain ⟨i1, -, -, i4, -, i6⟩ := hin
      have hjw1 := i1.jw_le
      generalize hφ : pf σ1 5 7 x = φ
      have hφf : ∀ o k, o ≠ 5 → φ.1 o k = σ1.1 o k := fun o k ho' => by rw [← hφ, pf_no ho']
      have hφr : φ.2 = σ1.2 := by rw [← hφ]; rfl
      have hZ1 : JZ L rm nd σ1 := hZ0.1.dep i1 hg1 (jch_row hZ0.1.2.1 (funext (fun i => i4.2 101 i (by omega)))) (rng_of hZ0.1.2.2.2.2.2.1 (fun j _ _ => i4.1 2 j (by omega))) ⟨fun o k hk' => i4.1 o k (by simp [fZ] at hk'; omega), fun r hr => funext (fun i => i4.2 r i (by simp [rZ] at hr; omega))⟩
      obtain ⟨hZφ, hgφ⟩ := hZ1.out (σ' := φ) (fun o k hk' => hφf o k (by omega)) (fun r _ => by rw [hφr])
      have hgall : sgr τ φ := (hZ0.2.trans hg1).trans hgφ
      have hA : ∀ (F : Nat → Nat → Bool) (R : Nat → Bool), (∀ o k, F o k = true → o ≠ 5 ∧ ¬ (o = 1 ∧ (k = 13 ∨ k = 14))) → (∀ r, R r = true → r < 102 ∨ 106 < r) → ag F R τ φ := fun F R hFF hRR => ⟨fun o k hk' => by rw [hφf o k (hFF o k hk').1, i4.1 o k (hFF o k hk').2, pf_no (hFF o k hk').1, pf_no (hFF o k hk').1], fun r hr => by rw [hφr]; exact funext (fun i => i4.2 r i (hRR r hr))⟩
      have hF3 : aF (sN (sR a (some (sl (gd (cur a)) s (n - s)))) 4 (if gd (cur a) (k - 1) = 91 then 1 else 0)) = (cur a, g) :: t := hF
      rw [adv_of hF3, hX] at hid
      refine hq.2 _ hid φ (hR.mk' hln hZφ hgall (Or.inl ⟨hA _ _ (fun o k hk' => by simp [fFr] at hk'; omega) (fun r hr => by simp [rFr] at hr; omega), rfl, rfl⟩) (Or.inl ⟨hA _ _ (fun o k hk' => by simp [fEn] at hk'; omega) (fun r hr => by simp [rEn] at hr; omega), rfl, rfl⟩) (Or.inr ?_) (Or.inr ?_) (Or.inl ⟨hA _ _ (fun o k hk' => by simp [fEd] at hk'; omega) (fun r hr => by simp [rEd] at hr; omega), rfl⟩) (Or.inl ⟨hA _ _ (fun o k hk' => by simp [fAd] at hk'; omega) (fun r hr => by simp [rAd] at hr; omega), rfl⟩) (Or.inl ⟨hA _ _ (fun o k hk' => by simp [fNt] at hk'; omega) (fun r hr => by simp [rNt] at hr; omega), rfl⟩) (Or.inl ⟨hA _ _ (fun o k hk' => by simp [fEl] at hk'; omega) (fun r hr => by simp [rEl] at hr; omega), rfl, rfl⟩) (Or.inl ⟨hA _ _ (fun o k hk' => by simp [fAt] at hk'; omega) (fun r hr => by simp [rAt] at hr; omega), rfl⟩) (Or.inl ⟨hA _ _ (fun o k hk' => by simp [fSt] at hk'; omega) (fun r hr => by simp [rSt] at hr; omega), rfl⟩) ⟨?_, ?_⟩) ?_ ?_
      · have h56 : φ.1 5 6 = b := by rw [← hφ, pf_nk (by decide), i4.1 5 6 (by omega), pf_nk (by decide), pf_eq]
        obtain ⟨n1, n2, n3, n4, n5, n6⟩ := hR.2.2.2.1
        have hfo : ∀ o k, o ≠ 5 → o ≠ 1 → φ.1 o k = τ.1 o k := fun o k h1 h2 => by rw [hφf o k h1, i4.1 o k (by omega), pf_no h1, pf_no h1]
        refine ⟨by rw [hfo 3 13 (by decide) (by decide)]; exact n1, by rw [hfo 3 14 (by decide) (by decide)]; exact n2, by rw [hfo 6 1 (by decide) (by decide)]; exact n3, by rw [hfo 3 15 (by decide) (by decide)]; exact n4, by rw [hfo 3 16 (by decide) (by decide)]; exact n5, ?_⟩
        rw [h56, hbv]
        show (if gd (cur a) (k - 1) = 91 then (1 : Int) else 0) = if (if gd (cur a) (k - 1) = 91 then 1 else 0) = 1 then (1 : Int) else 0
        by_cases c : gd (cur a) (k - 1) = 91
        · rw [if_pos c, if_pos c]; rfl
        · rw [if_neg c, if_neg c]; rfl
      · refine ⟨?_, fun s' hs' => ?_⟩
        · rw [← hφ, pf_nk (by decide), i4.1 5 5 (by omega), pf_eq]; rfl
        · have : sl (gd (cur a)) s (n - s) = s' := Option.some.inj hs'
          rw [← hφ, pf_eq, ← this]
          rw [hφ]
          exact hJn.gr hgφ
      · rw [hφf 2 4 (by decide), i4.1 2 4 (by omega), pf_no (by decide), pf_no (by decide)]; exact hR.2.2.2.2.2.2.2.2.2.2.2.1
      · rw [hφf 2 6 (by decide), i4.1 2 6 (by omega), pf_no (by decide), pf_no (by decide)]; exact hR.2.2.2.2.2.2.2.2.2.2.2.2
      · have hremX := rem_adv hkl
        rw [adv_of hF, hX] at hremX
        refine hC.one (k := k) (by omega) ?_ ?_ ?_ ?_ rfl rfl hremX rfl rfl rfl rfl (show cnl (aD a) + 2 ≤ cnl (aD a) + k by omega) (by rw [hφf 1 16 (by decide), i4.1 1 16 (by omega), pf_no (by decide), pf_no (by decide)]; exact hτ.keep (by omega) (by omega)) (Nat.le_refl _)
        · have e1 : jw φ = jw σ1 := by unfold jw; rw [hφf 1 14 (by decide)]
          rcases i6 with h6 | h6
          · have := h6.2.1; omega
          · have := h6.2.1; omega
        · have e1 : jtp φ = jtp σ := by
            unfold jtp
            rw [hφf 1 3 (by decide), i4.1 1 3 (by omega)]
            exact hjt0
          omega
        · rw [hφf 1 2 (by decide), i4.1 1 2 (by omega), pf_no (by decide), pf_no (by decide)]; exact s3
        · rw [hφf 4 16 (by decide), i4.1 4 16 (by omega), pf_no (by decide), pf_no (by decide)]; exact s4
      · rw [hφf 2 5 (by decide), i4.1 2 5 (by omega), pf_no (by decide), pf_no (by decide)]; exact s5
  · rw [hdk] at hno
    have hk0 := mvo_eq_none.mp hno
    rw [hk0] at hid
    have hid' : iDtd a = .inl 5 := by
      rw [hid]
      cases dtn (gd (cur a)) (cur a).length 0 <;> cases spc (gd (cur a)) (cur a).length (some 9) <;> rfl
    have hB := (h.bad hτ).f5 (k := 6) (x := x3)
    have hB2 := hB.f5 (k := 5) (x := 1)
    have ejw : jw (pf (pf τ 5 6 x3) 5 5 1) = jw σ := by unfold jw; rw [pf_no (by decide), pf_no (by decide)]; exact hτ.store.1
    have e13 : (pf (pf τ 5 6 x3) 5 5 1).1 1 3 = σ.1 1 3 := by rw [pf_no (by decide), pf_no (by decide), hτ.keep (by omega) (by omega)]
    exact sp_int_w hln hB2 (by omega) (by rw [e13]; omega) (fun x σ1 hB1 _ => hq.1 5 hid' _ hB1.f5)
end JI9
