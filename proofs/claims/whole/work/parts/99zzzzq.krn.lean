/-! ===== items of the reference: runs, references ===== -/
section Krf
variable {L : Nat → Nat} {rm nd o : Nat} {σ τ : IS} {g g' : KG} {a a' A : AS} {Q : IS → Prop} {R : Int → IS → Prop} {T : Nat → Int} {x : Int}
theorem mt3r {e j : Nat} : mt T e j [93, 93, 62] = true ↔ j + 2 < e ∧ T j = 93 ∧ T (j + 1) = 93 ∧ T (j + 2) = 62 := by
  have e1 : mt T e j [93, 93, 62] = ((lk T e j == 93) && ((lk T e (j + 1) == 93) && ((lk T e (j + 1 + 1) == 62) && true))) := rfl
  rw [e1, Bool.and_eq_true, Bool.and_eq_true, Bool.and_true, beq_iff_eq, beq_iff_eq, beq_iff_eq]
  constructor
  · rintro ⟨h1, h2, h3⟩
    have a1 := lk_lt (by decide) h1
    have a2 := lk_lt (by decide) h2
    have a3 := lk_lt (by decide) h3
    exact ⟨by omega, a1.2, a2.2, a3.2⟩
  · rintro ⟨h1, h2, h3, h4⟩
    rw [lk_b (by omega), lk_b (by omega), lk_b (by omega)]
    exact ⟨h2, h3, h4⟩
theorem run_sek {e r : Nat} (hr : r = sk isRn T e 0) : (sek T r [93, 93, 62] 0).isSome = true ↔ ∃ j, j < r ∧ mt T e j [93, 93, 62] = true := by
  have hle : r ≤ e := by rw [hr]; exact (sk_le (Nat.zero_le _)).2
  rw [sek_iff r 0 (by omega)]
  constructor
  · rintro ⟨j, -, h1, h2⟩
    rw [mt3r] at h2
    exact ⟨j, h1, mt3r.mpr ⟨by omega, h2.2⟩⟩
  · rintro ⟨j, h1, h2⟩
    rw [mt3r] at h2
    obtain ⟨b1', b2, b3, b4⟩ := h2
    have hn : r < e → isRn (T r) = false := fun z => by
      rw [hr] at z ⊢
      exact sk_not (Nat.zero_le _) z
    have d1 : r ≠ j + 1 := fun z => by
      have := hn (by omega)
      rw [z, b3] at this
      exact absurd this (by decide)
    have d2 : r ≠ j + 2 := fun z => by
      have := hn (by omega)
      rw [z, b4] at this
      exact absurd this (by decide)
    exact ⟨j, Nat.zero_le _, h1, mt3r.mpr ⟨by omega, b2, b3, b4⟩⟩
set_option maxHeartbeats 2000000 in
theorem qI_run (hL : KLn L o rm nd) (h : RK rm nd o σ g a) (hG : GK rm nd a) (hC : KC rm g a) (hph : aN a 4 = 2) (hev : ∀ a', iRun a = .inr a' → (kNs (aS a')).1 ≤ 120000) (hq : KO rm nd o σ g Q (iRun a) [] (fun _ => 0)) : w_KReader_run L Q σ := by
  obtain ⟨p, q, t, hF, h1, h2, hK, hc, hS, hp⟩ := h.at_ hL
  have hK2 := hK.2.2
  have ho := hL.2.1
  have r1 := rf_1 ho
  have hne : aO a ≠ [] := hG.2.2.2.1.2.mp hph
  have hoc := hG.2.2.2.2.1
  have hln : (aL a).length ≤ 16384 := by have := hG.2.2.1; have := hL.2.2.1.2; omega
  have l176 := hL.2.2.2.1
  generalize hr : sk isRn (gd (cur a)) (cur a).length 0 = r
  have hre : r ≤ (cur a).length := by rw [← hr]; exact (sk_le (Nat.zero_le _)).2
  have hremc : (cur a).length ≤ rem a := by
    unfold rem
    rw [hF, List.map_cons, List.sum_cons]
    exact Nat.le_add_right _ _
  unfold w_KReader_run
  rw [h1]
  refine WL_ind (fun s ρ => ρ = σ ∧ ∃ n : Nat, s.1 = ((p + n : Nat) : Int) ∧ n ≤ (cur a).length ∧ r = sk isRn (gd (cur a)) (cur a).length n ∧ ((s.2 = 0 ∧ ∃ j, j < n ∧ mt (gd (cur a)) (cur a).length j [93, 93, 62] = true) ∨ (s.2 = 1 ∧ ∀ j, j < n → mt (gd (cur a)) (cur a).length j [93, 93, 62] = false))) (fun s _ => (((p + (cur a).length : Nat) : Int) - s.1).toNat) ?_ ((p : Int), 1) σ ⟨rfl, 0, by simp, Nat.zero_le _, hr.symm, Or.inr ⟨rfl, fun j hj => absurd hj (Nat.not_lt_zero j)⟩⟩
  rintro ⟨s1, s2⟩ ρ ⟨rfl, n, hs1, n1, n2, n3⟩ K hI
  have hs1' : s1 = ((p + n : Nat) : Int) := hs1
  subst hs1'
  have n3' : (s2 = 0 ∧ ∃ j, j < n ∧ mt (gd (cur a)) (cur a).length j [93, 93, 62] = true) ∨ (s2 = 1 ∧ ∀ j, j < n → mt (gd (cur a)) (cur a).length j [93, 93, 62] = false) := n3
  try dsimp only
  rw [h2, show Int.toNat ((p + n : Nat) : Int) = p + n from rfl]
  refine ⟨fun z => ⟨⟨by omega, by omega⟩, fun _ => ⟨by omega, by omega⟩⟩, ?_⟩
  by_cases c : n < (cur a).length ∧ isRn (gd (cur a) n) = true
  · have hcn : ¬ gd (cur a) n = 60 ∧ ¬ gd (cur a) n = 38 := by
      have := c.2
      unfold isRn at this
      rw [Bool.and_eq_true] at this
      constructor
      · intro z; rw [z] at this; exact absurd this.1 (by decide)
      · intro z; rw [z] at this; exact absurd this.2 (by decide)
    rw [if_pos (by rw [hS n c.1]; exact ⟨by omega, hcn⟩)]
    refine WJ_dir ?_
    refine WJ_dir ?_
    have hstep : ∀ v : Int, ((v = 0 ∧ ∃ j, j < n + 1 ∧ mt (gd (cur a)) (cur a).length j [93, 93, 62] = true) ∨ (v = 1 ∧ ∀ j, j < n + 1 → mt (gd (cur a)) (cur a).length j [93, 93, 62] = false)) → inR (((p + n : Nat) : Int) + 1) ∧ K (((p + n : Nat) : Int) + 1, v) ρ := fun v hv => ⟨⟨by omega, by omega⟩, hI _ _ ⟨rfl, n + 1, by show ((p + n : Nat) : Int) + 1 = _; omega, by omega, by rw [n2]; exact sk_go c.1 c.2, hv⟩ (by show (_ - (((p + n : Nat) : Int) + 1)).toNat < (_ - ((p + n : Nat) : Int)).toNat; omega)⟩
    rcases n3' with ⟨m1, j, m2, m3⟩ | ⟨m1, m2⟩
    · rw [if_pos m1]
      exact hstep 0 (Or.inl ⟨rfl, j, by omega, m3⟩)
    · rw [if_neg (by omega)]
      refine kr_says hK hS n rfl n1 ti_1146 ?_
      cases hm : mt (gd (cur a)) (cur a).length n [93, 93, 62] with
      | true =>
        rw [if_neg (by decide)]
        exact hstep 0 (Or.inl ⟨rfl, n, by omega, hm⟩)
      | false =>
        rw [if_pos (by decide)]
        refine hstep 1 (Or.inr ⟨rfl, fun j hj => ?_⟩)
        by_cases cj : j = n
        · rw [cj]; exact hm
        · exact m2 j (by omega)
  · have hrn : r = n := by
      rw [n2]
      by_cases d : n < (cur a).length
      · exact sk_stop (by cases hb : isRn (gd (cur a) n) with
          | true => exact absurd ⟨d, hb⟩ c
          | false => rfl)
      · exact sk_end (by omega)
    subst hrn
    have hcond : ¬ (((p + r : Nat) : Int) < ((p + (cur a).length : Nat) : Int) ∧ ¬ ρ.2 176 (p + r) = 60 ∧ ¬ ρ.2 176 (p + r) = 38) := fun z => by
      have hlt : r < (cur a).length := by omega
      rw [hS r hlt] at z
      refine c ⟨hlt, ?_⟩
      unfold isRn
      rw [Bool.and_eq_true, Bool.not_eq_true', Bool.not_eq_true', beq_eq_false_iff_ne, beq_eq_false_iff_ne]
      exact z.2
    rw [if_neg hcond]
    have hrs := run_sek (T := gd (cur a)) (e := (cur a).length) hr.symm
    rcases n3' with ⟨m1, j, m2, m3⟩ | ⟨m1, m2⟩
    · rw [if_pos m1]
      refine sp_K_written (x := none) rfl h.f3 (fun _ => ?_) (fun k hk => by cases hk)
      rw [if_pos rfl]
      refine hq.1 5 ?_ _ pf_eq (pf_nk (by decide))
      unfold iRun
      rw [hr, if_pos (hrs.mpr ⟨j, m2, m3⟩)]
    · rw [if_neg (by omega)]
      refine sp_K_written (x := some (p + r)) rfl h.f3 (fun hk => by cases hk) (fun k hk hv => ?_)
      rw [if_neg (by decide)]
      have hrun : iRun a = .inr (adv (chr (tch a ((sl (gd (cur a)) 0 r).any (fun c => !isSp c))) (sl (gd (cur a)) 0 r)) r) := by
        unfold iRun
        rw [hr, if_neg (fun z => by
          obtain ⟨j, j1, j2⟩ := hrs.mp z
          rw [m2 j j1] at j2
          cases j2)]
      have hev' := hev _ hrun
      rw [(adv_other).2.2.2.2.2.2.2.2.1] at hev'
      have haS : ∀ b, aS (tch a b) = aS a := fun b => tch_other.2.2.2.2.2.2.2.2.1
      have haN : ∀ b, aN (tch a b) = aN a := fun b => tch_other.2.2.1
      have hev2 : (kNs (aS a ++ (sl (gd (cur a)) 0 r).map (fun c => Sum.inl c))).1 ≤ 120000 := by
        rw [← haS ((sl (gd (cur a)) 0 r).any (fun c => !isSp c))]
        exact hev'
      refine sp_K_touch hL h hG (fun υ hυ u1 u2 => ?_)
      have hυ16 : υ.1 16 16 = (p : Int) := by rw [u1]; exact h1
      have hυ176 : υ.2 176 = ρ.2 176 := u2 176 (by decide)
      rw [hυ16]
      refine WL_ind (fun s ξ => ∃ n : Nat, s = ((p + n : Nat) : Int) ∧ n ≤ r ∧ RK rm nd o ξ (gB g, gC g, gP g ++ sl (gd (cur a)) 0 n, gV g) (chr (tch a ((sl (gd (cur a)) 0 n).any (fun c => !isSp c))) (sl (gd (cur a)) 0 n)) ∧ (∀ k, ξ.1 16 k = ρ.1 16 k) ∧ ξ.2 176 = ρ.2 176) (fun s _ => ((p + r : Nat) - s).toNat) ?_ _ υ ⟨0, by simp, Nat.zero_le _, ?_, fun k => by rw [u1], hυ176⟩
      · rintro s ξ ⟨n, rfl, k1, hξ, f1, f2⟩ K2 hI2
        try dsimp only
        by_cases c2 : n < r
        · rw [if_pos (by omega), show Int.toNat ((p + n : Nat) : Int) = p + n from rfl, f2, hS n (by omega)]
          have hcc := gd_ch h hL (i := n) (by omega)
          have hw := sp_K_txl (σ := ξ) (g := g) (A := tch a ((sl (gd (cur a)) 0 n).any (fun c => !isSp c))) (l := sl (gd (cur a)) 0 n) (c := gd (cur a) n) (Q := fun σ31 => inL L 176 ((p + n : Nat) : Int) ∧ w_K_isSpace L (σ31.2 176 (p + n)) (fun v34 σ33 => WJ (fun (s37 : Unit) (σ38 : IS) => inR (((p + n : Nat) : Int) + 1) ∧ K2 (((p + n : Nat) : Int) + 1) σ38) (fun J35 => if v34 = 0 then w_KReader_spoil L (fun σ41 => J35 () σ41) σ33 else J35 () σ33)) σ31) hL hξ hcc.1 (KC_tch hC) (by rw [sl_ln, tch_rem]; omega) (by rw [tch_rem, haS, haN]; exact hG.2.1.1) ?_ (fun τ' hτ' g1 g2 => ?_)
          · exact ⟨hw.1, ⟨by omega, by omega⟩, hw.2⟩
          · refine Nat.le_trans ?_ hev2
            rw [haS]
            have e5 : sl (gd (cur a)) 0 r = (sl (gd (cur a)) 0 n ++ [gd (cur a) n]) ++ sl (gd (cur a)) (0 + (n + 1)) (r - (n + 1)) := by
              have : sl (gd (cur a)) 0 n ++ [gd (cur a) n] = sl (gd (cur a)) 0 (n + 1) := by rw [sl_succ, Nat.zero_add]
              rw [this]
              exact sl_app' (by omega)
            have e6 := congrArg (fun l => l.map (fun c => (Sum.inl c : Evt))) e5
            try dsimp only at e6
            rw [List.map_append] at e6
            rw [e6, ← List.append_assoc]
            exact kNs_mono
          · have g176 : τ'.2 176 = ρ.2 176 := (g2 176 (by omega) (by omega)).trans f2
            have gF : ∀ k, τ'.1 16 k = ρ.1 16 k := fun k => (g1 16 k (by omega)).trans (f1 k)
            refine ⟨⟨by omega, by omega⟩, ?_⟩
            rw [g176, hS n (by omega)]
            refine sp_K_isSpace ?_
            refine WJ_dir ?_
            have esl : sl (gd (cur a)) 0 (n + 1) = sl (gd (cur a)) 0 n ++ [gd (cur a) n] := by rw [sl_succ, Nat.zero_add]
            cases hsp : isSp (gd (cur a) n) with
            | true =>
              rw [if_neg (by decide)]
              refine ⟨⟨by omega, by omega⟩, hI2 _ _ ⟨n + 1, by omega, by omega, ?_, gF, g176⟩ (by omega)⟩
              rw [esl, List.any_append]
              simp only [List.any_cons, List.any_nil, hsp, Bool.not_true, Bool.or_false]
              exact hτ'
            | false =>
              rw [if_pos (by decide)]
              rw [chr_tch] at hτ'
              refine sp_K_spoil (a := chr a (sl (gd (cur a)) 0 n ++ [gd (cur a) n])) hL hτ' hoc hne hln (fun ζ hζ z1 z2 => ?_)
              refine ⟨⟨by omega, by omega⟩, hI2 _ _ ⟨n + 1, by omega, by omega, ?_, fun k => by rw [z1]; exact gF k, (z2 176 (by decide)).trans g176⟩ (by omega)⟩
              rw [esl, List.any_append]
              simp only [List.any_cons, List.any_nil, hsp, Bool.not_false, Bool.true_or, Bool.or_true]
              rw [chr_tch]
              exact hζ
        · rw [if_neg (by omega)]
          have hn : n = r := by omega
          subst hn
          have hcl : cur (chr (tch a ((sl (gd (cur a)) 0 n).any (fun c => !isSp c))) (sl (gd (cur a)) 0 n)) = cur a := by
            show cur (tch a _) = cur a
            exact tch_cur
          have hg := hξ.go hL (k := n) (by rw [hcl]; exact hre)
          rw [f1 16, h1] at hg
          have hr3 : rem (adv (chr (tch a ((sl (gd (cur a)) 0 n).any (fun c => !isSp c))) (sl (gd (cur a)) 0 n)) n) + n = rem a := by
            rw [rem_adv (by rw [hcl]; exact hre), chr_rem, tch_rem]
          have hN : aN (adv (chr (tch a ((sl (gd (cur a)) 0 n).any (fun c => !isSp c))) (sl (gd (cur a)) 0 n)) n) = aN a := by
            rw [(adv_other).2.1]
            exact haN _
          have e6 : ((p : Int) + (n : Int)) = ((p + n : Nat) : Int) := by omega
          rw [e6] at hg
          obtain ⟨c1, c2', c3, c4⟩ := hC
          refine hq.2 _ hrun _ _ hg rfl (fun _ => rfl) (fun _ _ => rfl) ⟨?_, ?_, by rw [hN]; exact c3, by rw [hN]; exact c4⟩ (by rw [pf_nk (by decide), f1 4]) (by rw [pf_nk (by decide), f1 15]; omega)
          · show (gP g ++ sl (gd (cur a)) 0 n).length + _ ≤ _
            rw [hN, List.length_append, sl_ln]
            omega
          · rw [hN]
            show (gC g).length + _ ≤ _
            omega
      · rw [sl_zero, List.append_nil, chr_nil]
        exact hυ
end Krf
