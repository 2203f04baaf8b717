/-! ===== items of the class: instructions ===== -/
section JI4
variable {L : Nat → Nat} {rm nd : Nat} {σ τ : IS} {a : AS} {Q : IS → Prop}
theorem pin_lt {T : Nat → Int} {e p n f q : Nat} (h : pin T e p = some (n, f, q)) : p + 2 < n ∧ n ≤ f ∧ f + 2 ≤ q ∧ q ≤ e := by
  unfold pin at h
  cases hn : nmg T e true (some (p + 2)) with
  | none => rw [hn] at h; cases h
  | some n' =>
    rw [hn] at h
    dsimp only at h
    have g := nmg_lt hn
    split at h
    · cases h
    · split at h
      · rename_i c
        have := wd_bad (l := [63, 62]) ti_1055 (by decide) c
        have g2 : [(63 : Int), 62].length = 2 := rfl
        cases h
        omega
      · cases hs : spc T e (some n') with
        | none => rw [hs] at h; cases h
        | some f' =>
          rw [hs] at h
          dsimp only at h
          have g1 := spc_gt g.2.2 hs
          cases hk : sek T e [63, 62] f' with
          | none => rw [hk] at h; cases h
          | some q' =>
            rw [hk] at h
            cases h
            have g3 := sek_lt hk
            have := wd_bad (l := [63, 62]) ti_1055 (by decide) g3.2.2
            have g2 : [(63 : Int), 62].length = 2 := rfl
            omega
theorem flt_ne {n : Int} (h : σ.1 2 4 ≠ 0) : flt σ n = σ := by
  unfold flt
  rw [if_neg h]
/-- the colons, counted -/
theorem RJ.col {n : Nat} (hln : JLn L rm nd) (h : RJ L rm nd σ a) (hn : n ≤ 1000000) : RJ L rm nd (pf σ 2 6 (n : Int)) (sN a 2 n) ∧ sgr σ (pf σ 2 6 (n : Int)) := by
  have hS := SI_pf (o := 2) (k := 6) (x := (n : Int)) h.1.1 (by omega)
  have hZ : JZ L rm nd (pf σ 2 6 (n : Int)) := h.1.dep hS.1 hS.2 h.1.2.1 (h.1.2.2.2.2.2.1.fld (by omega)) (ag.refl.pf rfl)
  have hA : ∀ F R, F 2 6 = false → ag F R σ (pf σ 2 6 (n : Int)) := fun F R h => ag.refl.pf h
  refine ⟨h.mk' hln hZ hS.2 (Or.inl ⟨hA _ _ rfl, rfl, rfl⟩) (Or.inl ⟨hA _ _ rfl, rfl, rfl⟩) (Or.inr ?_) (Or.inl ⟨hA _ _ rfl, rfl⟩) (Or.inl ⟨hA _ _ rfl, rfl⟩) (Or.inl ⟨hA _ _ rfl, rfl⟩) (Or.inl ⟨hA _ _ rfl, rfl⟩) (Or.inl ⟨hA _ _ rfl, rfl, rfl⟩) (Or.inl ⟨hA _ _ rfl, rfl⟩) (Or.inl ⟨hA _ _ rfl, rfl⟩) ⟨?_, ?_⟩, hS.2⟩
  · exact h.2.2.2.1.dep (hA _ _ rfl)
  · rw [pf_nk (by decide)]; exact h.2.2.2.2.2.2.2.2.2.2.2.1
  · rw [pf_eq]; rfl
theorem jev_app5 (g : sgr σ τ) {t s : Str} {n : Nat} : ∀ (st : List Evt) (i : Nat), i + evl st = n → jev σ i st n → (∀ k, k < n → τ.2 136 k = σ.2 136 k) → τ.2 136 n = -2 → Jt τ (τ.2 136 (n + 1)) t → τ.2 136 (n + 2) = (t.length : Int) → Jt τ (τ.2 136 (n + 3)) s → τ.2 136 (n + 4) = (s.length : Int) → jev τ i (st ++ [.inr (t, s)]) (n + 5) := by
  intro st
  induction st with
  | nil =>
    intro i hi h hr h0 h1 h2 h3 h4
    have : i = n := h
    subst this
    exact ⟨h0, ⟨h1, h2⟩, ⟨h3, h4⟩, rfl⟩
  | cons v r ih =>
    intro i hi h hr h0 h1 h2 h3 h4
    cases v with
    | inl d =>
      have hi' : i + (evl r + 1) = n := hi
      have h' : σ.2 136 i = d ∧ jev σ (i + 1) r n := h
      exact ⟨by rw [hr i (by omega)]; exact h'.1, ih (i + 1) (by omega) h'.2 hr h0 h1 h2 h3 h4⟩
    | inr q =>
      obtain ⟨t', s'⟩ := q
      have hi' : i + (evl r + 5) = n := hi
      have h' : σ.2 136 i = -2 ∧ (Jt σ (σ.2 136 (i + 1)) t' ∧ σ.2 136 (i + 2) = (t'.length : Int)) ∧ (Jt σ (σ.2 136 (i + 3)) s' ∧ σ.2 136 (i + 4) = (s'.length : Int)) ∧ jev σ (i + 5) r n := h
      exact ⟨by rw [hr i (by omega)]; exact h'.1, ⟨by rw [hr (i + 1) (by omega)]; exact h'.2.1.1.gr g, by rw [hr (i + 2) (by omega)]; exact h'.2.1.2⟩, ⟨by rw [hr (i + 3) (by omega)]; exact h'.2.2.1.1.gr g, by rw [hr (i + 4) (by omega)]; exact h'.2.2.1.2⟩, ih (i + 5) (by omega) h'.2.2.2 hr h0 h1 h2 h3 h4⟩
theorem sp_put_x {c : Int} {n : Nat} (hn : σ.1 6 15 = (n : Int)) (hl : n < L 136) (hL : L 136 < 1000000) (hq : Q (pf (pr σ 136 n c) 6 15 ((n + 1 : Nat) : Int))) : w_Tree_put L c Q σ := by
  unfold w_Tree_put
  refine WJ_dir ?_
  dsimp only
  rw [hn, if_pos (by omega), show Int.toNat (n : Int) = n by omega]
  exact ⟨⟨by omega, by omega⟩, ⟨by omega, by omega⟩, by rw [show (n : Int) + 1 = ((n + 1 : Nat) : Int) by omega]; exact hq⟩
/-- an instruction read, its name and rest -/
theorem RJ.pin {p n f q : Nat} (hln : JLn L rm nd) (h : RJ L rm nd σ a) (hG : GA rm nd a) (hC : JC L σ a) (hp : σ.1 2 2 = (p : Int)) (hT : SHT (gd (cur a)) (σ.2 101) (cur a).length p) (htp : p + (cur a).length ≤ jtp σ) (hk : pin (gd (cur a)) (cur a).length 0 = some (n, f, q)) (hτ : τ = pf (pf (pf (pf (pf (pf σ 2 8 ((p : Int) + 2)) 2 9 (((p + n : Nat) : Int) - ((p : Int) + 2))) 2 10 ((p + f : Nat) : Int)) 2 11 (((p + q : Nat) : Int) - 2 - ((p + f : Nat) : Int))) 2 2 ((p + q : Nat) : Int)) 2 6 (σ.1 2 6 + hasc (sl (σ.2 101) (p + 2) (p + n - (p + 2))))) :
    RJ L rm nd τ (sN (adv a q) 2 (aN a 2 + (hasc (sl (gd (cur a)) 2 (n - 2))).toNat)) ∧ JC L τ (sN (adv a q) 2 (aN a 2 + (hasc (sl (gd (cur a)) 2 (n - 2))).toNat)) ∧ τ.1 2 5 = σ.1 2 5 ∧ (∀ o k, o ≠ 2 → τ.1 o k = σ.1 o k) ∧ τ.2 = σ.2 := by
  have hl := pin_lt hk
  have hjl := h.1.1.jtp_le
  have h9 : L 101 < 1000000 := hln.1.2.2.2.2.2.2.2
  have hrm := hln.2.1
  obtain ⟨-, -, ⟨r1, r2, r3, r4⟩, ⟨c1, c2, c3, c4, c5, c6⟩, -⟩ := hG
  have h6 := h.2.2.2.2.2.2.2.2.2.2.2.2
  have hs : sl (σ.2 101) (p + 2) (p + n - (p + 2)) = sl (gd (cur a)) 2 (n - 2) := by
    rw [show p + n - (p + 2) = n - 2 by omega]
    exact sh_sl hT (by omega)
  have hh : 0 ≤ hasc (sl (gd (cur a)) 2 (n - 2)) ∧ hasc (sl (gd (cur a)) 2 (n - 2)) ≤ 1 := by unfold hasc; split <;> omega
  rw [hs, h6] at hτ
  have hz : (aN a 2 : Int) + hasc (sl (gd (cur a)) 2 (n - 2)) = ((aN a 2 + (hasc (sl (gd (cur a)) 2 (n - 2))).toNat : Nat) : Int) := by omega
  rw [hz] at hτ
  obtain ⟨hR0, hg0⟩ := h.go (τ := pf (pf (pf (pf (pf σ 2 8 ((p : Int) + 2)) 2 9 (((p + n : Nat) : Int) - ((p : Int) + 2))) 2 10 ((p + f : Nat) : Int)) 2 11 (((p + q : Nat) : Int) - 2 - ((p + f : Nat) : Int))) 2 2 ((p + q : Nat) : Int)) hln (show q ≤ (cur a).length by omega) (fun o j h1 h2 => by rw [pf_1, if_neg (by omega), pf_1, if_neg (by omega), pf_1, if_neg (by omega), pf_1, if_neg (by omega), pf_1, if_neg (by omega)]) rfl (by rw [pf_eq, hp]; omega) (((((h.1.2.2.2.2.2.1.fld (by omega)).fld (by omega)).fld (by omega)).fld (by omega)).low (by decide))
  obtain ⟨hR1, hg1⟩ := hR0.col (n := aN a 2 + (hasc (sl (gd (cur a)) 2 (n - 2))).toNat) hln (by omega)
  rw [← hτ] at hR1 hg1
  have hfo : ∀ o k, o ≠ 2 → τ.1 o k = σ.1 o k := fun o k ho => by rw [hτ, pf_no ho, pf_no ho, pf_no ho, pf_no ho, pf_no ho, pf_no ho]
  have hf5 : τ.1 2 5 = σ.1 2 5 := by rw [hτ, pf_nk (by decide), pf_nk (by decide), pf_nk (by decide), pf_nk (by decide), pf_nk (by decide), pf_nk (by decide)]
  refine ⟨hR1, ?_, hf5, hfo, by rw [hτ]; rfl⟩
  have hc := hC.ad (τ := τ) (show q ≤ (cur a).length by omega) (by unfold jw; rw [hfo 1 14 (by decide)]) (by unfold jtp; rw [hfo 1 3 (by decide)]) (hfo 1 2 (by decide)) (hfo 4 16 (by decide)) (hfo 1 16 (by decide))
  exact hc
theorem jI_pin0 (hln : JLn L rm nd) (h : RJ L rm nd σ a) (hG : GA rm nd a) (hC : JC L σ a) (hm : mt (gd (cur a)) (cur a).length 0 [60, 63] = true) (hq : JO L rm nd σ Q (iPin nd false a)) : w_Reader_readInstruction L Q σ := by
  obtain ⟨p, g, t, hF, hp, hS, hT, htp, hj⟩ := h.at hln
  have hm' : mt (σ.2 101) (p + (cur a).length) p [60, 63] = true := by
    have := sh_mt hT [60, 63] 0
    rw [show p + 0 = p by omega] at this
    rw [this]; exact hm
  have hsp := sh_pin hT 0
  rw [show p + 0 = p by omega] at hsp
  have h6 := h.2.2.2.2.2.2.2.2.2.2.2.2
  have hg6 := hG.2.2.2.1.2.2.2.2.2
  have hg0 := hG.2.2.1
  have hrm := hln.2.1
  have hid : iPin nd false a = match pin (gd (cur a)) (cur a).length 0 with
    | none => .inl 5
    | some (n, f, q) => if false = true ∧ nd < aN a 3 + 1 then .inl 4
      else .inr (adv (sN (if false = true then sN (sS (tch a false) (aS a ++ [.inr (sl (gd (cur a)) 2 (n - 2), sl (gd (cur a)) f (q - 2 - f))])) 3 (aN a 3 + 1) else a) 2 (aN a 2 + (hasc (sl (gd (cur a)) 2 (n - 2))).toNat)) q) := rfl
  refine j_readInstruction (k := 0) hS (by omega) h.1.2.1 (by rw [h6]; omega) hm' (pf_self hp).symm (fun n' f' q' τ hpn hτ => ?_) (fun hno τ hτ => ?_)
  · rw [hsp] at hpn
    cases hk : pin (gd (cur a)) (cur a).length 0 with
    | none => rw [hk] at hpn; cases hpn
    | some v =>
      obtain ⟨n, f, q⟩ := v
      rw [hk] at hpn hid
      cases hpn
      dsimp only at hid
      rw [if_neg (by simp), if_neg (by decide)] at hid
      obtain ⟨hR, hc, h5, -, -⟩ := h.pin hln hG hC hp hT htp hk hτ
      have e1 : adv (sN a 2 (aN a 2 + (hasc (sl (gd (cur a)) 2 (n - 2))).toNat)) q = sN (adv a q) 2 (aN a 2 + (hasc (sl (gd (cur a)) 2 (n - 2))).toNat) := by
        have hF2 : aF (sN a 2 (aN a 2 + (hasc (sl (gd (cur a)) 2 (n - 2))).toNat)) = (cur a, g) :: t := hF
        rw [adv_of hF2, adv_of hF]
        rfl
      rw [e1] at hid
      exact hq.2 _ hid τ hR hc h5
  · rw [hsp] at hno
    cases hk : pin (gd (cur a)) (cur a).length 0 with
    | some v => rw [hk] at hno; cases hno
    | none =>
      rw [hk] at hid
      exact hq.1 5 hid τ (h.badj hτ).1
set_option maxHeartbeats 1000000 in
theorem jI_pin1 (hln : JLn L rm nd) (h : RJ L rm nd σ a) (hG : GA rm nd a) (hC : JC L σ a) (hm : mt (gd (cur a)) (cur a).length 0 [60, 63] = true) (hq : JO L rm nd σ Q (iPin nd true a)) : w_Content_readInstruction L Q σ := by
  obtain ⟨p, g, t, hF, hp, hS, hT, htp, hj⟩ := h.at hln
  have hts := h.ts hln hG
  have hm' : mt (σ.2 101) (p + (cur a).length) p [60, 63] = true := by
    have := sh_mt hT [60, 63] 0
    rw [show p + 0 = p by omega] at this
    rw [this]; exact hm
  have hsp := sh_pin hT 0
  rw [show p + 0 = p by omega] at hsp
  have h6 := h.2.2.2.2.2.2.2.2.2.2.2.2
  have hjl := h.1.1.jtp_le
  have h9 : L 101 < 1000000 := hln.1.2.2.2.2.2.2.2
  have h136 : L 136 = rm := hln.2.2.2.2.2.2.2.2.2.2.2
  obtain ⟨gO, gw, ⟨r1, r2, r3, r4⟩, ⟨c1, c2, c3, c4, c5, c6⟩, ⟨b1, b2⟩, gp, ho, gr⟩ := id hG
  have hrm := hln.2.1
  have hremc : (cur a).length ≤ rem a := by
    unfold rem
    rw [hF]
    simp only [List.map_cons, List.sum_cons]
    omega
  have hid : iPin nd true a = match pin (gd (cur a)) (cur a).length 0 with
    | none => .inl 5
    | some (n, f, q) => if true = true ∧ nd < aN a 3 + 1 then .inl 4
      else .inr (adv (sN (if true = true then sN (sS (tch a false) (aS a ++ [.inr (sl (gd (cur a)) 2 (n - 2), sl (gd (cur a)) f (q - 2 - f))])) 3 (aN a 3 + 1) else a) 2 (aN a 2 + (hasc (sl (gd (cur a)) 2 (n - 2))).toNat)) q) := rfl
  unfold w_Content_readInstruction
  refine j_readInstruction (k := 0) hS (by omega) h.1.2.1 (by rw [h6]; omega) hm' (pf_self hp).symm (fun n' f' q' τ hpn hτ => ?_) (fun hno τ hτ => ?_)
  · rw [hsp] at hpn
    cases hk : pin (gd (cur a)) (cur a).length 0 with
    | none => rw [hk] at hpn; cases hpn
    | some v =>
      obtain ⟨n, f, q⟩ := v
      rw [hk] at hpn hid
      cases hpn
      dsimp only at hid hτ
      rw [if_pos rfl] at hid
      have hl := pin_lt hk
      obtain ⟨hR, hc, h5, hfo, hro⟩ := h.pin hln hG hC hp hT htp hk hτ
      have e8 : τ.1 2 8 = ((p + 2 : Nat) : Int) := by rw [hτ, pf_nk (by decide), pf_nk (by decide), pf_nk (by decide), pf_nk (by decide), pf_nk (by decide), pf_eq]; omega
      have e9 : τ.1 2 9 = ((n - 2 : Nat) : Int) := by rw [hτ, pf_nk (by decide), pf_nk (by decide), pf_nk (by decide), pf_nk (by decide), pf_eq]; omega
      have e10 : τ.1 2 10 = ((p + f : Nat) : Int) := by rw [hτ, pf_nk (by decide), pf_nk (by decide), pf_nk (by decide), pf_eq]
      have e11 : τ.1 2 11 = ((q - 2 - f : Nat) : Int) := by rw [hτ, pf_nk (by decide), pf_nk (by decide), pf_eq]; omega
      rw [e8, e9, e10, e11]
      generalize hcl : aN a 2 + (hasc (sl (gd (cur a)) 2 (n - 2))).toNat = cl at *
      rw [adv_of hF] at hR hc
      generalize hX : ((cur a).drop q, g) :: t = X at *
      unfold w_Tree_addInstruction
      refine sp_note hln hR (show och (aL a) (aO a) from ho) (show (aL a).length ≤ nd by omega) (Or.inl ⟨rfl, rfl⟩) (fun ρ hR0 hf0 hr0 => ?_)
      have hSt := hR0.2.2.2.2.2.2.2.2.2.2.1
      have hNu := hR0.2.2.2.1
      rw [tch_other.2.2.2.2.2.2.2.2.1] at hSt
      rw [tch_other.2.2.1] at hNu
      have n61 : ρ.1 6 1 = (aN a 3 : Int) := hNu.2.2.1
      have n615 : ρ.1 6 15 = (evl (aS a) : Int) := hSt.1
      rw [n61]
      refine ⟨⟨by omega, by omega⟩, ?_⟩
      have hL136 : L 136 < 1000000 := by omega
      refine sp_put_x (n := evl (aS a)) (by rw [pf_nk (by decide)]; exact n615) (by omega) hL136 ?_
      refine sp_put_x (n := evl (aS a) + 1) pf_eq (by omega) hL136 ?_
      refine sp_put_x (n := evl (aS a) + 1 + 1) pf_eq (by omega) hL136 ?_
      refine sp_put_x (n := evl (aS a) + 1 + 1 + 1) pf_eq (by omega) hL136 ?_
      refine sp_put_x (n := evl (aS a) + 1 + 1 + 1 + 1) pf_eq (by omega) hL136 ?_
      generalize hE : evl (aS a) = E at *
      generalize hF' : pf (pr (pf (pr (pf (pr (pf (pr (pf (pr (pf ρ 6 1 ((aN a 3 : Int) + 1)) 136 E (-2)) 6 15 ((E + 1 : Nat) : Int)) 136 (E + 1) ((p + 2 : Nat) : Int)) 6 15 ((E + 1 + 1 : Nat) : Int)) 136 (E + 1 + 1) ((n - 2 : Nat) : Int)) 6 15 ((E + 1 + 1 + 1 : Nat) : Int)) 136 (E + 1 + 1 + 1) ((p + f : Nat) : Int)) 6 15 ((E + 1 + 1 + 1 + 1 : Nat) : Int)) 136 (E + 1 + 1 + 1 + 1) ((q - 2 - f : Nat) : Int)) 6 15 ((E + 1 + 1 + 1 + 1 + 1 : Nat) : Int) = φ
      have hφr : ∀ r j, φ.2 r j = if r = 136 ∧ j = E + 1 + 1 + 1 + 1 then ((q - 2 - f : Nat) : Int) else if r = 136 ∧ j = E + 1 + 1 + 1 then ((p + f : Nat) : Int) else if r = 136 ∧ j = E + 1 + 1 then ((n - 2 : Nat) : Int) else if r = 136 ∧ j = E + 1 then ((p + 2 : Nat) : Int) else if r = 136 ∧ j = E then -2 else ρ.2 r j := by
        intro r j
        rw [← hF', pf_2, pr_2, pf_2, pr_2, pf_2, pr_2, pf_2, pr_2, pf_2, pr_2, pf_2]
      have hφf : ∀ o k, ¬ (o = 6 ∧ (k = 1 ∨ k = 15)) → φ.1 o k = ρ.1 o k := by
        intro o k hk'
        rw [← hF', pf_1, if_neg (by omega), pr_1, pf_1, if_neg (by omega), pr_1, pf_1, if_neg (by omega), pr_1, pf_1, if_neg (by omega), pr_1, pf_1, if_neg (by omega), pr_1, pf_1, if_neg (by omega)]
      have hφ1 : φ.1 6 1 = ((aN a 3 + 1 : Nat) : Int) := by
        rw [← hF', pf_nk (by decide), pr_1, pf_nk (by decide), pr_1, pf_nk (by decide), pr_1, pf_nk (by decide), pr_1, pf_nk (by decide), pr_1, pf_eq]
        omega
      have hφ15 : φ.1 6 15 = ((E + 5 : Nat) : Int) := by rw [← hF', pf_eq]
      have hA : ∀ (F : Nat → Nat → Bool) (R : Nat → Bool), F 6 1 = false → F 6 15 = false → R 136 = false → ag F R ρ φ := by
        intro F R x1 x2 x3
        rw [← hF']
        exact ((((((((((ag.refl.pf x1).pr x3).pf x2).pr x3).pf x2).pr x3).pf x2).pr x3).pf x2).pr x3).pf x2
      obtain ⟨hZφ, hgφ⟩ := hR0.1.out (σ' := φ) (fun o k hk' => hφf o k (by omega)) (fun r hr' => funext (fun j => by rw [hφr, if_neg (by omega), if_neg (by omega), if_neg (by omega), if_neg (by omega), if_neg (by omega)]))
      have hρ101 : ρ.2 101 = σ.2 101 := by rw [hr0 101 (by decide), hro]
      have hJt : ∀ i m, i + m ≤ (cur a).length → Jt φ ((p + i : Nat) : Int) (sl (gd (cur a)) i m) := by
        intro i m him
        refine Jt.gr (σ := ρ) ⟨p + i, rfl, ?_, ?_⟩ hgφ
        · have : jtp ρ = jtp σ := by unfold jtp; rw [hf0, hfo 1 3 (by decide)]
          rw [sl_ln, this]; omega
        · rw [sl_ln, hρ101]
          exact sh_sl hT him
      have hRφ : RJ L rm nd φ (adv (sN (sN (sS (tch a false) (aS a ++ [.inr (sl (gd (cur a)) 2 (n - 2), sl (gd (cur a)) f (q - 2 - f))])) 3 (aN a 3 + 1)) 2 cl) q) := by
        have hF3 : aF (sN (sN (sS (tch a false) (aS a ++ [.inr (sl (gd (cur a)) 2 (n - 2), sl (gd (cur a)) f (q - 2 - f))])) 3 (aN a 3 + 1)) 2 cl) = (cur a, g) :: t := by
          show aF (tch a false) = _
          rw [tch_other.1]; exact hF
        rw [adv_of hF3, hX]
        have hT0 : tch (sN (sF a X) 2 cl) false = sN (sF (tch a false) X) 2 cl := by
          have e1 : sN (sF a X) 2 cl = sF (sN a 2 cl) X := rfl
          rw [e1, tch_sF]
          unfold tch
          show sF (match aO a with
            | [] => sN a 2 cl
            | e :: _ => sL (sN a 2 cl) ((aL a).modify e (fun x => (x.1, x.2.1, x.2.2.1, x.2.2.2.1, x.2.2.2.2.1, true, x.2.2.2.2.2.2 || false)))) X = _
          cases aO a with
          | nil => rfl
          | cons e r => rfl
        rw [hT0] at hR0
        refine hR0.mk' hln hZφ hgφ (Or.inl ⟨hA _ _ rfl rfl rfl, rfl, rfl⟩) (Or.inl ⟨hA _ _ rfl rfl rfl, rfl, rfl⟩) (Or.inr ?_) (Or.inl ⟨hA _ _ rfl rfl rfl, rfl⟩) (Or.inl ⟨hA _ _ rfl rfl rfl, rfl⟩) (Or.inl ⟨hA _ _ rfl rfl rfl, rfl⟩) (Or.inl ⟨hA _ _ rfl rfl rfl, rfl⟩) (Or.inl ⟨hA _ _ rfl rfl rfl, rfl, rfl⟩) (Or.inl ⟨hA _ _ rfl rfl rfl, rfl⟩) (Or.inr ?_) ⟨?_, ?_⟩
        · obtain ⟨m1, m2, m3, m4, m5, m6⟩ := hNu
          have htn : aN (tch a false) = aN a := tch_other.2.2.1
          refine ⟨?_, ?_, ?_, ?_, ?_, ?_⟩
          · rw [hφf 3 13 (by omega), m1]; show _ = ((aN (tch a false) 0 : Nat) : Int); rw [htn]; rfl
          · rw [hφf 3 14 (by omega), m2]; show _ = ((aN (tch a false) 1 : Nat) : Int); rw [htn]; rfl
          · rw [hφ1]; rfl
          · rw [hφf 3 15 (by omega), m4]; show _ = ((aN (tch a false) 5 : Nat) : Int); rw [htn]; rfl
          · rw [hφf 3 16 (by omega), m5]; show _ = ((aN (tch a false) 6 : Nat) : Int); rw [htn]; rfl
          · rw [hφf 5 6 (by omega), m6]; show _ = if aN (tch a false) 4 = 1 then (1 : Int) else 0; rw [htn]; rfl
        · have hfinal : aS a ++ [(Sum.inr (sl (gd (cur a)) 2 (n - 2), sl (gd (cur a)) f (q - 2 - f)) : Evt)] = aS a ++ [(Sum.inr (sl (gd (cur a)) 2 (n - 2), sl (gd (cur a)) f (q - 2 - f)) : Evt)] := rfl
          refine ⟨?_, ?_, ?_⟩
          · rw [hφ15]
            show _ = ((evl (aS a ++ [(Sum.inr (sl (gd (cur a)) 2 (n - 2), sl (gd (cur a)) f (q - 2 - f)) : Evt)]) : Nat) : Int)
            rw [evl_app, hE]
            rfl
          · rw [hφf 6 16 (by omega), hSt.2.1]
            show _ = ((ltr (aS a ++ [(Sum.inr (sl (gd (cur a)) 2 (n - 2), sl (gd (cur a)) f (q - 2 - f)) : Evt)]) : Nat) : Int)
            rw [ltr_app]
            rfl
          · show jev φ 0 (aS a ++ [(Sum.inr (sl (gd (cur a)) 2 (n - 2), sl (gd (cur a)) f (q - 2 - f)) : Evt)]) (evl (aS a ++ [(Sum.inr (sl (gd (cur a)) 2 (n - 2), sl (gd (cur a)) f (q - 2 - f)) : Evt)]))
            rw [evl_app, hE]
            have hj0 := hSt.2.2
            have hj0' : jev ρ 0 (aS a) E := by rw [← hE]; exact hj0
            refine jev_app5 (σ := ρ) hgφ (aS a) 0 (by omega) hj0' (fun k hk' => by rw [hφr, if_neg (by omega), if_neg (by omega), if_neg (by omega), if_neg (by omega), if_neg (by omega)]) ?_ ?_ ?_ ?_ ?_
            · rw [hφr, if_neg (by omega), if_neg (by omega), if_neg (by omega), if_neg (by omega), if_pos ⟨rfl, rfl⟩]
            · rw [hφr, if_neg (by omega), if_neg (by omega), if_neg (by omega), if_pos ⟨rfl, rfl⟩]
              exact hJt 2 (n - 2) (by omega)
            · rw [hφr, if_neg (by omega), if_neg (by omega), if_pos ⟨rfl, rfl⟩, sl_ln]
            · rw [hφr, if_neg (by omega), if_pos ⟨rfl, rfl⟩]
              exact hJt f (q - 2 - f) (by omega)
            · rw [hφr, if_pos ⟨rfl, rfl⟩, sl_ln]
        · rw [hφf 2 4 (by omega)]; exact hR0.2.2.2.2.2.2.2.2.2.2.2.1
        · rw [hφf 2 6 (by omega)]; exact hR0.2.2.2.2.2.2.2.2.2.2.2.2
      have hφo : ∀ o k, o ≠ 2 → o ≠ 6 → φ.1 o k = σ.1 o k := fun o k h1 h2 => by rw [hφf o k (by omega), hf0, hfo o k h1]
      have hφ5 : φ.1 2 5 = σ.1 2 5 := by rw [hφf 2 5 (by omega), hf0, h5]
      unfold w_Tree_tooMany
      have h60 : φ.1 6 0 = (nd : Int) := hZφ.2.2.2.1.2.2
      rw [h60, hφ1]
      refine WJ_dir ?_
      dsimp only
      by_cases cm : nd < aN a 3 + 1
      · rw [if_pos (show (nd : Int) < ((aN a 3 + 1 : Nat) : Int) by omega), if_neg (by decide)]
        rw [if_pos ⟨rfl, cm⟩] at hid
        have hB := hRφ.ft (n := 4) (by decide)
        rw [hφ5] at hB
        exact sp_Reader_fail (hq.1 4 hid _ hB)
      · rw [if_neg (show ¬ (nd : Int) < ((aN a 3 + 1 : Nat) : Int) by omega), if_pos rfl]
        rw [if_neg (fun z => cm z.2)] at hid
        refine hq.2 _ hid φ hRφ ?_ hφ5
        have hF3 : aF (sN (sN (sS (tch a false) (aS a ++ [.inr (sl (gd (cur a)) 2 (n - 2), sl (gd (cur a)) f (q - 2 - f))])) 3 (aN a 3 + 1)) 2 cl) = (cur a, g) :: t := by
          show aF (tch a false) = _
          rw [tch_other.1]; exact hF
        rw [adv_of hF3, hX]
        refine hc.same (by unfold jw; rw [hφf 1 14 (by omega), hf0]) (by unfold jtp; rw [hφf 1 3 (by omega), hf0]) (by rw [hφf 1 2 (by omega), hf0]) (by rw [hφf 4 16 (by omega), hf0]) ?_ ?_ rfl ?_ ?_ ?_ ?_ ?_ (by rw [hφf 1 16 (by omega), hf0]) (show aN a 3 ≤ aN a 3 + 1 by omega)
        · show aN (tch a false) 0 = _; rw [tch_other.2.2.1]; rfl
        · show aN (tch a false) 8 = _; rw [tch_other.2.2.1]; rfl
        · exact tch_len.2
        · show aB (tch a false) = _; rw [tch_other.2.2.2.2.2.2.2.1]; rfl
        · show aA (tch a false) = _; rw [tch_other.2.2.2.2.2.1]; rfl
        · show (aO (tch a false)).length = _; rw [tch_other.2.2.2.2.2.2.2.2.2]; rfl
        · show aD (tch a false) = _; rw [tch_other.2.2.2.2.1]; rfl
  · rw [hsp] at hno
    cases hk : pin (gd (cur a)) (cur a).length 0 with
    | some v => rw [hk] at hno; cases hno
    | none =>
      rw [hk] at hid
      obtain ⟨hB, hf, hr⟩ := h.badj hτ
      unfold w_Tree_addInstruction
      refine sp_note_w hln hB (hts.same (fun k => hf 6 k (by decide))) (fun ρ0 hB0 ht0 hf0 _ => ?_)
      have h61 := ht0.2.1
      refine ⟨⟨by omega, by omega⟩, ?_⟩
      have hB1 : JBd L rm nd (pf ρ0 6 1 (ρ0.1 6 1 + 1)) 5 (σ.1 2 5) := hB0.tree (fun o k hk' => by rw [pf_1, if_neg (by omega)]) (fun _ _ => rfl)
      have ht1 : JTs L nd 100001 (pf ρ0 6 1 (ρ0.1 6 1 + 1)) := by
        refine ⟨by rw [pf_nk (by decide)]; exact ht0.1, by rw [pf_eq]; omega, by rw [pf_nk (by decide)]; have := ht0.2.2.1; omega, by rw [pf_nk (by decide)]; exact ht0.2.2.2⟩
      refine sp_put_w hln hB1 ht1 (fun s1 B1 T1 _ _ => sp_put_w hln B1 T1 (fun s2 B2 T2 _ _ => sp_put_w hln B2 T2 (fun s3 B3 T3 _ _ => sp_put_w hln B3 T3 (fun s4 B4 T4 _ _ => sp_put_w hln B4 T4 (fun s5 B5 T5 _ _ => ?_)))))
      unfold w_Tree_tooMany
      refine WJ_dir ?_
      dsimp only
      split
      · rw [if_neg (by decide)]
        refine sp_Reader_fail ?_
        rw [flt_ne (by rw [B5.2.1]; decide)]
        exact hq.1 5 hid _ B5
      · rw [if_pos rfl]
        exact hq.1 5 hid _ B5
end JI4
