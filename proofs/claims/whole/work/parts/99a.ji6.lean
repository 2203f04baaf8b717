/-! ===== items of the class: references, ends of texts ===== -/
section JI6
variable {L : Nat → Nat} {rm nd : Nat} {σ τ : IS} {a : AS} {Q : IS → Prop}
/-- an entity's text is entered, or there is a fault -/
theorem sp_ent {A : AS} {i k0 : Nat} {a2 : Int} (hln : JLn L rm nd) (h : RJ L rm nd σ A) (hGO : GO (aE A) (aF A)) (hen : (aE A).length < rm / 14 + 2) (hc0 : aN A 0 ≤ rm) (hi : i < (aE A).length) (ha2 : a2 = els (aO A) k0)
    (h4 : rm < aN A 0 + ((aE A).getD i ([], false, [])).2.2.length → ∀ σ', JBd L rm nd σ' 4 (σ.1 2 5) → Q σ') (h10 : ¬ rm < aN A 0 + ((aE A).getD i ([], false, [])).2.2.length → (i + 1) ∈ bsy A → ∀ σ', JBd L rm nd σ' 10 (σ.1 2 5) → Q σ')
    (hok : ¬ rm < aN A 0 + ((aE A).getD i ([], false, [])).2.2.length → ¬ (i + 1) ∈ bsy A → ∀ σ', (∀ v, RJ L rm nd σ' (sN (sN (sF A ((((aE A).getD i ([], false, [])).2.2, i + 1, k0) :: aF A)) 0 (aN A 0 + ((aE A).getD i ([], false, [])).2.2.length)) 7 v)) → ag fX rX σ σ' → Q σ') : w_Entities_enter L (i : Int) a2 Q σ := by
  have hrm := hln.2.1
  cases hF : aF A with
  | nil => have := h.2.1.2.1; rw [hF] at this; simp at this
  | cons f t =>
    have hF1 := h.2.1
    have hE1 := h.2.2.1
    unfold bsy at hE1 h10 hok
    rw [hF] at hF1 hE1 h10 hok hGO
    have hlen := hGO.len
    rw [List.length_cons] at hlen
    have hNu := h.2.2.2.1
    refine sp_enter (c := aN A 0) (k := k0) (os := aO A) hln h.1 hF1 hE1 hi hen hNu.1 (by omega) (by omega) rfl ha2 (fun hlt => h4 hlt _ (h.ft (n := 4) (by decide))) (fun hlt hb => h10 hlt hb _ (h.ft (n := 10) (by decide))) (fun hlt hb σ' hF' hE' h13 hag hZ' hg' _ => hok hlt hb σ' (fun v => ?_) hag)
    have hA : ∀ (F : Nat → Nat → Bool) (R : Nat → Bool), (∀ o k, F o k = true → fX o k = true) → (∀ r, R r = true → rX r = true) → ag F R σ σ' := fun F R x y => hag.sub x y
    refine h.mk' hln hZ' hg' (Or.inr hF') (Or.inr hE') (Or.inr ?_) (Or.inl ⟨hA _ _ (fun o k z => by simp [fRo] at z; simp [fX]; omega) (fun r z => by simp [rNo] at z), rfl⟩) (Or.inl ⟨hA _ _ (fun o k z => by simp [fEd] at z; simp [fX]; omega) (fun r z => by simp [rEd] at z; simp [rX]; omega), rfl⟩) (Or.inl ⟨hA _ _ (fun o k z => by simp [fAd] at z; simp [fX]; omega) (fun r z => by simp [rAd] at z; simp [rX]; omega), rfl⟩) (Or.inl ⟨hA _ _ (fun o k z => by simp [fNt] at z; simp [fX]; omega) (fun r z => by simp [rNt] at z; simp [rX]; omega), rfl⟩) (Or.inl ⟨hA _ _ (fun o k z => by simp [fEl] at z; simp [fX]; omega) (fun r z => by simp [rEl] at z; simp [rX]; omega), rfl, rfl⟩) (Or.inl ⟨hA _ _ (fun o k z => by simp [fAt] at z; simp [fX]; omega) (fun r z => by simp [rAt] at z; simp [rX]; omega), rfl⟩) (Or.inl ⟨hA _ _ (fun o k z => by simp [fSt] at z; simp [fX]; omega) (fun r z => by simp [rSt] at z; simp [rX]; omega), rfl⟩) ⟨by rw [hag.1 2 4 rfl]; exact h.2.2.2.2.2.2.2.2.2.2.2.1, by rw [hag.1 2 6 rfl]; exact h.2.2.2.2.2.2.2.2.2.2.2.2⟩
    obtain ⟨n1, n2, n3, n4, n5, n6⟩ := hNu
    exact ⟨h13, by rw [hag.1 3 14 rfl]; exact n2, by rw [hag.1 6 1 rfl]; exact n3, by rw [hag.1 3 15 rfl]; exact n4, by rw [hag.1 3 16 rfl]; exact n5, by rw [hag.1 5 6 rfl]; exact n6⟩
theorem RJ.so {x : Int} (hln : JLn L rm nd) (h : RJ L rm nd σ a) : RJ L rm nd (pf σ 1 13 x) a := by
  obtain ⟨hR, -⟩ := h.go (τ := pf σ 1 13 x) (k := 0) hln (Nat.zero_le _) (fun o j h1 h2 => by rw [pf_1, if_neg h2]) rfl (by rw [pf_no (by decide)]; omega) (rng_of h.1.2.2.2.2.2.1 (fun j _ _ => pf_no (by decide)))
  obtain ⟨p, g, t, hF, -⟩ := h.at hln
  rw [adv_of hF, List.drop_zero, ← hF] at hR
  exact hR
theorem opn_els {os : List Nat} : opn os = els os os.length := by
  cases os with
  | nil => rfl
  | cons e r => rw [List.length_cons, els_all]; rfl
set_option maxHeartbeats 2000000 in
theorem jI_ref (hln : JLn L rm nd) (h : RJ L rm nd σ a) (hG : GA rm nd a) (hC : JC L σ a) (hm : cur a ≠ [] ∧ gd (cur a) 0 = 38) (hq : JO L rm nd σ Q (iRef rm a)) : w_Content_readReference L Q σ := by
  obtain ⟨p, g, t, hF, hp, hS, hT, htp, hj⟩ := h.at hln
  have hts := h.ts hln hG
  have hjl := h.1.1.jtp_le
  have h9 : L 101 < 1000000 := hln.1.2.2.2.2.2.2.2
  obtain ⟨gO, gw, ⟨r1, r2, r3, r4⟩, ⟨c1, c2, c3, c4, c5, c6⟩, ⟨b1, b2⟩, gp, ho, ⟨gf1, gf2⟩, g1, g2, g3, g4⟩ := id hG
  have hrm := hln.2.1
  have hlp : 0 < (cur a).length := by
    cases hc : cur a with
    | nil => exact absurd hc hm.1
    | cons x y => simp
  have hremc : (cur a).length ≤ rem a := by
    unfold rem
    rw [hF]
    simp only [List.map_cons, List.sum_cons]
    omega
  have hcap : ∀ k, 0 < k → k ≤ (cur a).length → evl (aS a) < rm := fun k h1 h2 => by omega
  have h38 : σ.2 101 p = 38 := by
    have := hT 0 hlp
    rw [show p + 0 = p by omega] at this
    rw [this]; exact hm.2
  have hrf := sh_rfp hT (some 0)
  rw [mvo_some, show p + 0 = p by omega] at hrf
  have hid : iRef rm a = match rfp (gd (cur a)) (cur a).length (some 0) with
    | none => .inl 5
    | some k => if 0 ≤ rfK (cur a) k then .inr (adv (chr (tch a true) [rfK (cur a) k]) k) else if rfK (cur a) k = -2 then .inl 12
      else match eno (aE a) (sl (gd (cur a)) 1 (k - 2)) false with
        | none => if und a = true then .inl 9 else .inr (adv (sN (tch a false) 1 (aN a 1 + 1)) k)
        | some i => ent rm (tch a false) i k := rfl
  unfold w_Content_readReference
  -- with a place k, what holds of every state behind the reference
  have hafter : ∀ (k : Nat) (τ : IS), rfp (gd (cur a)) (cur a).length (some 0) = some k → (∀ o j, ¬ (o = 2 ∧ (j = 2 ∨ (7 ≤ j ∧ j ≤ 11))) → τ.1 o j = σ.1 o j) → τ.2 = σ.2 → rng τ → τ.1 2 2 = ((p + k : Nat) : Int) → RJ L rm nd τ (sF a (((cur a).drop k, g) :: t)) ∧ jw τ = jw σ ∧ jtp τ = jtp σ := by
    intro k τ hk hf hr hg h2
    have hkp := rfp_pos hk
    obtain ⟨hR, -⟩ := h.go (τ := τ) hln hkp.2 (fun o j h1 _ => hf o j h1) hr (by rw [h2, hp]; omega) hg
    rw [adv_of hF] at hR
    exact ⟨hR, by unfold jw; rw [hf 1 14 (by omega)], by unfold jtp; rw [hf 1 3 (by omega)]⟩
  -- a character is put
  have hput : ∀ (k : Nat) (c : Int) (τ ρ : IS), rfp (gd (cur a)) (cur a).length (some 0) = some k → 0 ≤ c → iRef rm a = .inr (adv (chr (tch a true) [c]) k) → RJ L rm nd ρ (tch (sF a (((cur a).drop k, g) :: t)) false) → (∀ o j, o ≠ 1 → o ≠ 2 → ρ.1 o j = σ.1 o j) → ρ.1 2 5 = σ.1 2 5 → (jw ρ = jw σ ∧ jtp ρ = jtp σ ∧ ρ.1 1 2 = σ.1 1 2) → ρ.1 1 16 = σ.1 1 16 → (if c = -1 then Q ρ else w_Tree_note L 2 (fun σ13 => w_Tree_addCharacter L c (fun σ15 => Q σ15) σ13) ρ) := by
    intro k c τ ρ hk hc hid' hR hfo h5 hst hst16
    have hkp := rfp_pos hk
    rw [if_neg (by omega)]
    generalize hX : ((cur a).drop k, g) :: t = X at *
    have hoX : och (aL (sF a X)) (aO (sF a X)) := ho
    refine sp_note hln hR ((och_tch (a := sF a X)).mpr hoX) (by rw [tch_len.1]; show (aL a).length ≤ nd; omega) (Or.inr ⟨Or.inl rfl, rfl⟩) (fun ρ1 hR1 hf1 hr1 => ?_)
    rw [tch_tch] at hR1
    have hS1 : aS (tch (sF a X) (false || true)) = aS a := by rw [tch_other.2.2.2.2.2.2.2.2.1]; rfl
    refine sp_addCharacter hln hR1 (by rw [hS1]; omega) hc (ltr_le _) (fun ρ2 hR2 hf2 hr2 => ?_)
    have e1 : adv (chr (tch a true) [c]) k = chr (tch (sF a X) (false || true)) [c] := by
      have hF2 : aF (chr (tch a true) [c]) = (cur a, g) :: t := by
        show aF (tch a true) = _
        rw [tch_other.1]; exact hF
      rw [adv_of hF2, hX, tch_sF]
      rfl
    rw [e1] at hid'
    refine hq.2 _ hid' ρ2 hR2 ?_ (by rw [hf2 2 5 (by decide), hf1]; exact h5)
    have hc1 := hC.ad (τ := ρ2) hkp.2 (by unfold jw; rw [hf2 1 14 (by decide), hf1]; exact hst.1) (by unfold jtp; rw [hf2 1 3 (by decide), hf1]; exact hst.2.1) (by rw [hf2 1 2 (by decide), hf1]; exact hst.2.2) (by rw [hf2 4 16 (by decide), hf1, hfo 4 16 (by decide) (by decide)]) (by rw [hf2 1 16 (by decide), hf1]; exact hst16)
    rw [adv_of hF, hX] at hc1
    refine hc1.same rfl rfl rfl rfl ?_ ?_ ?_ ?_ ?_ ?_ ?_ ?_ rfl (Nat.le_of_eq (show aN (sF a X) 3 = aN (tch (sF a X) _) 3 by rw [tch_other.2.2.1]))
    · show aN (tch (sF a X) _) 0 = _; rw [tch_other.2.2.1]
    · show aN (tch (sF a X) _) 8 = _; rw [tch_other.2.2.1]
    · unfold rem
      show ((aF (tch (sF a X) _)).map _).sum = _
      rw [tch_other.1]
    · exact tch_len.2
    · show aB (tch (sF a X) _) = _; rw [tch_other.2.2.2.2.2.2.2.1]
    · show aA (tch (sF a X) _) = _; rw [tch_other.2.2.2.2.2.1]
    · show (aO (tch (sF a X) _)).length = _; rw [tch_other.2.2.2.2.2.2.2.2.2]
    · show aD (tch (sF a X) _) = _; rw [tch_other.2.2.2.2.1]
  refine j_readReference (k := 0) hS (by omega) h.1.2.1 (show p < p + (cur a).length by omega) h38 (pf_self hp).symm (fun ja hex k0 hja h35 hhex hk0 τ' hτ => ?_) (fun ja hja h35 τ' hτ => ?_) (fun hja τ' hτ => ?_)
  · rw [hrf] at hja
    obtain ⟨k, hk, hjk⟩ := mvo_eq_some.mp hja
    have hkp := rfp_pos hk
    rw [hk] at hid
    dsimp only at hid
    have q1 : gd (cur a) 1 = 35 := by rw [← hT 1 (by omega)]; exact h35
    have q2 : (hex = true ↔ gd (cur a) 2 = 120) := by rw [← hT 2 (by omega)]; exact hhex
    have hnum : numl (if hex = true then 16 else 10) (sl (σ.2 101) k0 (ja - 1 - k0)) = rfN (cur a) k := by
      unfold rfN
      cases hex with
      | true =>
        rw [if_pos rfl] at hk0
        rw [if_pos (q2.mp rfl), if_pos rfl, hk0, hjk, show p + k - 1 - (p + 3) = k - 1 - 3 by omega]
        congr 1
        exact sl_ext (fun i hi => by rw [Nat.add_assoc]; exact hT _ (by omega))
      | false =>
        rw [if_neg (by decide)] at hk0
        rw [if_neg (fun z => absurd (q2.mpr z) (by decide)), if_neg (by decide), hk0, hjk, show p + k - 1 - (p + 2) = k - 1 - 2 by omega]
        congr 1
        exact sl_ext (fun i hi => by rw [Nat.add_assoc]; exact hT _ (by omega))
    have hNpos : 0 ≤ rfN (cur a) k := by
      obtain ⟨n1, n2, n3, n4⟩ := rfp_num hk q1 hex q2 (if hex = true then 3 else 2) (by split <;> rfl)
      rw [← hnum]
      refine numl_pos (by split <;> omega) _ (fun ch hch => ?_)
      obtain ⟨i, hi, rfl⟩ := List.mem_map.mp hch
      have hi' := List.mem_range.mp hi
      have hall := sk_all (p := hxP hex) (T := gd (cur a)) (e := (cur a).length) (i := if hex = true then 3 else 2)
      cases hex with
      | true =>
        rw [if_pos rfl] at hk0 n4 hall n1
        have h5 := hall (3 + i) (by omega) (by rw [n4]; omega)
        rw [hk0, Nat.add_assoc, hT (3 + i) (by omega)]
        exact h5
      | false =>
        rw [if_neg (by decide)] at hk0 n4 hall n1
        have h5 := hall (2 + i) (by omega) (by rw [n4]; omega)
        rw [hk0, Nat.add_assoc, hT (2 + i) (by omega)]
        exact dg_hex h5
    rw [hnum] at hτ
    have hcl := clmp_in hNpos
    have hτe : τ' = pf (pf σ 2 7 (clmp 1114112 (rfN (cur a) k))) 2 2 (ja : Int) := hτ.2
    have hτf : ∀ o j, ¬ (o = 2 ∧ (j = 2 ∨ (7 ≤ j ∧ j ≤ 11))) → τ'.1 o j = σ.1 o j := fun o j hk' => by rw [hτe, pf_1, if_neg (by omega), pf_1, if_neg (by omega)]
    obtain ⟨hR, s1, s2⟩ := hafter k τ' hk hτf (by rw [hτe]; rfl) (by rw [hτe]; exact (h.1.2.2.2.2.2.1.fld hcl).low (by decide)) (by rw [hτe, pf_eq, hjk])
    have h4' : τ'.1 2 4 = 0 := by rw [hτf 2 4 (by omega)]; exact h.2.2.2.2.2.2.2.2.2.2.2.1
    rw [if_pos h4']
    generalize hX : ((cur a).drop k, g) :: t = X at *
    refine sp_note hln hR (show och (aL a) (aO a) from ho) (show (aL a).length ≤ nd by omega) (Or.inl ⟨rfl, rfl⟩) (fun ρ hR0 hf0 hr0 => ?_)
    have hK2 : rfK (cur a) k = if isCh (rfN (cur a) k) = true then rfN (cur a) k else -2 := by
      unfold rfK
      rw [if_pos q1]
    refine sp_mean_num (N := rfN (cur a) k) (by rw [hf0, hτe, pf_nk (by decide), pf_eq]) hNpos (fun hch => ?_) (fun hch => ?_)
    · rw [if_pos hch] at hK2
      rw [hK2, if_pos hNpos] at hid
      refine WJ_dir ?_
      dsimp only
      subst hX
      exact hput k (rfN (cur a) k) σ ρ hk hNpos hid hR0 (fun o j h1 h2 => by rw [hf0, hτf o j (by omega)]) (by rw [hf0, hτf 2 5 (by omega)]) ⟨by unfold jw; rw [hf0]; exact s1, by unfold jtp; rw [hf0]; exact s2, by rw [hf0, hτf 1 2 (by omega)]⟩ (by rw [hf0, hτf 1 16 (by omega)])
    · rw [if_neg (by rw [hch]; decide)] at hK2
      rw [hK2, if_neg (by decide), if_pos rfl] at hid
      refine WJ_dir ?_
      dsimp only
      rw [if_pos rfl]
      have hB := hR0.ft (n := 12) (by decide)
      rw [show ρ.1 2 5 = σ.1 2 5 by rw [hf0, hτf 2 5 (by omega)]] at hB
      exact hq.1 12 hid _ hB
  · rw [hrf] at hja
    obtain ⟨k, hk, hjk⟩ := mvo_eq_some.mp hja
    have hkp := rfp_pos hk
    rw [hk] at hid
    dsimp only at hid
    have q1 : ¬ gd (cur a) 1 = 35 := by rw [← hT 1 (by omega)]; exact h35
    have hτe : τ' = pf (pf (pf (pf σ 2 7 (-1)) 2 8 ((p : Int) + 1)) 2 9 ((ja : Int) - 1 - ((p : Int) + 1))) 2 2 (ja : Int) := hτ.2
    have hτf : ∀ o j, ¬ (o = 2 ∧ (j = 2 ∨ (7 ≤ j ∧ j ≤ 11))) → τ'.1 o j = σ.1 o j := fun o j hk' => by rw [hτe, pf_1, if_neg (by omega), pf_1, if_neg (by omega), pf_1, if_neg (by omega), pf_1, if_neg (by omega)]
    obtain ⟨hR, s1, s2⟩ := hafter k τ' hk hτf (by rw [hτe]; rfl) (by rw [hτe]; exact (((h.1.2.2.2.2.2.1.fld (by omega)).fld (by omega)).fld (by omega)).low (by decide)) (by rw [hτe, pf_eq, hjk])
    have h4' : τ'.1 2 4 = 0 := by rw [hτf 2 4 (by omega)]; exact h.2.2.2.2.2.2.2.2.2.2.2.1
    rw [if_pos h4']
    generalize hX : ((cur a).drop k, g) :: t = X at *
    refine sp_note hln hR (show och (aL a) (aO a) from ho) (show (aL a).length ≤ nd by omega) (Or.inl ⟨rfl, rfl⟩) (fun ρ hR0 hf0 hr0 => ?_)
    have e7 : ρ.1 2 7 = -1 := by rw [hf0, hτe, pf_nk (by decide), pf_nk (by decide), pf_nk (by decide), pf_eq]
    have e8 : ρ.1 2 8 = ((p + 1 : Nat) : Int) := by rw [hf0, hτe, pf_nk (by decide), pf_nk (by decide), pf_eq]; omega
    have e9 : ρ.1 2 9 = ((k - 2 : Nat) : Int) := by rw [hf0, hτe, pf_nk (by decide), pf_eq]; omega
    have hρ101 : ρ.2 101 = σ.2 101 := by rw [hr0 101 (by decide), hτe]; rfl
    have hstr : sl (ρ.2 101) (ρ.1 2 8).toNat (ρ.1 2 9).toNat = sl (gd (cur a)) 1 (k - 2) := by
      rw [e8, e9, hρ101, show ((p + 1 : Nat) : Int).toNat = p + 1 by omega, show ((k - 2 : Nat) : Int).toNat = k - 2 by omega]
      exact sl_ext (fun i hi => by rw [Nat.add_assoc]; exact hT _ (by omega))
    have hK2 : rfK (cur a) k = alw (sl (gd (cur a)) 1 (k - 2)) := by
      unfold rfK
      rw [if_neg q1]
    rw [hK2] at hid
    have hρo : ∀ o j, o ≠ 1 → o ≠ 2 → ρ.1 o j = σ.1 o j := fun o j h1 h2 => by rw [hf0, hτf o j (by omega)]
    have hρ5 : ρ.1 2 5 = σ.1 2 5 := by rw [hf0, hτf 2 5 (by omega)]
    have hEn := hR0.2.2.1
    rw [tch_other.2.1] at hEn
    have hNu := h.2.2.2.1
    have hopn : ρ.1 6 3 = els (aO a) (aO a).length := by rw [hρo 6 3 (by decide) (by decide), h.2.2.2.2.2.2.2.2.1.2.1, opn_els]
    have hund : und a = true ↔ ¬ (σ.1 3 15 = 0 ∧ ¬ σ.1 3 16 = 0) := by
      unfold und
      rw [hNu.2.2.2.1, hNu.2.2.2.2.1, Bool.or_eq_true, beq_iff_eq, beq_iff_eq]
      have := gp.2.2
      omega
    refine sp_mean_name (s := sl (gd (cur a)) 1 (k - 2)) (en := aE a) hln hR0.1 e7 ⟨by omega, by omega, by omega⟩ hstr hEn.2.2.1 (by rw [hρo 3 14 (by decide) (by decide), hNu.2.1]; omega) (fun hal z => ?_) (fun hal hno hcond z => ?_) (fun hal hno hcond z => ?_) (fun hal i hi z => ?_)
    · rw [if_pos hal] at hid
      refine WJ_dir ?_
      dsimp only
      subst hX
      exact hput k (alw (sl (gd (cur a)) 1 (k - 2))) σ (pf ρ 1 13 z) hk hal hid (hR0.so hln) (fun o j h1 h2 => by rw [pf_no h1, hρo o j h1 h2]) (by rw [pf_no (by decide)]; exact hρ5) ⟨by unfold jw; rw [pf_nk (by decide), hf0]; exact s1, by unfold jtp; rw [pf_nk (by decide), hf0]; exact s2, by rw [pf_nk (by decide), hf0, hτf 1 2 (by omega)]⟩ (by rw [pf_nk (by decide), hf0, hτf 1 16 (by omega)])
    · rw [hal, if_neg (by decide), if_neg (by decide), hno] at hid
      dsimp only at hid
      rw [hρo 3 15 (by decide) (by decide), hρo 3 16 (by decide) (by decide)] at hcond
      rw [if_neg (fun z => hund.mp z hcond)] at hid
      refine WJ_dir ?_
      dsimp only
      rw [if_pos rfl]
      have hRz := hR0.so (x := z) hln
      rw [hρo 3 14 (by decide) (by decide), hNu.2.1]
      have hZ' := hRz.1.out (σ' := pf (pf ρ 1 13 z) 3 14 ((aN a 1 : Int) + 1)) (fun o k hk' => by rw [pf_1, if_neg (by omega)]) (fun _ _ => rfl)
      have hA : ∀ (F : Nat → Nat → Bool) (R : Nat → Bool), F 3 14 = false → ag F R (pf ρ 1 13 z) (pf (pf ρ 1 13 z) 3 14 ((aN a 1 : Int) + 1)) := fun F R x => ag.refl.pf x
      have hF3 : aF (sN (tch a false) 1 (aN a 1 + 1)) = (cur a, g) :: t := by
        show aF (tch a false) = _
        rw [tch_other.1]; exact hF
      rw [adv_of hF3, hX] at hid
      rw [tch_sF] at hRz
      have hRf : RJ L rm nd (pf (pf ρ 1 13 z) 3 14 ((aN a 1 : Int) + 1)) (sF (sN (tch a false) 1 (aN a 1 + 1)) X) := by
        refine hRz.mk' hln hZ'.1 hZ'.2 (Or.inl ⟨hA _ _ rfl, rfl, rfl⟩) (Or.inl ⟨hA _ _ rfl, rfl, rfl⟩) (Or.inr ?_) (Or.inl ⟨hA _ _ rfl, rfl⟩) (Or.inl ⟨hA _ _ rfl, rfl⟩) (Or.inl ⟨hA _ _ rfl, rfl⟩) (Or.inl ⟨hA _ _ rfl, rfl⟩) (Or.inl ⟨hA _ _ rfl, rfl, rfl⟩) (Or.inl ⟨hA _ _ rfl, rfl⟩) (Or.inl ⟨hA _ _ rfl, rfl⟩) ⟨by rw [pf_no (by decide)]; exact hRz.2.2.2.2.2.2.2.2.2.2.2.1, by rw [pf_no (by decide)]; exact hRz.2.2.2.2.2.2.2.2.2.2.2.2⟩
        obtain ⟨n1, n2, n3, n4, n5, n6⟩ := hRz.2.2.2.1
        exact ⟨by rw [pf_nk (by decide)]; exact n1, by rw [pf_eq]; rfl, by rw [pf_no (by decide)]; exact n3, by rw [pf_nk (by decide)]; exact n4, by rw [pf_nk (by decide)]; exact n5, by rw [pf_no (by decide)]; exact n6⟩
      refine hq.2 _ hid _ hRf ?_ (by rw [pf_no (by decide), pf_no (by decide)]; exact hρ5)
      have hc1 := hC.ad (τ := pf (pf ρ 1 13 z) 3 14 ((aN a 1 : Int) + 1)) hkp.2 (by unfold jw; rw [pf_no (by decide), pf_nk (by decide), hf0]; exact s1) (by unfold jtp; rw [pf_no (by decide), pf_nk (by decide), hf0]; exact s2) (by rw [pf_no (by decide), pf_nk (by decide), hf0, hτf 1 2 (by omega)]) (by rw [pf_no (by decide), pf_no (by decide), hρo 4 16 (by decide) (by decide)]) (by rw [pf_no (by decide), pf_nk (by decide), hf0, hτf 1 16 (by omega)])
      rw [adv_of hF, hX] at hc1
      refine hc1.same rfl rfl rfl rfl ?_ ?_ rfl ?_ ?_ ?_ ?_ ?_ rfl (Nat.le_of_eq (show aN a 3 = aN (tch a false) 3 by rw [tch_other.2.2.1]))
      · show aN (tch a false) 0 = _; rw [tch_other.2.2.1]; rfl
      · show aN (tch a false) 8 = _; rw [tch_other.2.2.1]; rfl
      · exact tch_len.2
      · show aB (tch a false) = _; rw [tch_other.2.2.2.2.2.2.2.1]; rfl
      · show aA (tch a false) = _; rw [tch_other.2.2.2.2.2.1]; rfl
      · show (aO (tch a false)).length = _; rw [tch_other.2.2.2.2.2.2.2.2.2]; rfl
      · show aD (tch a false) = _; rw [tch_other.2.2.2.2.1]; rfl
    · rw [hal, if_neg (by decide), if_neg (by decide), hno] at hid
      dsimp only at hid
      rw [hρo 3 15 (by decide) (by decide), hρo 3 16 (by decide) (by decide)] at hcond
      rw [if_pos (hund.mpr hcond)] at hid
      refine WJ_dir ?_
      dsimp only
      rw [if_pos rfl]
      have hB := (hR0.so (x := z) hln).ft (n := 9) (by decide)
      rw [show (pf ρ 1 13 z).1 2 5 = σ.1 2 5 by rw [pf_no (by decide)]; exact hρ5] at hB
      exact hq.1 9 hid _ hB
    · rw [hal, if_neg (by decide), if_neg (by decide), hi] at hid
      dsimp only at hid
      have hRz := hR0.so (x := z) hln
      rw [tch_sF] at hRz
      have hin : i < (aE a).length := (List.findIdx?_eq_some_iff_getElem.mp hi).1
      have hb5 : (pf ρ 1 13 z).1 2 5 = σ.1 2 5 := by rw [pf_no (by decide)]; exact hρ5
      have hFt : aF (tch a false) = (cur a, g) :: t := by rw [tch_other.1]; exact hF
      have hent : ent rm (tch a false) i k = if rm < aN a 0 + (((aE a).getD i ([], false, [])).2.2).length then .inl 4 else if (i + 1) ∈ bsy a then .inl 10 else .inr (sN (sN (sF (tch a false) ((((aE a).getD i ([], false, [])).2.2, i + 1, (aO a).length) :: X)) 0 (aN a 0 + (((aE a).getD i ([], false, [])).2.2).length)) 7 (if t = [] then aN a 8 - (cur a).length else aN a 7)) := by
        have hbs : bsy (tch a false) = bsy a := by unfold bsy; rw [tch_other.1]
        unfold ent
        rw [hFt, hbs, tch_other.2.1, tch_other.2.2.1, tch_other.2.2.2.2.2.2.2.2.2, ← hX]
      rw [hent] at hid
      have hEA : aE (sF (tch a false) X) = aE a := by show aE (tch a false) = _; rw [tch_other.2.1]
      have hNA : aN (sF (tch a false) X) = aN a := by show aN (tch a false) = _; rw [tch_other.2.2.1]
      have hOA : aO (sF (tch a false) X) = aO a := by show aO (tch a false) = _; rw [tch_other.2.2.2.2.2.2.2.2.2]
      have hbA : bsy (sF (tch a false) X) = bsy a := by
        show X.map (fun f => f.2.1) = (aF a).map (fun f => f.2.1)
        rw [← hX, hF]
        rfl
      have hGA2 : GO (aE (sF (tch a false) X)) (aF (sF (tch a false) X)) := by
        rw [hEA]
        show GO (aE a) X
        rw [← hX]
        rw [hF] at gO
        refine ⟨gO.1, fun f hf => ?_⟩
        rcases List.mem_cons.mp hf with rfl | hf
        · exact gO.2 (cur a, g) List.mem_cons_self
        · exact gO.2 f (List.mem_cons_of_mem _ hf)
      have hw : w_Entities_enter L (i : Int) (ρ.1 6 3) (fun σ20 => Q σ20) (pf ρ 1 13 z) := by
        refine sp_ent (A := sF (tch a false) X) (k0 := (aO a).length) hln hRz hGA2 (by rw [hEA]; omega) (by rw [hNA]; omega) (by rw [hEA]; exact hin) (by rw [hOA]; exact hopn) (fun hlt σ' hB => ?_) (fun hlt hb σ' hB => ?_) (fun hlt hb σ' hR' hag => ?_)
        · rw [hEA, hNA] at hlt
          rw [if_pos hlt] at hid
          rw [hb5] at hB
          exact hq.1 4 hid σ' hB
        · rw [hEA, hNA] at hlt
          rw [hbA] at hb
          rw [if_neg hlt, if_pos hb] at hid
          rw [hb5] at hB
          exact hq.1 10 hid σ' hB
        · rw [hEA, hNA] at hlt
          rw [hbA] at hb
          rw [if_neg hlt, if_neg hb] at hid
          have hR'' := hR' (if t = [] then aN a 8 - (cur a).length else aN a 7)
          rw [hEA, hNA] at hR''
          refine hq.2 _ hid σ' hR'' ?_ (by rw [hag.1 2 5 rfl]; exact hb5)
          have hc1 := hC.ad (τ := σ') hkp.2 (by unfold jw; rw [hag.1 1 14 rfl, pf_nk (by decide), hf0]; exact s1) (by unfold jtp; rw [hag.1 1 3 rfl, pf_nk (by decide), hf0]; exact s2) (by rw [hag.1 1 2 rfl, pf_nk (by decide), hf0, hτf 1 2 (by omega)]) (by rw [hag.1 4 16 rfl, pf_no (by decide), hρo 4 16 (by decide) (by decide)]) (by rw [hag.1 1 16 rfl, pf_nk (by decide), hf0, hτf 1 16 (by omega)])
          rw [adv_of hF, hX] at hc1
          have hrm2 : rem (sN (sN (sF (tch a false) ((((aE a).getD i ([], false, [])).2.2, i + 1, (aO a).length) :: X)) 0 (aN a 0 + (((aE a).getD i ([], false, [])).2.2).length)) 7 (if t = [] then aN a 8 - (cur a).length else aN a 7)) = (((aE a).getD i ([], false, [])).2.2).length + rem (sF a X) := by
            unfold rem
            have e1 : aF (sN (sN (sF (tch a false) ((((aE a).getD i ([], false, [])).2.2, i + 1, (aO a).length) :: X)) 0 (aN a 0 + (((aE a).getD i ([], false, [])).2.2).length)) 7 (if t = [] then aN a 8 - (cur a).length else aN a 7)) = (((aE a).getD i ([], false, [])).2.2, i + 1, (aO a).length) :: X := rfl
            have e2 : aF (sF a X) = X := rfl
            rw [e1, e2, List.map_cons, List.sum_cons]
          obtain ⟨d1, d2, d3⟩ := hc1
          have e0 : aN (sF a X) = aN a := rfl
          have eO : aO (sF a X) = aO a := rfl
          have eL : aL (sF a X) = aL a := rfl
          have eB : aB (sF a X) = aB a := rfl
          have eA : aA (sF a X) = aA a := rfl
          have eR : rsv (sF a X) = rsv a := rfl
          rw [e0, eO, eR] at d1
          rw [e0] at d2 d3
          have f0 : aN (sN (sN (sF (tch a false) ((((aE a).getD i ([], false, [])).2.2, i + 1, (aO a).length) :: X)) 0 (aN a 0 + (((aE a).getD i ([], false, [])).2.2).length)) 7 (if t = [] then aN a 8 - (cur a).length else aN a 7)) 0 = aN a 0 + (((aE a).getD i ([], false, [])).2.2).length := rfl
          have f8 : aN (sN (sN (sF (tch a false) ((((aE a).getD i ([], false, [])).2.2, i + 1, (aO a).length) :: X)) 0 (aN a 0 + (((aE a).getD i ([], false, [])).2.2).length)) 7 (if t = [] then aN a 8 - (cur a).length else aN a 7)) 8 = aN a 8 := by
            show aN (tch a false) 8 = _; rw [tch_other.2.2.1]
          have f3 : aN (sN (sN (sF (tch a false) ((((aE a).getD i ([], false, [])).2.2, i + 1, (aO a).length) :: X)) 0 (aN a 0 + (((aE a).getD i ([], false, [])).2.2).length)) 7 (if t = [] then aN a 8 - (cur a).length else aN a 7)) 3 = aN a 3 := by
            show aN (tch a false) 3 = _; rw [tch_other.2.2.1]
          have fO : (aO (sN (sN (sF (tch a false) ((((aE a).getD i ([], false, [])).2.2, i + 1, (aO a).length) :: X)) 0 (aN a 0 + (((aE a).getD i ([], false, [])).2.2).length)) 7 (if t = [] then aN a 8 - (cur a).length else aN a 7))) = aO a := by
            show aO (tch a false) = _; rw [tch_other.2.2.2.2.2.2.2.2.2]
          have fL : (aL (sN (sN (sF (tch a false) ((((aE a).getD i ([], false, [])).2.2, i + 1, (aO a).length) :: X)) 0 (aN a 0 + (((aE a).getD i ([], false, [])).2.2).length)) 7 (if t = [] then aN a 8 - (cur a).length else aN a 7))).map (fun x => x.1) = (aL a).map (fun x => x.1) := tch_len.2
          have fB : aB (sN (sN (sF (tch a false) ((((aE a).getD i ([], false, [])).2.2, i + 1, (aO a).length) :: X)) 0 (aN a 0 + (((aE a).getD i ([], false, [])).2.2).length)) 7 (if t = [] then aN a 8 - (cur a).length else aN a 7)) = aB a := by
            show aB (tch a false) = _; rw [tch_other.2.2.2.2.2.2.2.1]
          have fA : aA (sN (sN (sF (tch a false) ((((aE a).getD i ([], false, [])).2.2, i + 1, (aO a).length) :: X)) 0 (aN a 0 + (((aE a).getD i ([], false, [])).2.2).length)) 7 (if t = [] then aN a 8 - (cur a).length else aN a 7)) = aA a := by
            show aA (tch a false) = _; rw [tch_other.2.2.2.2.2.1]
          unfold JC
          rw [f0, f8, f3, fO, rsv_eq fL fB fA (by show aD (tch a false) = aD a; rw [tch_other.2.2.2.2.1]), hrm2]
          omega
      have : w_Entities_enter L (i : Int) (ρ.1 6 3) (fun σ20 => (WJ (fun (s10 : Unit) (σ11 : IS) => Q σ11) (fun J8 => if (-1 : Int) = (-1) then J8 () σ20 else w_Tree_note L 2 (fun σ13 => w_Tree_addCharacter L (-1) (fun σ15 => J8 () σ15) σ13) σ20))) (pf ρ 1 13 z) := by
        unfold WJ
        dsimp only
        rw [show (fun σ20 => if (-1 : Int) = -1 then Q σ20 else w_Tree_note L 2 (fun σ13 => w_Tree_addCharacter L (-1) (fun σ15 => Q σ15) σ13) σ20) = (fun σ20 => Q σ20) from funext (fun x => by rw [if_pos rfl])]
        exact hw
      exact this
  · rw [hrf] at hja
    rw [mvo_eq_none.mp hja] at hid
    dsimp only at hid
    rw [if_neg (by rw [hτ.2]; decide)]
    exact hq.1 5 hid τ' (h.badj hτ).1
end JI6
