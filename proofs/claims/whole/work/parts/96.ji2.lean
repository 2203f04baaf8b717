/-! ===== items of the class: runs, sections ===== -/
section JI2
variable {L : Nat → Nat} {rm nd : Nat} {σ τ : IS} {a : AS} {Q : IS → Prop}
theorem tch_sF {X : List Frm} {b : Bool} : tch (sF a X) b = sF (tch a b) X := by
  unfold tch
  show (match aO a with
    | [] => sF a X
    | e :: _ => sL (sF a X) ((aL a).modify e (fun x => (x.1, x.2.1, x.2.2.1, x.2.2.2.1, x.2.2.2.2.1, true, x.2.2.2.2.2.2 || b)))) = sF (match aO a with
    | [] => a
    | e :: _ => sL a ((aL a).modify e (fun x => (x.1, x.2.1, x.2.2.1, x.2.2.2.1, x.2.2.2.2.1, true, x.2.2.2.2.2.2 || b)))) X
  cases aO a with
  | nil => rfl
  | cons e r => rfl
theorem tch_chr {l : List Int} {b : Bool} : tch (chr a l) b = chr (tch a b) l := by
  unfold tch chr
  show (match aO a with
    | [] => sS a (aS a ++ l.map (fun c => Sum.inl c))
    | e :: _ => sL (sS a (aS a ++ l.map (fun c => Sum.inl c))) ((aL a).modify e (fun x => (x.1, x.2.1, x.2.2.1, x.2.2.2.1, x.2.2.2.2.1, true, x.2.2.2.2.2.2 || b)))) = _
  cases aO a with
  | nil => rfl
  | cons e r => rfl
theorem tch_tch {b c : Bool} : tch (tch a b) c = tch a (b || c) := by
  cases hO : aO a with
  | nil =>
    have e1 : ∀ z, tch a z = a := fun z => by unfold tch; rw [hO]
    rw [e1, e1, e1]
  | cons e r =>
    have e1 : ∀ z, tch a z = sL a ((aL a).modify e (fun x => (x.1, x.2.1, x.2.2.1, x.2.2.2.1, x.2.2.2.2.1, true, x.2.2.2.2.2.2 || z))) := fun z => by unfold tch; rw [hO]
    rw [e1 b, e1 (b || c)]
    have hO2 : aO (sL a ((aL a).modify e (fun x => (x.1, x.2.1, x.2.2.1, x.2.2.2.1, x.2.2.2.2.1, true, x.2.2.2.2.2.2 || b)))) = e :: r := hO
    unfold tch
    rw [hO2]
    show sL a (((aL a).modify e (fun x => (x.1, x.2.1, x.2.2.1, x.2.2.2.1, x.2.2.2.2.1, true, x.2.2.2.2.2.2 || b))).modify e (fun x => (x.1, x.2.1, x.2.2.1, x.2.2.2.1, x.2.2.2.2.1, true, x.2.2.2.2.2.2 || c))) = _
    congr 1
    apply List.ext_getElem?
    intro i
    rw [List.getElem?_modify, List.getElem?_modify, List.getElem?_modify]
    by_cases c1 : e = i
    · subst c1
      cases (aL a)[e]? with
      | none => simp
      | some x => simp [Bool.or_assoc]
    · simp [c1]
theorem chr_chr {l m : List Int} : chr (chr a l) m = chr a (l ++ m) := by
  unfold chr
  show sS a ((aS a ++ l.map (fun c => Sum.inl c)) ++ m.map (fun c => Sum.inl c)) = _
  rw [List.map_append, List.append_assoc]
theorem och_tch {b : Bool} : och (aL (tch a b)) (aO (tch a b)) ↔ och (aL a) (aO a) := by
  rw [tch_other.2.2.2.2.2.2.2.2.2]
  cases hO : aO a with
  | nil => exact Iff.rfl
  | cons e r =>
    rw [tch_L hO]
    generalize hf : (fun x : Elm => (x.1, x.2.1, x.2.2.1, x.2.2.2.1, x.2.2.2.2.1, true, x.2.2.2.2.2.2 || b)) = f
    have hf1 : ∀ x : Elm, (f x).2.1 = x.2.1 := fun x => by rw [← hf]
    have hg : ∀ i, (((aL a).modify e f).getD i elD).2.1 = ((aL a).getD i elD).2.1 := by
      intro i
      rw [List.getD_eq_getElem?_getD, List.getD_eq_getElem?_getD, List.getElem?_modify]
      cases (aL a)[i]? with
      | none => simp
      | some x =>
        by_cases c : e = i
        · simp [c, hf1]
        · simp [c]
    have key : ∀ os, och ((aL a).modify e f) os ↔ och (aL a) os := by
      intro os
      induction os with
      | nil => exact Iff.rfl
      | cons i r ih =>
        show (i < ((aL a).modify e f).length ∧ (((aL a).modify e f).getD i elD).2.1 = opn r ∧ (∀ x ∈ r, x < i) ∧ och ((aL a).modify e f) r) ↔ (i < (aL a).length ∧ ((aL a).getD i elD).2.1 = opn r ∧ (∀ x ∈ r, x < i) ∧ och (aL a) r)
        rw [List.length_modify, hg, ih]
    exact key (e :: r)
theorem tch_len {b : Bool} : (aL (tch a b)).length = (aL a).length ∧ (aL (tch a b)).map (fun x => x.1) = (aL a).map (fun x => x.1) := by
  cases hO : aO a with
  | nil =>
    have e : tch a b = a := by unfold tch; rw [hO]
    rw [e]
    exact ⟨rfl, rfl⟩
  | cons e r =>
    rw [tch_L hO]
    refine ⟨List.length_modify .., ?_⟩
    apply List.ext_getElem?
    intro i
    rw [List.getElem?_map, List.getElem?_map, List.getElem?_modify]
    cases (aL a)[i]? with
    | none => simp
    | some x =>
      by_cases c : e = i
      · simp [c]
      · simp [c]
theorem evl_chr {l : List Int} : evl (l.map (fun c => (Sum.inl c : Evt))) = l.length := by
  induction l with
  | nil => rfl
  | cons c r ih => show evl (r.map (fun c => (Sum.inl c : Evt))) + 1 = r.length + 1; rw [ih]
/-- the same room for a state that has as much in its store -/
theorem JC.same {a' : AS} (h : JC L σ a) (hw : jw τ = jw σ) (ht : jtp τ = jtp σ) (hb : τ.1 1 2 = σ.1 1 2) (hl : τ.1 4 16 = σ.1 4 16) (hN0 : aN a' 0 = aN a 0) (hN8 : aN a' 8 = aN a 8) (hr : rem a' = rem a) (hL : (aL a').map (fun x => x.1) = (aL a).map (fun x => x.1)) (hB : aB a' = aB a) (hA : aA a' = aA a) (hO : (aO a').length = (aO a).length) (hD : aD a' = aD a) (hs : τ.1 1 16 = σ.1 1 16) (hN3 : aN a 3 ≤ aN a' 3) : JC L τ a' := by
  unfold JC at h ⊢
  rw [hw, ht, hb, hl, hN0, hN8, hr, rsv_eq hL hB hA hD, hO, hs]
  omega
theorem RJ.bad5 {p : Nat} (h : RJ L rm nd σ a) : JBd L rm nd (pf (pf σ 2 2 (p : Int)) 2 4 5) 5 (σ.1 2 5) := by
  have hZ := h.1.out (σ' := pf (pf σ 2 2 (p : Int)) 2 4 5) (fun o k hk => by rw [pf_1, if_neg (by omega), pf_1, if_neg (by omega)]) (fun _ _ => rfl)
  refine ⟨hZ.1, pf_eq, by decide, by rw [pf_nk (by decide), pf_nk (by decide)], fun r hr w h1 h2 => h.zer r hr w ?_ h2⟩
  have : jw (pf (pf σ 2 2 (p : Int)) 2 4 5) = jw σ := by unfold jw; rw [pf_no (by decide), pf_no (by decide)]
  omega
set_option maxHeartbeats 1000000 in
theorem jI_run (hln : JLn L rm nd) (h : RJ L rm nd σ a) (hG : GA rm nd a) (hC : JC L σ a) (hq : JO L rm nd σ Q (iRun a)) : w_Content_readRun L Q σ := by
  obtain ⟨p, g, t, hF, hp, hS, hT, htp, hj⟩ := h.at hln
  have hts := h.ts hln hG
  obtain ⟨gO, -, ⟨r1, r2, r3, r4⟩, ⟨c1, c2, c3, c4, c5, c6⟩, ⟨b1, b2⟩, -, ho, -⟩ := hG
  have hrm := hln.2.1
  have hjl := h.1.1.jtp_le
  have h9 : L 101 < 1000000 := hln.1.2.2.2.2.2.2.2
  have hremc : (cur a).length ≤ rem a := by
    unfold rem
    rw [hF]
    simp only [List.map_cons, List.sum_cons]
    omega
  have hsl := sk_le (p := isRn) (T := gd (cur a)) (Nat.zero_le (cur a).length)
  have hsk : sk isRn (σ.2 101) (p + (cur a).length) p = p + sk isRn (gd (cur a)) (cur a).length 0 := by
    have := sh_sk hT (p := isRn) 0
    rw [show p + 0 = p by omega] at this
    exact this
  generalize hk : sk isRn (gd (cur a)) (cur a).length 0 = k at *
  have hHB : HB (σ.2 101) p (p + k) ↔ (sek (gd (cur a)) k [93, 93, 62] 0).isSome = true := by
    rw [sek_HB]
    constructor
    · rintro ⟨j, h1, h2, h3, h4, h5⟩
      have e0 := hT (j - p) (by omega)
      have e1 := hT (j - p + 1) (by omega)
      have e2 := hT (j - p + 2) (by omega)
      rw [show p + (j - p) = j by omega] at e0
      rw [show p + (j - p + 1) = j + 1 by omega] at e1
      rw [show p + (j - p + 2) = j + 2 by omega] at e2
      exact ⟨j - p, by omega, by omega, by rw [← e0]; exact h3, by rw [← e1]; exact h4, by rw [← e2]; exact h5⟩
    · rintro ⟨j, h1, h2, h3, h4, h5⟩
      exact ⟨p + j, by omega, by omega, by rw [hT j (by omega)]; exact h3, by rw [show p + j + 1 = p + (j + 1) by omega, hT (j + 1) (by omega)]; exact h4, by rw [show p + j + 2 = p + (j + 2) by omega, hT (j + 2) (by omega)]; exact h5⟩
  have hid : iRun a = if (sek (gd (cur a)) (sk isRn (gd (cur a)) (cur a).length 0) [93, 93, 62] 0).isSome = true then .inl 5
      else .inr (adv (chr (tch a ((sl (gd (cur a)) 0 (sk isRn (gd (cur a)) (cur a).length 0)).any (fun c => !isSp c))) (sl (gd (cur a)) 0 (sk isRn (gd (cur a)) (cur a).length 0))) (sk isRn (gd (cur a)) (cur a).length 0)) := rfl
  rw [hk] at hid
  unfold w_Content_readRun
  refine sp_Reader_readRun hS (by omega) hp (fun hno => ?_) (fun hb => ?_)
  · rw [hsk] at hno ⊢
    rw [if_neg (fun z => hno (hHB.mpr z))] at hid
    have hτ2 : (pf σ 2 2 ((p + k : Nat) : Int)).1 2 2 = ((p + k : Nat) : Int) := pf_eq
    obtain ⟨hR, hg1⟩ := h.go (τ := pf σ 2 2 ((p + k : Nat) : Int)) hln (show k ≤ (cur a).length by omega) (fun o j h1 h2 => by rw [pf_1, if_neg (by omega)]) rfl (by rw [pf_eq, hp]; omega) (h.1.2.2.2.2.2.1.low (by decide))
    rw [adv_of hF] at hR
    generalize hX : ((cur a).drop k, g) :: t = X at *
    have hoX : och (aL (sF a X)) (aO (sF a X)) := ho
    refine sp_note hln hR hoX (show (aL a).length ≤ nd by omega) (Or.inl ⟨rfl, rfl⟩) (fun ρ0 hR0 hf0 hr0 => ?_)
    rw [hp]
    have hll : (sl (gd (cur a)) 0 k).length = k := sl_ln
    generalize hl : sl (gd (cur a)) 0 k = l at *
    have hlg : ∀ i, i < k → l.take (i + 1) = l.take i ++ [gd (cur a) i] := by
      intro i hi
      rw [List.take_succ, ← hl, sl_get hi, show 0 + i = i by omega]
      rfl
    refine WL_ind (fun s ρ => ∃ i : Nat, s = ((p + i : Nat) : Int) ∧ i ≤ k ∧ RJ L rm nd ρ (chr (tch (sF a X) ((l.take i).any (fun c => !isSp c))) (l.take i)) ∧ (∀ o j, o ≠ 6 → ρ.1 o j = (pf σ 2 2 ((p + k : Nat) : Int)).1 o j) ∧ ρ.2 101 = σ.2 101) (fun s _ => (((p + k : Nat) : Int) - s).toNat) ?_ _ ρ0 ⟨0, by simp, by omega, ?_, fun o j _ => hf0 o j, by rw [hr0 101 (by decide)]; rfl⟩
    · rintro s ρ ⟨i, rfl, hik, hRi, hfi, hri⟩ K hI
      try dsimp only
      have h22 : ρ.1 2 2 = ((p + k : Nat) : Int) := by rw [hfi 2 2 (by decide), pf_eq]
      rw [h22]
      by_cases cc : ((p + i : Nat) : Int) < ((p + k : Nat) : Int)
      · rw [if_pos cc, show Int.toNat ((p + i : Nat) : Int) = p + i by omega, hri, hT i (by omega)]
        refine ⟨⟨by omega, by omega⟩, sp_Reader_isSpace ?_⟩
        have hci : 0 ≤ gd (cur a) i := by
          have := h.1.2.1 (p + i) (by omega)
          rw [hT i (by omega)] at this
          exact this.1
        have hoi : ∀ b, och (aL (chr (tch (sF a X) b) (l.take i))) (aO (chr (tch (sF a X) b) (l.take i))) := fun b => (och_tch (a := sF a X)).mpr hoX
        have hni : ∀ b, (aL (chr (tch (sF a X) b) (l.take i))).length ≤ nd := fun b => by
          show (aL (tch (sF a X) b)).length ≤ nd
          rw [tch_len.1]
          show (aL a).length ≤ nd
          omega
        have hSi : ∀ b, aS (chr (tch (sF a X) b) (l.take i)) = aS a ++ (l.take i).map (fun c => Sum.inl c) := fun b => by
          show aS (tch (sF a X) b) ++ _ = _
          rw [tch_other.2.2.2.2.2.2.2.2.1]
          rfl
        have hli : (l.take i).length = i := by rw [List.length_take, hll]; omega
        refine WJ_of (fun _ ρ1 => RJ L rm nd ρ1 (chr (tch (sF a X) ((l.take (i + 1)).any (fun c => !isSp c))) (l.take i)) ∧ (∀ o j, o ≠ 6 → ρ1.1 o j = (pf σ 2 2 ((p + k : Nat) : Int)).1 o j) ∧ ρ1.2 101 = σ.2 101) (fun J hJ => ?_) ?_
        · rw [if_b1]
          rw [hlg i (by omega), List.any_append] at hJ
          by_cases csp : isSp (gd (cur a) i) = true
          · rw [if_pos csp]
            have : [gd (cur a) i].any (fun c => !isSp c) = false := by simp [csp]
            rw [this, Bool.or_false] at hJ
            exact hJ _ _ ⟨hRi, hfi, hri⟩
          · rw [if_neg csp]
            have : [gd (cur a) i].any (fun c => !isSp c) = true := by simp [csp]
            rw [this] at hJ
            refine sp_note hln hRi (hoi _) (hni _) (Or.inr ⟨Or.inl rfl, rfl⟩) (fun ρ1 hR1 hf1 hr1 => hJ _ _ ⟨?_, fun o j ho' => by rw [hf1]; exact hfi o j ho', by rw [hr1 101 (by decide)]; exact hri⟩)
            rw [tch_chr, tch_tch] at hR1
            exact hR1
        · rintro _ ρ1 ⟨hR1, hf1, hr1⟩
          refine sp_addCharacter hln hR1 (by rw [hSi, evl_app, evl_chr, hli]; omega) hci (ltr_le _) (fun ρ2 hR2 hf2 hr2 => ⟨⟨by omega, by omega⟩, hI _ _ ⟨i + 1, by omega, by omega, ?_, fun o j ho' => by rw [hf2 o j ho']; exact hf1 o j ho', by rw [hr2 101 (by decide)]; exact hr1⟩ (by omega)⟩)
          rw [chr_chr, ← hlg i (by omega)] at hR2
          exact hR2
      · rw [if_neg cc]
        have eik : i = k := by omega
        subst eik
        have hlt : l.take i = l := by rw [List.take_of_length_le (by omega)]
        rw [hlt] at hRi
        have hfin : adv (chr (tch a (l.any (fun c => !isSp c))) l) i = chr (tch (sF a X) (l.any (fun c => !isSp c))) l := by
          have hF2 : aF (chr (tch a (l.any (fun c => !isSp c))) l) = (cur a, g) :: t := by
            show aF (tch a (l.any (fun c => !isSp c))) = _
            rw [tch_other.1]; exact hF
          rw [adv_of hF2, hX, tch_sF]
          rfl
        rw [hfin] at hid
        have hst : jw ρ = jw σ ∧ jtp ρ = jtp σ ∧ ρ.1 1 2 = σ.1 1 2 ∧ ρ.1 4 16 = σ.1 4 16 ∧ ρ.1 2 5 = σ.1 2 5 := by
          unfold jw jtp
          rw [hfi 1 14 (by decide), hfi 1 3 (by decide), hfi 1 2 (by decide), hfi 4 16 (by decide), hfi 2 5 (by decide), pf_no (by decide), pf_no (by decide), pf_no (by decide), pf_no (by decide), pf_nk (by decide)]
          exact ⟨rfl, rfl, rfl, rfl, rfl⟩
        refine hq.2 _ hid ρ hRi ?_ hst.2.2.2.2
        have hc1 := hC.ad (τ := ρ) (show i ≤ (cur a).length by omega) hst.1 hst.2.1 hst.2.2.1 hst.2.2.2.1 (by rw [hfi 1 16 (by decide), pf_no (by decide)])
        rw [adv_of hF, hX] at hc1
        refine hc1.same rfl rfl rfl rfl ?_ ?_ ?_ ?_ ?_ ?_ ?_ ?_ rfl (Nat.le_of_eq (show aN (sF a X) 3 = aN (tch (sF a X) _) 3 by rw [tch_other.2.2.1]))
        · show aN (tch (sF a X) _) 0 = _; rw [tch_other.2.2.1]
        · show aN (tch (sF a X) _) 8 = _; rw [tch_other.2.2.1]
        · unfold rem
          show ((aF (tch (sF a X) _)).map _).sum = _
          rw [tch_other.1]
        · exact tch_len.2
        · show aB (tch (sF a X) _) = _; rw [tch_other.2.2.2.2.2.2.2.1]
        · show aA (tch (sF a X) _) = _; rw [tch_other.2.2.2.2.2.1]
        · show (aO (tch (sF a X) _)).length = _; rw [tch_other.2.2.2.2.2.2.2.2.2]
        · show aD (tch (sF a X) _) = _; rw [tch_other.2.2.2.2.1]
    · have e0 : chr (tch (sF a X) ((l.take 0).any (fun c => !isSp c))) (l.take 0) = tch (sF a X) false := by
        rw [List.take_zero]
        unfold chr
        show sS (tch (sF a X) false) (aS (tch (sF a X) false) ++ []) = _
        rw [List.append_nil]
        rfl
      rw [e0]
      exact hR0
  · rw [hsk] at hb ⊢
    rw [if_pos (hHB.mp hb)] at hid
    have hB := h.bad5 (p := p + k)
    have hts' : JTs L nd 100000 (pf (pf σ 2 2 ((p + k : Nat) : Int)) 2 4 5) := by
      unfold JTs
      rw [pf_no (by decide), pf_no (by decide), pf_no (by decide), pf_no (by decide), pf_no (by decide), pf_no (by decide), pf_no (by decide), pf_no (by decide)]
      exact hts
    refine sp_note_w hln hB hts' (fun ρ0 hB0 ht0 hf0 hr0 => ?_)
    rw [hp]
    refine WL_ind (fun s ρ => ∃ i : Nat, s = ((p + i : Nat) : Int) ∧ i ≤ k ∧ JBd L rm nd ρ 5 (σ.1 2 5) ∧ JTs L nd (100000 + i) ρ ∧ ρ.1 2 2 = ((p + k : Nat) : Int)) (fun s _ => (((p + k : Nat) : Int) - s).toNat) ?_ _ ρ0 ⟨0, by simp, by omega, hB0, ht0, by rw [hf0, pf_nk (by decide), pf_eq]⟩
    rintro s ρ ⟨i, rfl, hik, hBi, hti, h22⟩ K hI
    try dsimp only
    rw [h22]
    by_cases cc : ((p + i : Nat) : Int) < ((p + k : Nat) : Int)
    · rw [if_pos cc]
      refine ⟨⟨by omega, by omega⟩, sp_Reader_isSpace ?_⟩
      refine WJ_of (fun _ ρ1 => JBd L rm nd ρ1 5 (σ.1 2 5) ∧ JTs L nd (100000 + i) ρ1 ∧ ρ1.1 2 2 = ((p + k : Nat) : Int)) (fun J hJ => ?_) ?_
      · split
        · exact sp_note_w hln hBi hti (fun ρ1 h1 h2 h3 _ => hJ _ _ ⟨h1, h2, by rw [h3]; exact h22⟩)
        · exact hJ _ _ ⟨hBi, hti, h22⟩
      · rintro _ ρ1 ⟨h1, h2, h3⟩
        exact sp_chr_w hln h1 h2 (by omega) (fun ρ2 g1 g2 g3 _ => ⟨⟨by omega, by omega⟩, hI _ _ ⟨i + 1, by omega, by omega, g1, g2, by rw [g3 2 2 (by decide)]; exact h3⟩ (by omega)⟩)
    · rw [if_neg cc]
      exact hq.1 5 hid ρ hBi
end JI2
