/-! ===== the reference: the end of an element ===== -/
section Kce
variable {L : Nat → Nat} {rm nd o : Nat} {σ τ : IS} {g g' : KG} {a a' A : AS} {Q : IS → Prop} {R : Int → IS → Prop} {bk : List Str} {ed : List EDc} {x : EDc}
theorem edf_lt2 {s : Str} {i : Nat} (h : edf ed s = some i) : i < ed.length := edf_lt h
/-- the innermost element is left -/
theorem KOp.cls {fr : List Frm} {el : List Elm} {e : Nat} {r : List Nat} (h : KOp σ bk fr el (e :: r)) (h64 : τ.1 16 64 = (r.length : Int)) (h66 : τ.1 16 66 = σ.2 170 r.length) (h181 : τ.2 181 = σ.2 181) (hr : ∀ q, 166 ≤ q → q ≤ 171 → τ.2 q = σ.2 q) : KOp τ bk fr el r := by
  obtain ⟨h1, h2, bs, b1', b2, b3⟩ := h
  rw [List.length_cons] at b1' b2 b3 h2
  have hop : ∀ k, k < r.length → opK (e :: r) k = opK r k := fun k hk => opK_cons hk
  refine ⟨h64, fun k hk => ?_, bs, ?_, ?_, fun k hk => ?_⟩
  · rw [hr 166 (by omega) (by omega), hr 167 (by omega) (by omega), hr 168 (by omega) (by omega), hr 169 (by omega) (by omega), h181, ← hop k hk]
    exact h2 k (by omega)
  · rw [h66]; exact (b3 r.length (by omega)).1
  · have := (b3 r.length (by omega)).2.1
    omega
  · rw [hr 170 (by omega) (by omega), hr 171 (by omega) (by omega), ← hop k hk]
    exact b3 k (by omega)
set_option maxHeartbeats 4000000 in
theorem sp_K_close (hL : KLn L o rm nd) (hG : ∀ x ∈ ed, GDx x ∧ x.2.1 ≤ 3) (hl : ed.length ≤ 8300) (hnn : nNd ed ≤ 50000) : KCl L rm nd o ed := by
  intro A σ g Q h hD hN4 hne hoc hln hpar hnl hev hV hq
  have ho := hL.2.1
  have r1 := rf_1 ho
  have r3 := rf_3 ho (k := 3) (by omega) (by omega)
  obtain ⟨d1, d2⟩ := h.dy ho
  have d2o : dyD (o : Int) := by rw [← d1]; exact d2
  have l16 := hL.2.2.2.2.1
  have l166 := l16 166 (by omega) (by omega)
  have l170 := l16 170 (by omega) (by omega)
  have l3 := hL.2.2.2.2.2.2.2.2.2.2.2.2.2.2.2.1 3 (by omega) (by omega)
  have l15 : L (rfo o 15) = 120000 := hL.2.2.2.2.2.2.2.2.2.2.2.2.2.2.2.2.2.2.1
  have l18 : L (rfo o 18) = 23 := hL.2.2.2.2.2.2.2.2.2.2.2.2.2.2.2.2.2.2.2.1
  have hn := h.1.2.1
  have hEl : KEl o σ (gB g) (aL A) := h.2.2.2.2.2.2.2.2.1
  have hOp : KOp σ (gB g) (aF A) (aL A) (aO A) := h.2.2.2.2.2.2.2.2.2.1
  have hSt : KSt o σ (gB g) (gP g) (aS A) (aL A).length := h.2.2.2.2.2.2.2.2.2.2.2.1
  have hEd : KEd σ (gB g) ed := by rw [← hD]; exact h.2.2.2.2.2.1
  have h47 : σ.1 16 47 ≤ 50000 := by rw [h.pl.2.2.1, hD]; omega
  have h58 : σ.1 16 58 ≤ 50000 := by rw [h.pl.2.2.2]; omega
  have hfl := fE_len _ ed rfl
  obtain ⟨e, r, hO⟩ : ∃ e r, aO A = e :: r := by
    cases hz : aO A with
    | nil => exact absurd hz hne
    | cons e r => exact ⟨e, r, rfl⟩
  rw [hO] at hOp hoc
  have hlO := och_len hoc (och_lt hoc)
  rw [List.length_cons] at hlO
  have hel : e < (aL A).length := hoc.1
  have h64 : σ.1 16 64 = ((r.length + 1 : Nat) : Int) := hOp.1
  obtain ⟨-, o2, bs, b66, bsl, b3⟩ := id hOp
  rw [List.length_cons] at b66 bsl b3 o2
  have o2' := o2 r.length (by omega)
  have b3' := b3 r.length (by omega)
  rw [opK_top] at o2' b3'
  obtain ⟨t1, t2, t3, -⟩ := o2'
  obtain ⟨u1, u2, u3⟩ := b3'
  obtain ⟨v1, v2, v3, v4⟩ := hEl.2 e hel
  have hcl : clV A = fun k => match edf ed ((aL A).getD e elD).1 with
      | none => if k = 5 then 1 else 0
      | some i => if k = 6 ∧ fit ed (aL A) (ed.getD i ([], 0, [])) e = false then 1 else 0 := by
    funext k
    unfold clV
    rw [hO, hD] <;> rfl
  unfold w_KReader_close
  rw [h64, d1, show Int.toNat (o : Int) = o from rfl, show ((r.length + 1 : Nat) : Int) - 1 = (r.length : Int) by omega, show Int.toNat (r.length : Int) = r.length from rfl, t1, show Int.toNat (e : Int) = e from rfl]
  refine ⟨⟨by omega, by omega⟩, d2o, ⟨by omega, by omega⟩, ⟨by omega, by omega⟩, ?_⟩
  have F1 : ∀ pp kk, ¬ (pp = 16 ∧ kk = 64) → (pf σ 16 64 (r.length : Int)).1 pp kk = σ.1 pp kk := fun pp kk z => by rw [pf_1, if_neg z]
  have F1' : (pf σ 16 64 (r.length : Int)).1 16 64 = (r.length : Int) := pf_eq
  have R1 : (pf σ 16 64 (r.length : Int)).2 = σ.2 := rfl
  have hEd1 : KEd (pf σ 16 64 (r.length : Int)) (gB g) ed := hEd.dep kle.refl (F1 16 40 (by omega)) (by rw [F1 16 47 (by omega)]; exact Int.le_refl _) (by rw [F1 16 58 (by omega)]; exact Int.le_refl _) (fun _ _ _ => by rw [R1]) (fun _ _ _ _ _ => by rw [R1]) (fun _ _ => by rw [R1]) (Or.inl (F1 16 47 (by omega)))
  generalize pf σ 16 64 (r.length : Int) = σ1 at *
  refine sp_K_contentOf (s := ((aL A).getD e elD).1) (ed := ed) hL hn hEd1 (by omega) v1.f ?_
  try dsimp only
  rw [F1 16 2 (by omega), d1, show Int.toNat (o : Int) = o from rfl]
  obtain ⟨fe1, fe2⟩ := fE_edf (s := ((aL A).getD e elD).1) ed
  have hv5 : σ1.2 (rfo o 18) 5 = (gV g 5 : Int) := by rw [R1]; exact h.1.2.2.2.2.2 5 (by omega)
  have hv6 : σ1.2 (rfo o 18) 6 = (gV g 6 : Int) := by rw [R1]; exact h.1.2.2.2.2.2 6 (by omega)
  rw [show Int.toNat (5 : Int) = 5 from rfl, show Int.toNat (6 : Int) = 6 from rfl, hv5]
  generalize hfi : fEi ed ((aL A).getD e elD).1 = fi at *
  have hnone : fi = none → edf ed ((aL A).getD e elD).1 = none := fun hz => by
    rw [hz] at fe1
    cases hh : edf ed ((aL A).getD e elD).1 with
    | none => rfl
    | some z => rw [hh] at fe1; cases fe1
  have hsome : ∀ z, fi = some z → ∃ d, edf ed ((aL A).getD e elD).1 = some d := fun z hz => by
    rw [hz] at fe1
    cases hh : edf ed ((aL A).getD e elD).1 with
    | none => rw [hh] at fe1; cases fe1
    | some d => exact ⟨d, rfl⟩
  have hcn : ∀ k, edf ed ((aL A).getD e elD).1 = none → clV A k = if k = 5 then 1 else 0 := fun k hz => by
    rw [hcl]
    dsimp only
    rw [hz]
  have hcs : ∀ k d, edf ed ((aL A).getD e elD).1 = some d → clV A k = if k = 6 ∧ fit ed (aL A) (ed.getD d ([], 0, [])) e = false then 1 else 0 := fun k d hz => by
    rw [hcl]
    dsimp only
    rw [hz]
  have hneg : (if enc fi < 0 then (1 : Int) else 0) = ((clV A 5 : Nat) : Int) := by
    cases fi with
    | none =>
      rw [if_pos (by decide), hcn 5 (hnone rfl), if_pos rfl]
      rfl
    | some z =>
      have ez : enc (some z) = (z : Int) := rfl
      obtain ⟨d, hd⟩ := hsome z rfl
      rw [ez, if_neg (by omega), hcs 5 d hd, if_neg (fun y => absurd y.1 (by decide))]
      rfl
  rw [hneg]
  have hc5 : clV A 5 ≤ 1 := by
    rw [hcl]
    dsimp only
    split
    · split <;> omega
    · split <;> omega
  refine ⟨d2o, ⟨by omega, by omega⟩, ⟨by omega, by omega⟩, ⟨by omega, by omega⟩, ⟨by omega, by omega⟩, ?_⟩
  have F2 : ∀ pp kk, ¬ (pp = 16 ∧ kk = 64) → (pr σ1 (rfo o 18) 5 ((gV g 5 : Int) + (clV A 5 : Int))).1 pp kk = σ.1 pp kk := fun pp kk z => by rw [pr_1]; exact F1 pp kk z
  have F2' : (pr σ1 (rfo o 18) 5 ((gV g 5 : Int) + (clV A 5 : Int))).1 16 64 = (r.length : Int) := F1'
  have R2 : ∀ q, q ≠ rfo o 18 → (pr σ1 (rfo o 18) 5 ((gV g 5 : Int) + (clV A 5 : Int))).2 q = σ.2 q := fun q z => by rw [prn z, R1]
  have R2' : ∀ j, (pr σ1 (rfo o 18) 5 ((gV g 5 : Int) + (clV A 5 : Int))).2 (rfo o 18) j = if j = 5 then (gV g 5 : Int) + (clV A 5 : Int) else σ.2 (rfo o 18) j := fun j => by rw [prr, R1]
  generalize pr σ1 (rfo o 18) 5 ((gV g 5 : Int) + (clV A 5 : Int)) = σ2 at *
  have hEd2 : KEd σ2 (gB g) ed := hEd.dep kle.refl (F2 16 40 (by omega)) (by rw [F2 16 47 (by omega)]; exact Int.le_refl _) (by rw [F2 16 58 (by omega)]; exact Int.le_refl _) (fun q _ _ => R2 q (by omega)) (fun q _ _ _ _ => by rw [R2 q (by omega)]) (fun _ _ => by rw [R2 207 (by omega)]) (Or.inl (F2 16 47 (by omega)))
  have hv6' : σ2.2 (rfo o 18) 6 = (gV g 6 : Int) := by rw [R2', if_neg (by decide)]; exact h.1.2.2.2.2.2 6 (by omega)
  rw [hv6']
  refine WJ_of (fun (s7 : Int) ρ => TXk σ2 ρ ∧ s7 = ((clV A 6 : Nat) : Int)) (fun J hJ => ?_) ?_
  · refine WJ_dir ?_
    cases fi with
    | none =>
      rw [if_pos (by decide)]
      refine hJ 0 _ ⟨TXk.refl, ?_⟩
      rw [hcn 6 (hnone rfl), if_neg (by decide)]
      rfl
    | some z =>
      have ez : enc (some z) = (z : Int) := rfl
      rw [ez, if_neg (by omega)]
      obtain ⟨d, hh⟩ := hsome z rfl
      · have hxe := fe2 z d rfl hh
        have hzl : z < (fE ed).length := edf_lt hfi
        have h6e : ((clV A 6 : Nat) : Int) = if fit ed (aL A) (ed.getD d ([], 0, [])) e = false then 1 else 0 := by
          rw [hcs 6 d hh]
          by_cases cf : fit ed (aL A) (ed.getD d ([], 0, [])) e = false
          · rw [if_pos ⟨rfl, cf⟩, if_pos cf]; rfl
          · rw [if_neg (fun y => cf y.2), if_neg cf]; rfl
        have hbb : bs r.length + (chd (aL A) e).length ≤ 16384 := by omega
        refine sp_K_isFit (i := z) (fr := bs r.length) (n64 := r.length) (tc := ((aL A).getD e elD).2.2.2.2.2.1) (sp := ((aL A).getD e elD).2.2.2.2.2.2) (chs := chd (aL A) e) hL hn hEd2 hG (by omega) (by rw [F2 16 47 (by omega)]; exact h47) (by rw [F2 16 58 (by omega)]; exact h58) hzl rfl F2' (by omega) (by rw [R2 168 (by omega)]; exact t2) (by rw [R2 169 (by omega)]; exact t3) (by rw [R2 170 (by omega)]; exact u1) (by rw [F2 16 66 (by omega), b66]; omega) hbb (fun j hj => by rw [R2 171 (by omega)]; exact u3 j hj) (fun τ hX => ?_)
        rw [hxe, ← fit_c hpar]
        rw [h6e] at hJ
        cases hfb : fit ed (aL A) (ed.getD d ([], 0, [])) e with
        | true =>
          rw [hfb, if_neg (by decide)] at hJ
          rw [if_neg (by decide)]
          exact hJ 0 τ ⟨hX, rfl⟩
        | false =>
          rw [hfb, if_pos rfl] at hJ
          rw [if_pos (by decide)]
          exact hJ 1 τ ⟨hX, rfl⟩
  rintro s7 ρ ⟨hX, rfl⟩
  try dsimp only
  have hc6 : clV A 6 ≤ 1 := by
    rw [hcl]
    dsimp only
    split
    · split <;> omega
    · split <;> omega
  have F3 : ∀ pp kk, ¬ (pp = 16 ∧ (kk = 64 ∨ kk = 73)) → ρ.1 pp kk = σ.1 pp kk := fun pp kk z => by rw [hX.1 pp kk (by omega), F2 pp kk (by omega)]
  have F3' : ρ.1 16 64 = (r.length : Int) := by rw [hX.1 16 64 (by omega)]; exact F2'
  have R3 : ∀ q, ¬ (172 ≤ q ∧ q ≤ 174) → q ≠ rfo o 18 → ρ.2 q = σ.2 q := fun q z1 z2 => by rw [hX.2 q z1, R2 q z2]
  have R3' : ∀ j, ρ.2 (rfo o 18) j = if j = 5 then (gV g 5 : Int) + (clV A 5 : Int) else σ.2 (rfo o 18) j := fun j => by rw [hX.2 _ (by omega)]; exact R2' j
  rw [F3', show Int.toNat (r.length : Int) = r.length from rfl, F3 16 2 (by omega), d1, show Int.toNat (o : Int) = o from rfl, prn (show (170 : Nat) ≠ rfo o 18 by omega), R3 170 (by omega) (by omega)]
  refine ⟨⟨by omega, by omega⟩, ⟨by omega, by omega⟩, ⟨by omega, by omega⟩, d2o, ?_⟩
  obtain ⟨G, -, -, gk3, -, ⟨-, gk5⟩, -⟩ := id hSt
  have hkel : kel G + 1 ≤ 120000 := by rw [gk5] at hev; exact hev
  have F4 : ∀ pp kk, ¬ (pp = 16 ∧ (kk = 64 ∨ kk = 73 ∨ kk = 66)) → (pf (pr ρ (rfo o 18) 6 ((gV g 6 : Int) + (clV A 6 : Int))) 16 66 (σ.2 170 r.length)).1 pp kk = σ.1 pp kk := fun pp kk z => by rw [pf_1, if_neg (by omega), pr_1, F3 pp kk (by omega)]
  have F4' : (pf (pr ρ (rfo o 18) 6 ((gV g 6 : Int) + (clV A 6 : Int))) 16 66 (σ.2 170 r.length)).1 16 64 = (r.length : Int) := by rw [pf_nk (by decide), pr_1]; exact F3'
  have F4'' : (pf (pr ρ (rfo o 18) 6 ((gV g 6 : Int) + (clV A 6 : Int))) 16 66 (σ.2 170 r.length)).1 16 66 = σ.2 170 r.length := pf_eq
  have R4 : ∀ q, ¬ (172 ≤ q ∧ q ≤ 174) → q ≠ rfo o 18 → (pf (pr ρ (rfo o 18) 6 ((gV g 6 : Int) + (clV A 6 : Int))) 16 66 (σ.2 170 r.length)).2 q = σ.2 q := fun q z1 z2 => by rw [pfr, prn z2, R3 q z1 z2]
  have R4' : ∀ j, (pf (pr ρ (rfo o 18) 6 ((gV g 6 : Int) + (clV A 6 : Int))) 16 66 (σ.2 170 r.length)).2 (rfo o 18) j = if j = 6 then (gV g 6 : Int) + (clV A 6 : Int) else if j = 5 then (gV g 5 : Int) + (clV A 5 : Int) else σ.2 (rfo o 18) j := fun j => by rw [pfr, prr, R3']
  generalize pf (pr ρ (rfo o 18) 6 ((gV g 6 : Int) + (clV A 6 : Int))) 16 66 (σ.2 170 r.length) = σ4 at *
  unfold w_KDoc_event
  rw [F4 o 16 (by omega), gk3, show Int.toNat (kel G : Int) = kel G from rfl]
  refine ⟨⟨by omega, by omega⟩, ⟨by omega, by omega⟩, ?_⟩
  have E1 : ∀ pp kk, ¬ (pp = 16 ∧ (kk = 64 ∨ kk = 73 ∨ kk = 66)) → ¬ (pp = o ∧ (kk = 16 ∨ kk = 17)) → (pf (pf (pr σ4 (rfo o 15) (kel G) 1) o 16 ((kel G : Int) + 1)) o 17 (-1)).1 pp kk = σ.1 pp kk := fun pp kk z1 z2 => by rw [pf_1, if_neg (by omega), pf_1, if_neg (by omega), pr_1, F4 pp kk z1]
  have E64 : (pf (pf (pr σ4 (rfo o 15) (kel G) 1) o 16 ((kel G : Int) + 1)) o 17 (-1)).1 16 64 = (r.length : Int) := by rw [pf_1, if_neg (by omega), pf_1, if_neg (by omega), pr_1]; exact F4'
  have E66 : (pf (pf (pr σ4 (rfo o 15) (kel G) 1) o 16 ((kel G : Int) + 1)) o 17 (-1)).1 16 66 = σ.2 170 r.length := by rw [pf_1, if_neg (by omega), pf_1, if_neg (by omega), pr_1]; exact F4''
  have E16 : (pf (pf (pr σ4 (rfo o 15) (kel G) 1) o 16 ((kel G : Int) + 1)) o 17 (-1)).1 o 16 = (kel G : Int) + 1 := by rw [pf_nk (by decide), pf_eq]
  have E17 : (pf (pf (pr σ4 (rfo o 15) (kel G) 1) o 16 ((kel G : Int) + 1)) o 17 (-1)).1 o 17 = -1 := pf_eq
  have ER : ∀ q, ¬ (172 ≤ q ∧ q ≤ 174) → q ≠ rfo o 18 → q ≠ rfo o 15 → (pf (pf (pr σ4 (rfo o 15) (kel G) 1) o 16 ((kel G : Int) + 1)) o 17 (-1)).2 q = σ.2 q := fun q z1 z2 z3 => by rw [pfr, pfr, prn z3, R4 q z1 z2]
  have E15 : ∀ j, (pf (pf (pr σ4 (rfo o 15) (kel G) 1) o 16 ((kel G : Int) + 1)) o 17 (-1)).2 (rfo o 15) j = if j = kel G then 1 else σ.2 (rfo o 15) j := fun j => by rw [pfr, pfr, prr, R4 (rfo o 15) (by omega) (by omega)]
  have E18 : ∀ j, (pf (pf (pr σ4 (rfo o 15) (kel G) 1) o 16 ((kel G : Int) + 1)) o 17 (-1)).2 (rfo o 18) j = if j = 6 then (gV g 6 : Int) + (clV A 6 : Int) else if j = 5 then (gV g 5 : Int) + (clV A 5 : Int) else σ.2 (rfo o 18) j := fun j => by rw [pfr, pfr, prn (by omega), R4']
  generalize pf (pf (pr σ4 (rfo o 15) (kel G) 1) o 16 ((kel G : Int) + 1)) o 17 (-1) = σ5 at *
  try dsimp only
  refine WJ_dir ?_
  rw [E64]
  -- the picture of the end, whatever the phase is
  have fin_ : ∀ (X : IS) (ph : Nat), ph = (if r = [] then 3 else 2) → (∀ pp kk, ¬ (pp = 16 ∧ kk = 19) → X.1 pp kk = σ5.1 pp kk) → X.1 16 19 = (ph : Int) → X.2 = σ5.2 → Q X := fun X ph hph XF X19 XR => by
    have hcls : cls A = sN (sO (sS A (aS A ++ [.inl (-1)])) r) 4 ph := by
      unfold cls
      rw [hO, hph]
    have FF : ∀ pp kk, ¬ (pp = 16 ∧ (kk = 64 ∨ kk = 73 ∨ kk = 66 ∨ kk = 19)) → ¬ (pp = o ∧ (kk = 16 ∨ kk = 17)) → X.1 pp kk = σ.1 pp kk := fun pp kk z1 z2 => by rw [XF pp kk (by omega), E1 pp kk (by omega) z2]
    refine hq X (gB g, gC g, gP g, fun k => gV g k + clV A k) ?_ rfl rfl rfl (fun k => rfl) (FF 16 4 (by omega) (by omega)) (FF 16 15 (by omega) (by omega))
    rw [hcls]
    have hF : ∀ pp kk, ¬ ((pp = 16 ∧ (kk = 64 ∨ kk = 73 ∨ kk = 66 ∨ kk = 19)) ∨ (pp = o ∧ (kk = 16 ∨ kk = 17))) → X.1 pp kk = σ.1 pp kk := fun pp kk z => FF pp kk (fun y => z (Or.inl y)) (fun y => z (Or.inr y))
    have hR : ∀ q, ¬ ((172 ≤ q ∧ q ≤ 174) ∨ q = 221 + 14 * (o - 14) ∨ q = 220 + 14 * (o - 14)) → X.2 q = σ.2 q := fun q z => by rw [XR, ER q (by omega) (by omega) (by omega)]
    refine (RK.mk' ho h kle.refl cle.refl cle.refl ?_ (Or.inl ⟨fun k x y => hF 16 k (by omega), fun r x y => hR r (by omega), rfl⟩) (Or.inl ⟨hF 16 32 (by omega), fun r x y => hR r (by omega), rfl, rfl⟩) (Or.inr ?_) (Or.inl ⟨hF 16 20 (by omega), hF 16 24 (by omega), rfl⟩) (Or.inl ⟨hF 16 40 (by omega), hF 16 47 (by omega), hF 16 58 (by omega), fun r x => hR r (by omega), rfl⟩) (Or.inl ⟨hF 16 56 (by omega), hF 16 58 (by omega), fun r x y => hR r (by omega), rfl⟩) (Or.inl ⟨hF 16 34 (by omega), hR 187 (by omega), rfl⟩) (Or.inl ⟨hF o 7 (by omega), fun k x y => hR _ (by have := rf_3 ho x y; omega), rfl⟩) (Or.inr ?_) (Or.inl ⟨hF o 14 (by omega), fun k x y => hR _ (by have := rf_8 ho x y; omega), rfl, rfl⟩) (Or.inr ?_) (hF 16 3 (by omega)) (Or.inl ⟨hF 16 18 (by omega), hR 178 (by omega), rfl, rfl, rfl, hF 16 47 (by omega), hF 16 58 (by omega), rfl, rfl⟩))
    · obtain ⟨⟨z1, z2, z3, z4⟩, z5, ⟨z6, z7, z8, z9⟩, ⟨z10, z11⟩, z12, z13⟩ := h.1
      have eb : ∀ s, bstr X s = bstr σ s := fun s => by unfold bstr bst bln; rw [hR 212 (by omega), hR 213 (by omega), hR 214 (by omega)]
      refine ⟨⟨?_, by rw [hF 13 6 (by omega)]; exact z2, by rw [hF 13 1 (by omega)]; exact z3, fun i hi => by rw [eb]; exact z4 i hi⟩, z5, ⟨by rw [hF 16 6 (by omega)]; exact z6, z7, by rw [hR 176 (by omega)]; exact z8, z9⟩, ⟨by rw [hF o 2 (by omega)]; exact z10, by rw [hR (rfo o 1) (by omega)]; exact z11⟩, by rw [hF 16 2 (by omega), hF 16 0 (by omega), hF 16 1 (by omega)]; exact z12, fun k hk => ?_⟩
      · unfold BK at z1 ⊢
        rw [hF 13 1 (by omega), hF 13 6 (by omega), hR 211 (by omega), hR 213 (by omega), hR 214 (by omega), hR 215 (by omega)]
        simp only [eb]
        exact z1
      · show X.2 (rfo o 18) k = ((gV g k + clV A k : Nat) : Int)
        rw [XR, E18]
        by_cases k6 : k = 6
        · rw [if_pos k6, k6]; omega
        · rw [if_neg k6]
          by_cases k5 : k = 5
          · rw [if_pos k5, k5]; omega
          · have hc0 : clV A k = 0 := by
              rw [hcl]
              dsimp only
              split
              · exact if_neg k5
              · exact if_neg (fun y => k6 y.1)
            rw [if_neg k5, hc0]
            exact z13 k hk
    · obtain ⟨n1, n2, n3, n4, n5, n6, n7⟩ := h.2.2.2.1
      unfold KNu
      rw [hF 16 25 (by omega), hF 16 26 (by omega), hF 16 21 (by omega), hF 16 22 (by omega), hR (rfo o 19) (by omega)]
      exact ⟨n1, n2, n3, X19, n5, n6, n7⟩
    · show KOp X (gB g) (aF A) (aL A) r
      refine hOp.cls (by rw [XF 16 64 (by omega)]; exact E64) (by rw [XF 16 66 (by omega)]; exact E66) (hR 181 (by omega)) (fun q z1 z2 => hR q (by omega))
    · show KSt o X (gB g) (gP g) (aS A ++ [.inl (-1)]) (aL A).length
      have t17 : X.1 o 17 = -1 := by rw [XF o 17 (by omega)]; exact E17
      exact hSt.ev (τ := X) (b := false) (by rw [XF o 16 (by omega), E16, gk3]) t17 (hF o 20 (by omega)) (fun j => by
        rw [XR, E15, gk3]
        by_cases c : j = kel G
        · rw [if_pos c, if_pos (by omega), if_neg (by decide)]
        · rw [if_neg c, if_neg (by omega)])
  by_cases cr : r = []
  · rw [if_pos (by rw [cr]; rfl)]
    exact fin_ _ 3 (by rw [if_pos cr]) (fun pp kk z => by rw [pf_1, if_neg z]) pf_eq rfl
  · have hrp : 0 < r.length := List.length_pos_iff.mpr cr
    rw [if_neg (by omega)]
    have n4 : σ.1 16 19 = (aN A 4 : Int) := h.2.2.2.1.2.2.2.1
    exact fin_ σ5 2 (by rw [if_neg cr]) (fun _ _ _ => rfl) (by rw [E1 16 19 (by omega) (by omega), n4, hN4]) rfl
end Kce
