/-! ===== the class reads a whole text ===== -/
/-- a text begins with a head -/
def hasH (l : List Int) : Bool := mt (gd l) l.length 0 [60, 63, 120, 109, 108] && (decide (5 < l.length) && isSp (gd l 5))
/-- a text, read as a whole -/
def rdA (rm nd N : Nat) (wide : Bool) (a : AS) : (Nat × Nat) ⊕ AS := if hasH (cur a) = true then (match hdk (gd (cur a)) (cur a).length 0 with
    | none => .inl (5, 0)
    | some (st, en, k) => if encB (gd (cur a)) wide en = true then arn rm nd N (adv (sN a 5 st) k) else .inl (2, 0))
  else arn rm nd N a
section JRd
variable {L : Nat → Nat} {rm nd : Nat} {ρ σ τ : IS} {a : AS} {Q : IS → Prop}
theorem jp.k0 {e k p : Nat} (h : jp e k σ (some p) τ) : jp e 0 σ (some p) τ := h
theorem RJ.badk {e k : Nat} {x : Int} (h : RJ L rm nd σ a) (hj : jp e k (pf σ 3 15 x) none τ) : JBd L rm nd τ 5 (σ.1 2 5) := by
  obtain ⟨y, hj⟩ := hj
  have hZ := (h.1.out (σ' := pf σ 3 15 x) (fun o k hk => by rw [pf_1, if_neg (by omega)]) (fun _ _ => rfl)).1
  have hb := hj.1
  have hS0 := SI_pf (o := 1) (k := 13) (x := y) hZ.1 (by omega)
  have hZ0 : JZ L rm nd (pf (pf σ 3 15 x) 1 13 y) := hZ.dep hS0.1 hS0.2 hZ.2.1 (rng_of hZ.2.2.2.2.2.1 (fun i _ _ => pf_no (by decide))) (ag.refl.pf rfl)
  have hZ1 := hZ0.jb hb
  refine ⟨hZ1.1, hj.2, by decide, ?_, fun r hr w h1 h2 => ?_⟩
  · rw [hb.2.1 2 5 (by omega), pf_no (by decide), pf_no (by decide)]
  · rw [hb.1]
    have : jw τ = jw σ := by unfold jw; rw [hb.2.1 1 14 (by omega), pf_nk (by decide), pf_no (by decide)]
    exact h.zer r hr w (by omega) h2
theorem RJ.n5 {v : Nat} (hln : JLn L rm nd) (h : RJ L rm nd σ a) : RJ L rm nd (pf σ 3 15 (v : Int)) (sN a 5 v) := by
  have hA : ∀ (F : Nat → Nat → Bool) (R : Nat → Bool), F 3 15 = false → ag F R σ (pf σ 3 15 (v : Int)) := fun F R z => ag.refl.pf z
  obtain ⟨hZ, hg⟩ := h.1.out (σ' := pf σ 3 15 (v : Int)) (fun o k hk => by rw [pf_1, if_neg (by omega)]) (fun _ _ => rfl)
  refine h.mk' hln hZ hg (Or.inl ⟨hA _ _ rfl, rfl, rfl⟩) (Or.inl ⟨hA _ _ rfl, rfl, rfl⟩) (Or.inr ?_) (Or.inl ⟨hA _ _ rfl, rfl⟩) (Or.inl ⟨hA _ _ rfl, rfl⟩) (Or.inl ⟨hA _ _ rfl, rfl⟩) (Or.inl ⟨hA _ _ rfl, rfl⟩) (Or.inl ⟨hA _ _ rfl, rfl, rfl⟩) (Or.inl ⟨hA _ _ rfl, rfl⟩) (Or.inl ⟨hA _ _ rfl, rfl⟩) ⟨by rw [pf_no (by decide)]; exact h.2.2.2.2.2.2.2.2.2.2.2.1, by rw [pf_no (by decide)]; exact h.2.2.2.2.2.2.2.2.2.2.2.2⟩
  obtain ⟨n1, n2, n3, n4, n5, n6⟩ := h.2.2.2.1
  exact ⟨by rw [pf_nk (by decide)]; exact n1, by rw [pf_nk (by decide)]; exact n2, by rw [pf_no (by decide)]; exact n3, by rw [pf_eq]; rfl, by rw [pf_nk (by decide)]; exact n5, by rw [pf_no (by decide)]; exact n6⟩
theorem GI.n5 {v : Nat} (h : GI rm nd a) (hv : v ≤ 1) : GI rm nd (sN a 5 v) := by
  obtain ⟨⟨x1, x2, x3, x4, x5, ⟨y1, y2, y3, y4⟩, x7, x8, x9⟩, x10, x11⟩ := h
  exact ⟨⟨x1, x2, x3, x4, x5, ⟨y1, y2, hv, y4⟩, x7, x8, x9⟩, x10, x11⟩
/-- the loop of items -/
def wAll (L : Nat → Nat) (Q : IS → Prop) (σ : IS) : Prop := WL (fun (K7 : Int × Int → IS → Prop) (s9 : Int × Int) (σ10 : IS) => if s9.2 < 1000000 ∧ (¬ s9.1 = 0 ∧ ((σ10.1 2 4) = 0)) then WJ (fun (s13 : Unit) (σ14 : IS) => WJ (fun (s17 : Int) (σ18 : IS) => inR (s9.2 + 1) ∧ K7 (s17, (s9.2 + 1)) σ18) (fun J15 => if (σ14.1 2 2) < (σ14.1 2 3) then if (σ14.1 5 6) = 0 then WJ (fun (s24 : Unit) (σ25 : IS) => w_Content_readTag L 0 (fun σ26 => if (σ26.1 2 4) = 0 then w_Content_readTag L 1 (fun σ29 => J15 s9.1 σ29) (pf σ26 2 2 (σ25.1 2 2)) else J15 s9.1 σ26) σ25) (fun J22 => if (σ14.1 6 3) = (-1) then w_Content_isTagAround L (fun v33 σ32 => if v33 = 0 then J15 s9.1 σ32 else J22 () σ32) σ14 else w_Content_isTagInside L (fun v36 σ35 => if v36 = 0 then J15 s9.1 σ35 else J22 () σ35) σ14) else w_Doctype_readItem L (fun σ38 => J15 s9.1 σ38) σ14 else w_Content_finish L (fun v41 σ40 => J15 v41 σ40) σ14)) (fun J11 => if (σ10.1 3 12) = 0 then inR ((σ10.1 2 2) - (σ10.1 1 2)) ∧ J11 () (pf σ10 2 5 ((σ10.1 2 2) - (σ10.1 1 2))) else J11 () σ10) else Q σ10) (1, 0) σ
theorem j_allB {f : Nat} {pl : Int} (hB : JBd L rm nd σ f pl) (hq : Q σ) : wAll L Q σ := by
  unfold wAll
  refine WL_ind (fun _ ρ => σ = ρ) (fun _ _ => 0) ?_ (1, 0) σ rfl
  rintro ⟨s1, s2⟩ _ rfl K hK
  dsimp only
  rw [if_neg (fun z => by have h1 := hB.2.1; have h2 := hB.2.2.1; rw [h1] at z; omega)]
  exact hq
set_option maxHeartbeats 2000000 in
theorem j_readAll {N n8 : Nat} {wide : Bool} {R : (Nat × Nat) ⊕ AS} {l : List Int} (hln : JLn L rm nd) (h : RJ L rm nd σ a) (hG : GI rm nd a) (hC : JC L σ a) (hF : aF a = [(l, 0, 0)]) (hL : L 998 = L 997 + n8) (h8 : aN a 8 = n8) (h5 : σ.1 2 5 = 0) (hN5 : aN a 5 = 0) (h15 : σ.1 1 5 = 0 ↔ wide = false) (hroom : L 998 + 50 ≤ L 101) (hR : R = rdA rm nd N wide a) (hN : gmu rm a < N) (hNM : N ≤ 900000)
    (hq : ∀ σ' a', R = .inr a' → RJ L rm nd σ' a' → GI rm nd a' → JC L σ' a' → aN a' 8 = n8 → fin a' = true → Q σ') (hb : ∀ σ' f p, R = .inl (f, p) → JBd L rm nd σ' f (p : Int) → Q σ') : w_Content_readAll L Q σ := by
  obtain ⟨p, g, t, hFa, hp, hS, hT, htp, hj⟩ := h.at hln
  have hcl : cur a = l := by unfold cur; rw [hF]
  rw [hcl] at hFa hS hT htp hj
  have h9 : L 101 < 1000000 := hln.1.2.2.2.2.2.2.2
  have hjl := h.1.1.jtp_le
  have hz := h.1.2.2.2.2.1.1.2.2.2
  have hd := h.2.1.1
  rw [hF] at hd
  have h23 : σ.1 2 3 = (L 998 : Int) := hz.1 (by have : ((([(l, 0, 0)] : List Frm).length : Nat) : Int) = 1 := rfl; omega)
  have hSe := hS.1
  have hee : p + l.length + 50 ≤ L 101 := by omega
  have h315 : σ.1 3 15 = 0 := by have := h.2.2.2.1.2.2.2.1; rw [hN5] at this; exact this
  have hgood : rdA rm nd N wide a = arn rm nd N a → wAll L Q σ := fun hr => j_all hln stk h hG hC hL h8 (fun hl => by rw [hF] at hl; exact absurd hl (by simp)) (hR.trans hr) hN hNM hq hb
  unfold w_Content_readAll
  refine p_at hS (by omega) ti_1002 (by decide) hj (fun v2 _ hv2 => ?_)
  have e2 := hv2 p rfl
  have hmt := sh_mt hT [60, 63, 120, 109, 108] 0
  rw [Nat.add_zero] at hmt
  rw [hmt] at e2
  have hRA : rdA rm nd N wide a = if hasH l = true then (match hdk (gd l) l.length 0 with
    | none => .inl (5, 0)
    | some (st, en, k) => if encB (gd l) wide en = true then arn rm nd N (adv (sN a 5 st) k) else .inl (2, 0))
    else arn rm nd N a := by unfold rdA; rw [hcl]
  refine WJ_of (fun _ ρ => wAll L Q ρ) (fun J hJ => ⟨fun _ => ⟨by rw [hSe, hp]; omega, by rw [hSe, hp]; omega⟩, ?_⟩) (fun _ ρ hw => hw)
  have hno : hasH l = false → J () σ := fun hh => hJ _ _ (hgood (by rw [hRA, if_neg (by rw [hh]; decide)]))
  by_cases c1 : mt (gd l) l.length 0 [60, 63, 120, 109, 108] = true ∧ 5 < l.length
  · rw [if_pos ⟨by rw [e2, c1.1]; decide, by rw [hSe, hp]; omega⟩, hp]
    refine ⟨⟨by omega, by omega⟩, ⟨by omega, by omega⟩, sp_Reader_isSpace ?_⟩
    have e5 : σ.2 101 (Int.toNat ((p : Int) + 5)) = gd l 5 := by
      rw [show Int.toNat ((p : Int) + 5) = p + 5 by omega]
      exact hT 5 c1.2
    rw [e5, if_b1]
    by_cases c2 : isSp (gd l 5) = true
    · rw [if_pos c2]
      have hH : hasH l = true := by unfold hasH; rw [c1.1, c2, decide_eq_true c1.2]; rfl
      rw [if_pos hH] at hRA
      have hsh := sh_hdk hT 0
      rw [Nat.add_zero] at hsh
      refine p_head (wide := wide) hS hee h.1.2.1 h15 h315 hj (fun st en k τ' hk hτ => ?_) (fun hno' x τ' hτ => hJ _ _ ?_)
      · rw [hsh] at hk
        cases hk0 : hdk (gd l) l.length 0 with
        | none => rw [hk0] at hk; cases hk
        | some r =>
          obtain ⟨st0, en0, k0⟩ := r
          rw [hk0] at hk hRA
          dsimp only at hRA
          obtain ⟨z1, z2, z3, z4⟩ := hdk_le hk0
          have hk' := Option.some.inj hk
          have f1 : st = st0 := (congrArg Prod.fst hk').symm
          have f2 : en = en0.map (fun y => (p + y.1, y.2)) := (congrArg (fun y => y.2.1) hk').symm
          have f3 : k = p + k0 := (congrArg (fun y => y.2.2) hk').symm
          subst f1 f3
          have hRn := h.n5 (v := st) hln
          have hp5 : (pf σ 3 15 (st : Int)).1 2 2 = (p : Int) := by rw [pf_no (by decide)]; exact hp
          have hcn : cur (sN a 5 st) = l := hcl
          have hFn : aF (sN a 5 st) = (l, 0, 0) :: [] := hF
          obtain ⟨hR1, hg1⟩ := hRn.rd hln hp5 (show k0 ≤ (cur (sN a 5 st)).length by rw [hcn]; exact z3) hτ.k0
          obtain ⟨s1, s2, s3, s4, s5⟩ := hτ.store
          have e25 : τ'.1 2 5 = 0 := by rw [s5, pf_no (by decide)]; exact h5
          have henc : encOk (σ.2 101) wide en ↔ encB (gd l) wide en0 = true := by
            rw [← encB_ok, f2]
            cases en0 with
            | none => exact Iff.rfl
            | some q =>
              obtain ⟨i, n⟩ := q
              have hin := z4 i n rfl
              show (sl (σ.2 101) (p + i) n).map lowr = _ ↔ (sl (gd l) i n).map lowr = _
              rw [sh_sl hT hin]
          have hGn : GI rm nd (sN a 5 st) := hG.n5 z1
          obtain ⟨⟨-, -, ⟨-, r2, -, -⟩, -, ⟨b1, b2⟩, -⟩, -⟩ := id hGn
          have hsk := SK.lit (X := sN a 5 st) (k := k0) hGn hFn rfl ⟨z2, z3⟩ (Or.inl rfl) le_k ⟨Nat.le_refl _, r2⟩ le_kk le_kk le_kk le_k le_k ⟨Nat.le_refl _, b2⟩ (fun _ _ => rfl) rfl rfl rfl (Or.inl rfl)
          refine ⟨fun he => hJ _ _ ?_, fun he => hJ _ _ ?_⟩
          · rw [if_pos (henc.mp he)] at hRA
            have hC1 : JC L (pf σ 3 15 (st : Int)) (sN a 5 st) := hC.same (by unfold jw; rw [pf_no (by decide)]) (by unfold jtp; rw [pf_no (by decide)]) (pf_no (by decide)) (pf_no (by decide)) rfl rfl rfl rfl rfl rfl rfl rfl (pf_no (by decide)) (Nat.le_refl _)
            have hC2 := hC1.ad (τ := τ') (k := k0) (by rw [hcn]; exact z3) s1 s2 s3 s4 (hτ.keep (by omega) (by omega))
            have hg2 : gmu rm (sN a 5 st) = gmu rm a := rfl
            refine j_all hln stk hR1 hsk.1 hC2 hL (by rw [hsk.2.2.1]; exact h8) (fun hl => ?_) (hR.trans hRA) (by have := hsk.2.1; omega) hNM hq hb
            rw [adv_of hFn] at hl
            exact absurd hl (by show ¬ 1 < [(l.drop k0, 0, 0)].length; simp)
          · rw [if_neg (fun z => he (henc.mpr z))] at hRA
            have hB := hR1.ft (n := 2) (by decide)
            rw [e25] at hB
            exact j_allB hB (hb _ 2 0 (hR.trans hRA) hB)
      · rw [hsh] at hno'
        have hk0 : hdk (gd l) l.length 0 = none := by
          cases hk0 : hdk (gd l) l.length 0 with
          | none => rfl
          | some r => rw [hk0] at hno'; cases hno'
        rw [hk0] at hRA
        have hB := h.badk hτ
        rw [h5] at hB
        exact j_allB hB (hb _ 5 0 (hR.trans hRA) hB)
    · rw [if_neg c2]
      refine hno ?_
      have c2' : isSp (gd l 5) = false := by simpa using c2
      unfold hasH
      rw [c2', Bool.and_false, Bool.and_false]
  · rw [if_neg (fun z => c1 ⟨?_, ?_⟩)]
    · refine hno ?_
      unfold hasH
      by_cases c3 : mt (gd l) l.length 0 [60, 63, 120, 109, 108] = true
      · have : ¬ 5 < l.length := fun y => c1 ⟨c3, y⟩
        rw [decide_eq_false this, Bool.false_and, Bool.and_false]
      · have c3' : mt (gd l) l.length 0 [60, 63, 120, 109, 108] = false := by simpa using c3
        rw [c3', Bool.false_and]
    · cases hm : mt (gd l) l.length 0 [60, 63, 120, 109, 108] with
      | true => rfl
      | false => rw [e2, hm] at z; exact absurd rfl z.1
    · have := z.2
      rw [hSe, hp] at this
      omega
end JRd
