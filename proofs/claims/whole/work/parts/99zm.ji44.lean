/-! ===== the class reads a text to its end ===== -/
/-- what holds of the pure machine -/
def GI (rm nd : Nat) (a : AS) : Prop := GA rm nd a ∧ GB a ∧ GC a
/-- how many items there may be -/
def gmu (rm : Nat) (a : AS) : Nat := 2 * (rm - aN a 0) + ((aF a).map (fun f => 2 * f.1.length + 1)).sum
/-- items keep it -/
def STK (rm nd : Nat) : Prop := ∀ a a', GI rm nd a → stp rm nd a = .inr a' → GI rm nd a' ∧ gmu rm a' < gmu rm a ∧ aN a' 8 = aN a 8 ∧ (1 < (aF a').length → aN a' 7 = plc a)
section JI44
variable {L : Nat → Nat} {rm nd : Nat} {ρ σ τ : IS} {a : AS} {Q : IS → Prop}
theorem JO.mono {Q Q' : IS → Prop} {r : Nat ⊕ AS} (h : JO L rm nd σ Q r) (hq : ∀ σ', Q σ' → Q' σ') : JO L rm nd σ Q' r := ⟨fun f hf σ' hB => hq _ (h.1 f hf σ' hB), fun a' ha σ' h1 h2 h3 => hq _ (h.2 a' ha σ' h1 h2 h3)⟩
theorem arn_fuel (hK : STK rm nd) : ∀ (n m : Nat) (a : AS), GI rm nd a → gmu rm a < n → gmu rm a < m → arn rm nd n a = arn rm nd m a := by
  intro n
  induction n with
  | zero => intro m a _ h1 _; omega
  | succ n ih =>
    intro m a hG h1 h2
    cases m with
    | zero => omega
    | succ m =>
      show (if fin a = true then .inr a else match stp rm nd a with
        | .inl f => .inl (f, plc a)
        | .inr a' => arn rm nd n a' : (Nat × Nat) ⊕ AS) = (if fin a = true then .inr a else match stp rm nd a with
        | .inl f => .inl (f, plc a)
        | .inr a' => arn rm nd m a')
      by_cases c : fin a = true
      · rw [if_pos c, if_pos c]
      · rw [if_neg c, if_neg c]
        cases hs : stp rm nd a with
        | inl f => rfl
        | inr a' =>
          obtain ⟨k1, k2, -, -⟩ := hK a a' hG hs
          exact ih m a' k1 (by omega) (by omega)
theorem arn_step {N : Nat} (hK : STK rm nd) (hG : GI rm nd a) (hN : gmu rm a < N) : arn rm nd N a = if fin a = true then .inr a else match stp rm nd a with
    | .inl f => .inl (f, plc a)
    | .inr a' => arn rm nd N a' := by
  cases N with
  | zero => omega
  | succ n =>
    show (if fin a = true then .inr a else match stp rm nd a with
      | .inl f => .inl (f, plc a)
      | .inr a' => arn rm nd n a' : (Nat × Nat) ⊕ AS) = _
    by_cases c : fin a = true
    · rw [if_pos c, if_pos c]
    · rw [if_neg c, if_neg c]
      cases hs : stp rm nd a with
      | inl f => rfl
      | inr a' =>
        obtain ⟨k1, k2, -, -⟩ := hK a a' hG hs
        exact arn_fuel hK n (n + 1) a' k1 (by omega) (by omega)
/-- the place of a fault is no part of the picture -/
theorem RJ.f25 {x : Int} (hln : JLn L rm nd) (h : RJ L rm nd σ a) : RJ L rm nd (pf σ 2 5 x) a ∧ sgr σ (pf σ 2 5 x) := by
  have hs := SI_pf (o := 2) (k := 5) (x := x) h.1.1 (by omega)
  have hZ : JZ L rm nd (pf σ 2 5 x) := h.1.dep hs.1 hs.2 h.1.2.1 (rng_of h.1.2.2.2.2.2.1 (fun j h1 _ => pf_nk (by omega))) (ag.refl.pf rfl)
  have hA : ∀ (F : Nat → Nat → Bool) (R : Nat → Bool), F 2 5 = false → ag F R σ (pf σ 2 5 x) := fun F R z => ag.refl.pf z
  exact ⟨h.mk' hln hZ hs.2 (Or.inl ⟨hA _ _ rfl, rfl, rfl⟩) (Or.inl ⟨hA _ _ rfl, rfl, rfl⟩) (Or.inl ⟨hA _ _ rfl, rfl⟩) (Or.inl ⟨hA _ _ rfl, rfl⟩) (Or.inl ⟨hA _ _ rfl, rfl⟩) (Or.inl ⟨hA _ _ rfl, rfl⟩) (Or.inl ⟨hA _ _ rfl, rfl⟩) (Or.inl ⟨hA _ _ rfl, rfl, rfl⟩) (Or.inl ⟨hA _ _ rfl, rfl⟩) (Or.inl ⟨hA _ _ rfl, rfl⟩) ⟨by rw [pf_nk (by decide)]; exact h.2.2.2.2.2.2.2.2.2.2.2.1, by rw [pf_nk (by decide)]; exact h.2.2.2.2.2.2.2.2.2.2.2.2⟩, hs.2⟩
theorem JC.f25 {x : Int} (h : JC L σ a) : JC L (pf σ 2 5 x) a := h.same (by unfold jw; rw [pf_no (by decide)]) (by unfold jtp; rw [pf_no (by decide)]) (pf_no (by decide)) (pf_no (by decide)) rfl rfl rfl rfl rfl rfl rfl rfl (pf_no (by decide)) (Nat.le_refl _)
/-- one item, with its place -/
theorem j_one {KK : Int → IS → Prop} (hln : JLn L rm nd) (h : RJ L rm nd σ a) (hG : GI rm nd a) (hC : JC L σ a)
    (hq : fin a = false → JO L rm nd σ (KK 1) (stp rm nd a)) (hq0 : fin a = true → KK 0 σ) (hq1 : fin a = false → ∀ f, stp rm nd a = .inl f → ∀ σ', JBd L rm nd σ' f (σ.1 2 5) → KK 0 σ') :
    (if (σ.1 2 2) < (σ.1 2 3) then if (σ.1 5 6) = 0 then WJ (fun (s24 : Unit) (σ25 : IS) => w_Content_readTag L 0 (fun σ26 => if (σ26.1 2 4) = 0 then w_Content_readTag L 1 (fun σ29 => KK 1 σ29) (pf σ26 2 2 (σ25.1 2 2)) else KK 1 σ26) σ25) (fun J22 => if (σ.1 6 3) = (-1) then w_Content_isTagAround L (fun v33 σ32 => if v33 = 0 then KK 1 σ32 else J22 () σ32) σ else w_Content_isTagInside L (fun v36 σ35 => if v36 = 0 then KK 1 σ35 else J22 () σ35) σ) else w_Doctype_readItem L (fun σ38 => KK 1 σ38) σ else w_Content_finish L (fun v41 σ40 => KK v41 σ40) σ) := by
  obtain ⟨hA, hB, hGc⟩ := hG
  obtain ⟨p, g, t, hF, hp, hS, hT, htp, hj⟩ := h.at hln
  have h56 : σ.1 5 6 = if aN a 4 = 1 then 1 else 0 := h.2.2.2.1.2.2.2.2.2
  have h63 : σ.1 6 3 = opn (aO a) := h.2.2.2.2.2.2.2.2.1.2.1
  obtain ⟨-, -, -, -, -, ⟨ph1, ph2, -, -⟩, -⟩ := id hA
  have hlt : (σ.1 2 2) < (σ.1 2 3) ↔ cur a ≠ [] := by
    rw [hp, hS.1]
    constructor
    · intro z z0
      rw [z0, List.length_nil] at z
      omega
    · intro z
      have := List.length_pos_iff.mpr z
      omega
  by_cases c : cur a = []
  · rw [if_neg (fun z => hlt.mp z c)]
    have hfl : 1 < (aF a).length → fin a = false := fun hl => by
      have : ((aF a).length == 1) = false := by rw [beq_eq_false_iff_ne]; omega
      unfold fin
      rw [this, Bool.and_false, Bool.false_and]
    have hst : stp rm nd a = iFin a := by unfold stp; rw [if_pos c]
    rw [hst] at hq hq1
    refine jI_fin (Q := KK) hln h hA hB hC c hq0 (fun hf hl => ?_) (fun hl => hq (hfl hl))
    refine ⟨fun f hf' σ' hB' => hq1 hf f hf' σ' hB', fun a' ha' => ?_⟩
    exfalso
    unfold iFin at ha'
    rw [hF] at ha' hl
    cases t with
    | nil => cases ha'
    | cons x r => rw [List.length_cons, List.length_cons] at hl; omega
  · have hfn : fin a = false := by
      have : (cur a).isEmpty = false := by simpa using c
      unfold fin
      rw [this, Bool.false_and, Bool.false_and]
    replace hq := hq hfn
    rw [if_pos (hlt.mpr c), h56]
    by_cases c1 : aN a 4 = 1
    · rw [if_pos c1, if_neg (by decide)]
      have hst : stp rm nd a = iSub rm nd a := by unfold stp; rw [if_neg c, if_pos c1]
      rw [hst] at hq
      exact jD_sub hln h hA hB hC c c1 hq
    · rw [if_neg c1, if_pos rfl, h63]
      refine WJ_dir ?_
      dsimp only
      by_cases c2 : aN a 4 = 2
      · have hst : stp rm nd a = iCon rm nd a := by unfold stp; rw [if_neg c, if_neg c1, if_pos c2]
        rw [hst] at hq
        have hne := ph2.mp c2
        have ho : opn (aO a) ≠ -1 := by
          cases hO : aO a with
          | nil => exact absurd hO hne
          | cons e r =>
            have : opn (e :: r) = (e : Int) := rfl
            omega
        rw [if_neg ho]
        refine jD_con (Q := fun v36 σ35 => if v36 = 0 then KK 1 σ35 else w_Content_readTag L 0 (fun σ26 => if (σ26.1 2 4) = 0 then w_Content_readTag L 1 (fun σ29 => KK 1 σ29) (pf σ26 2 2 (σ35.1 2 2)) else KK 1 σ26) σ35) hln h hA hC c c2 (hq.mono (fun σ' z => by rw [if_pos rfl]; exact z)) (fun htag h60 => ?_)
        rw [if_neg (by decide)]
        rw [htag] at hq
        exact jI_tag hln h hA hGc hC h60 c1 hq
      · have hst : stp rm nd a = iOut rm nd a := by unfold stp; rw [if_neg c, if_neg c1, if_neg c2]
        rw [hst] at hq
        have hO : aO a = [] := by
          cases hO : aO a with
          | nil => rfl
          | cons e r => exact absurd (ph2.mpr (by rw [hO]; exact List.cons_ne_nil _ _)) c2
        rw [hO, if_pos (by rfl)]
        refine jD_out (Q := fun v36 σ35 => if v36 = 0 then KK 1 σ35 else w_Content_readTag L 0 (fun σ26 => if (σ26.1 2 4) = 0 then w_Content_readTag L 1 (fun σ29 => KK 1 σ29) (pf σ26 2 2 (σ35.1 2 2)) else KK 1 σ26) σ35) hln h hA hB hC c (by omega) (hq.mono (fun σ' z => by rw [if_pos rfl]; exact z)) (fun htag h60 => ?_)
        rw [if_neg (by decide)]
        rw [htag] at hq
        exact jI_tag hln h hA hGc hC h60 c1 hq
/-- where the class is when an item begins -/
theorem j_plc (hln : JLn L rm nd) (h : RJ L rm nd σ a) (hG : GI rm nd a) (hL : L 998 = L 997 + aN a 8) (h7 : 1 < (aF a).length → σ.1 2 5 = (aN a 7 : Int)) : (σ.1 3 12 = 0 → σ.1 2 2 - σ.1 1 2 = (plc a : Int)) ∧ (σ.1 3 12 ≠ 0 → σ.1 2 5 = (plc a : Int)) := by
  obtain ⟨p, g, t, hF, hp, hS, hT, htp, hj⟩ := h.at hln
  have hz := h.1.2.2.2.2.1.1
  have hd := h.2.1.1
  rw [hF, List.length_cons] at hd
  have hGB := hG.2.1.1 (cur a, g) (by rw [hF]; exact List.mem_cons_self)
  dsimp only at hGB
  have h23 := hS.1
  constructor
  · intro hz0
    have ht : t = [] := List.length_eq_zero_iff.mp (by omega)
    have hb := hz.2.2.2.1 hz0
    have h12 := hz.2.2.1
    have e : plc a = aN a 8 - (cur a).length := by unfold plc; rw [hF, ht]
    rw [e]
    omega
  · intro hz0
    cases t with
    | nil => rw [List.length_nil] at hd; omega
    | cons x r =>
      have e : plc a = aN a 7 := by unfold plc; rw [hF]
      rw [e]
      exact h7 (by rw [hF, List.length_cons, List.length_cons]; omega)
set_option maxHeartbeats 2000000 in
theorem j_all {N n8 : Nat} {R : (Nat × Nat) ⊕ AS} (hln : JLn L rm nd) (hK : STK rm nd) (h : RJ L rm nd σ a) (hG : GI rm nd a) (hC : JC L σ a) (hL : L 998 = L 997 + n8) (h8 : aN a 8 = n8) (h7 : 1 < (aF a).length → σ.1 2 5 = (aN a 7 : Int)) (hR : R = arn rm nd N a) (hN : gmu rm a < N) (hNM : N ≤ 900000)
    (hq : ∀ σ' a', R = .inr a' → RJ L rm nd σ' a' → GI rm nd a' → JC L σ' a' → aN a' 8 = n8 → fin a' = true → Q σ') (hb : ∀ σ' f p, R = .inl (f, p) → JBd L rm nd σ' f (p : Int) → Q σ') :
    WL (fun (K7 : Int × Int → IS → Prop) (s9 : Int × Int) (σ10 : IS) => if s9.2 < 1000000 ∧ (¬ s9.1 = 0 ∧ ((σ10.1 2 4) = 0)) then WJ (fun (s13 : Unit) (σ14 : IS) => WJ (fun (s17 : Int) (σ18 : IS) => inR (s9.2 + 1) ∧ K7 (s17, (s9.2 + 1)) σ18) (fun J15 => if (σ14.1 2 2) < (σ14.1 2 3) then if (σ14.1 5 6) = 0 then WJ (fun (s24 : Unit) (σ25 : IS) => w_Content_readTag L 0 (fun σ26 => if (σ26.1 2 4) = 0 then w_Content_readTag L 1 (fun σ29 => J15 s9.1 σ29) (pf σ26 2 2 (σ25.1 2 2)) else J15 s9.1 σ26) σ25) (fun J22 => if (σ14.1 6 3) = (-1) then w_Content_isTagAround L (fun v33 σ32 => if v33 = 0 then J15 s9.1 σ32 else J22 () σ32) σ14 else w_Content_isTagInside L (fun v36 σ35 => if v36 = 0 then J15 s9.1 σ35 else J22 () σ35) σ14) else w_Doctype_readItem L (fun σ38 => J15 s9.1 σ38) σ14 else w_Content_finish L (fun v41 σ40 => J15 v41 σ40) σ14)) (fun J11 => if (σ10.1 3 12) = 0 then inR ((σ10.1 2 2) - (σ10.1 1 2)) ∧ J11 () (pf σ10 2 5 ((σ10.1 2 2) - (σ10.1 1 2))) else J11 () σ10) else Q σ10) (1, 0) σ := by
  refine WL_ind (fun s ρ => (s.1 = 1 ∧ ∃ a, RJ L rm nd ρ a ∧ GI rm nd a ∧ JC L ρ a ∧ aN a 8 = n8 ∧ (1 < (aF a).length → ρ.1 2 5 = (aN a 7 : Int)) ∧ R = arn rm nd N a ∧ gmu rm a < N ∧ 0 ≤ s.2 ∧ s.2 + (gmu rm a : Int) ≤ 900000) ∨ (s.1 = 0 ∧ ∃ a, R = .inr a ∧ RJ L rm nd ρ a ∧ GI rm nd a ∧ JC L ρ a ∧ aN a 8 = n8 ∧ fin a = true) ∨ (∃ f p, R = .inl (f, p) ∧ JBd L rm nd ρ f (p : Int))) (fun s _ => (1000000 - s.2).toNat) ?_ (1, 0) σ (Or.inl ⟨rfl, a, h, hG, hC, h8, h7, hR, hN, by dsimp only; omega, by dsimp only; omega⟩)
  rintro ⟨s1, s2⟩ ρ hI K hKK
  dsimp only at hI hKK ⊢
  clear h hG hC h8 h7 hR hN
  rcases hI with ⟨rfl, a, h, hG, hC, h8, h7, hR, hN, hs0, hsm⟩ | ⟨rfl, a, hR, h, hG, hC, h8, hf⟩ | ⟨f, p, hR, hB⟩
  · have hf0 : ρ.1 2 4 = 0 := h.2.2.2.2.2.2.2.2.2.2.2.1
    rw [if_pos ⟨by omega, by decide, hf0⟩]
    have hpl := j_plc hln h hG (by rw [h8]; exact hL) h7
    obtain ⟨p0, -, -, -, hp0, hS0, -, htp0, -⟩ := h.at hln
    have hjl := h.1.1.jtp_le
    have h9 : L 101 < 1000000 := hln.1.2.2.2.2.2.2.2
    have h12 := h.1.2.2.2.2.2.2.2
    refine WJ_of (fun _ σ14 => RJ L rm nd σ14 a ∧ JC L σ14 a ∧ σ14.1 2 5 = (plc a : Int)) (fun J hJ => ?_) ?_
    · by_cases c : ρ.1 3 12 = 0
      · rw [if_pos c]
        refine ⟨⟨by omega, by omega⟩, ?_⟩
        rw [hpl.1 c]
        exact hJ _ _ ⟨(h.f25 hln).1, hC.f25, pf_eq⟩
      · rw [if_neg c]
        exact hJ _ _ ⟨h, hC, hpl.2 c⟩
    · rintro _ σ14 ⟨h14, hC14, h5⟩
      refine WJ_dir ?_
      dsimp only
      have hstep := arn_step hK hG hN
      refine j_one (KK := fun s17 σ18 => inR (s2 + 1) ∧ K (s17, (s2 + 1)) σ18) hln h14 hG hC14 (fun cf => ⟨fun f hf σ' hB => ⟨⟨by omega, by omega⟩, hKK _ _ (Or.inr (Or.inr ⟨f, plc a, ?_, by rw [h5] at hB; exact hB⟩)) (by dsimp only; omega)⟩, fun a' ha' σ' hR' hC' h5' => ?_⟩) (fun hf => ⟨⟨by omega, by omega⟩, hKK _ _ (Or.inr (Or.inl ⟨rfl, a, ?_, h14, hG, hC14, h8, hf⟩)) (by dsimp only; omega)⟩) (fun hf f hs σ' hB => ⟨⟨by omega, by omega⟩, hKK _ _ (Or.inr (Or.inr ⟨f, plc a, ?_, by rw [h5] at hB; exact hB⟩)) (by dsimp only; omega)⟩)
      · rw [hR, hstep, hf, if_neg (by rw [cf]; decide)]
      · obtain ⟨k1, k2, k3, k4⟩ := hK a a' hG ha'
        refine ⟨⟨by omega, by omega⟩, hKK _ _ (Or.inl ⟨rfl, a', hR', k1, hC', by rw [k3]; exact h8, fun hl => ?_, ?_, by omega, by dsimp only; omega, by dsimp only; omega⟩) (by dsimp only; omega)⟩
        · rw [h5', h5, k4 hl]
        · rw [hR, hstep, ha', if_neg (by rw [cf]; decide)]
      · rw [hR, hstep, if_pos hf]
      · rw [hR, hstep, hs, if_neg (by rw [hf]; decide)]
  · rw [if_neg (fun z => z.2.1 rfl)]
    exact hq ρ a hR h hG hC h8 hf
  · rw [if_neg (fun z => by have h1 := hB.2.1; have h2 := hB.2.2.1; rw [h1] at z; omega)]
    exact hb ρ f p hR hB
end JI44
