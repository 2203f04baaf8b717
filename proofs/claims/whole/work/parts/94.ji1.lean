/-! ===== items of the class: spaces, comments, sections, runs, instructions ===== -/
/-- what an item leaves, as the pure machine says -/
def JO (L : Nat → Nat) (rm nd : Nat) (σ : IS) (Q : IS → Prop) (r : Nat ⊕ AS) : Prop := (∀ f, r = .inl f → ∀ σ', JBd L rm nd σ' f (σ.1 2 5) → Q σ') ∧ ∀ a', r = .inr a' → ∀ σ', RJ L rm nd σ' a' → JC L σ' a' → σ'.1 2 5 = σ.1 2 5 → Q σ'
section JI1
variable {L : Nat → Nat} {rm nd : Nat} {σ τ : IS} {a : AS} {Q : IS → Prop}
theorem adv_of {l : List Int} {g : Nat × Nat} {t : List Frm} {k : Nat} (h : aF a = (l, g) :: t) : adv a k = sF a ((l.drop k, g) :: t) := by
  unfold adv
  rw [h]
theorem rem_adv {k : Nat} (hk : k ≤ (cur a).length) : rem (adv a k) + k = rem a := by
  cases hf : aF a with
  | nil =>
    have hc : (cur a).length = 0 := by unfold cur; rw [hf]; rfl
    have e : adv a k = a := by unfold adv; rw [hf]
    rw [e]
    omega
  | cons f t =>
    obtain ⟨l, g⟩ := f
    have hc : cur a = l := by unfold cur; rw [hf]
    rw [hc] at hk
    rw [adv_of hf]
    unfold rem
    have e : aF (sF a ((l.drop k, g) :: t)) = (l.drop k, g) :: t := rfl
    rw [hf, e]
    simp only [List.map_cons, List.sum_cons, List.length_drop]
    omega
def ord (a : AS) (o : Option Nat) : Nat ⊕ AS := match o with
  | none => .inl 5
  | some k => .inr (adv a k)
/-- the picture, piece by piece: as it was, or anew -/
theorem RJ.mk' {a' : AS} (hln : JLn L rm nd) (h : RJ L rm nd σ a) (hZ : JZ L rm nd τ) (g : sgr σ τ) (kF : (ag fFr rFr σ τ ∧ aF a' = aF a ∧ aO a' = aO a) ∨ JFr τ (aF a') (aO a')) (kE : (ag fEn rEn σ τ ∧ aE a' = aE a ∧ bsy a' = bsy a) ∨ JEn L τ (aE a') (bsy a')) (kN : (ag fNu rNo σ τ ∧ aN a' = aN a) ∨ JNu τ (aN a')) (kR : (ag fRo rNo σ τ ∧ aR a' = aR a) ∨ JRo τ (aR a')) (kD : (ag fEd rEd σ τ ∧ aD a' = aD a) ∨ JEd L τ (aD a')) (kA : (ag fAd rAd σ τ ∧ aA a' = aA a) ∨ JAd L τ (aA a')) (kT : (ag fNt rNt σ τ ∧ aT a' = aT a) ∨ JNt L τ (aT a')) (kL : (ag fEl rEl σ τ ∧ aL a' = aL a ∧ aO a' = aO a) ∨ JEl τ (aL a') (aO a')) (kB : (ag fAt rAt σ τ ∧ aB a' = aB a) ∨ JAt τ (aB a')) (kS : (ag fSt rSt σ τ ∧ aS a' = aS a) ∨ JSt τ (aS a')) (k4 : τ.1 2 4 = 0 ∧ τ.1 2 6 = (aN a' 2 : Int)) : RJ L rm nd τ a' := by
  obtain ⟨h0, h1, h2, h3, h4, h5, h6, h7, h8, h9, h10, h11⟩ := h
  refine ⟨hZ, ?_, ?_, ?_, ?_, ?_, ?_, ?_, ?_, ?_, ?_, k4⟩
  · rcases kF with ⟨x, y, z⟩ | x
    · rw [y, z]; exact h1.dep g x
    · exact x
  · rcases kE with ⟨x, y, z⟩ | x
    · rw [y, z]; exact h2.dep g hZ.1 hln.1 x
    · exact x
  · rcases kN with ⟨x, y⟩ | x
    · rw [y]; exact h3.dep x
    · exact x
  · rcases kR with ⟨x, y⟩ | x
    · rw [y]; exact h4.dep g x
    · exact x
  · rcases kD with ⟨x, y⟩ | x
    · rw [y]; exact h5.dep g hZ.1 hln.1 x
    · exact x
  · rcases kA with ⟨x, y⟩ | x
    · rw [y]; exact h6.dep g hZ.1 hln.1 x
    · exact x
  · rcases kT with ⟨x, y⟩ | x
    · rw [y]; exact h7.dep g hZ.1 hln.1 x
    · exact x
  · rcases kL with ⟨x, y, z⟩ | x
    · rw [y, z]; exact h8.dep g x
    · exact x
  · rcases kB with ⟨x, y⟩ | x
    · rw [y]; exact h9.dep g x
    · exact x
  · rcases kS with ⟨x, y⟩ | x
    · rw [y]; exact h10.dep g x
    · exact x
/-- the store as it was, or smaller -/
theorem JC.ad {k : Nat} (h : JC L σ a) (hk : k ≤ (cur a).length) (hw : jw τ = jw σ) (ht : jtp τ = jtp σ) (hb : τ.1 1 2 = σ.1 1 2) (hl : τ.1 4 16 = σ.1 4 16) (hs : τ.1 1 16 = σ.1 1 16) : JC L τ (adv a k) := by
  obtain ⟨o1, o2, o3, o4, o5, o6, o7, o8, o9, o10⟩ := adv_other (a := a) (k := k)
  have hr := rem_adv hk
  obtain ⟨h1, h2, h3⟩ := h
  unfold JC
  rw [rsv_eq (a := a) (by rw [o7]) o8 o5 o4, o10, o2, hw, ht, hb, hl, hs]
  omega
theorem jp.store {e k : Nat} {o : Option Nat} (h : jp e k σ o τ) : jw τ = jw σ ∧ jtp τ = jtp σ ∧ τ.1 1 2 = σ.1 1 2 ∧ τ.1 4 16 = σ.1 4 16 ∧ τ.1 2 5 = σ.1 2 5 := by
  unfold jw jtp
  rw [h.keep (p := 1) (j := 14) (by omega) (by omega), h.keep (p := 1) (j := 3) (by omega) (by omega), h.keep (p := 1) (j := 2) (by omega) (by omega), h.keep (p := 4) (j := 16) (by omega) (by omega), h.keep (p := 2) (j := 5) (by omega) (by omega)]
  exact ⟨rfl, rfl, rfl, rfl, rfl⟩
/-- an item that is only read -/
theorem JO.rd {p e : Nat} {o : Option Nat} (hln : JLn L rm nd) (h : RJ L rm nd σ a) (hC : JC L σ a) (hp : σ.1 2 2 = (p : Int)) (ho : ∀ k, o = some k → k ≤ (cur a).length) (hj : jp e 0 σ (mvo p o) τ) (hq : JO L rm nd σ Q (ord a o)) : Q τ := by
  cases o with
  | none => exact hq.1 5 rfl τ (h.bad hj)
  | some k =>
    have hj' : jp e 0 σ (some (p + k)) τ := hj
    obtain ⟨s1, s2, s3, s4, s5⟩ := hj'.store
    exact hq.2 _ rfl τ (h.rd hln hp (ho k rfl) hj').1 (hC.ad (ho k rfl) s1 s2 s3 s4 (hj'.keep (by omega) (by omega))) s5
theorem jI_spc (hln : JLn L rm nd) (h : RJ L rm nd σ a) (hC : JC L σ a) (hq : JO L rm nd σ Q (iSpc a)) : w_Reader_skipSpace L (fun _ σ' => Q σ') σ := by
  obtain ⟨p, g, t, hF, hp, hS, hT, -, hj⟩ := h.at hln
  refine p_skipSpace hS (by omega) hj (fun v τ hτ _ _ => ?_)
  have hsl := sk_le (p := isSp) (T := gd (cur a)) (Nat.zero_le (cur a).length)
  have e1 := sh_asps hT 0
  rw [show p + 0 = p by omega] at e1
  rw [e1] at hτ
  refine JO.rd (o := some (sk isSp (gd (cur a)) (cur a).length 0)) hln h hC hp (fun k hk => by cases hk; exact hsl.2) hτ hq
theorem cmt_le {T : Nat → Int} {e p k : Nat} (h : cmt T e p = some k) : p < k ∧ k ≤ e := by
  unfold cmt at h
  cases hs : sek T e [45, 45] (p + 4) with
  | none => rw [hs] at h; cases h
  | some j =>
    rw [hs, Option.bind_some] at h
    have h1 := sek_lt hs
    have h2 := wd_gt h
    have h3 : k ≤ e := wdl_le ti_1052 (fun i hi => by cases hi; omega) k h
    have h4 : [(45 : Int), 45, 62].length = 3 := rfl
    omega
theorem jI_cmt (hln : JLn L rm nd) (h : RJ L rm nd σ a) (hC : JC L σ a) (hm : mt (gd (cur a)) (cur a).length 0 [60, 33, 45, 45] = true) (hq : JO L rm nd σ Q (ord a (cmt (gd (cur a)) (cur a).length 0))) : w_Reader_readComment L Q σ := by
  obtain ⟨p, g, t, hF, hp, hS, hT, -, hj⟩ := h.at hln
  unfold w_Reader_readComment
  refine p_need hS (by omega) ti_1050 (by decide) hj (fun τ1 h1 => ?_)
  have hm' : mt (σ.2 101) (p + (cur a).length) p [60, 33, 45, 45] = true := by
    have := sh_mt hT [60, 33, 45, 45] 0
    rw [show p + 0 = p by omega] at this
    rw [this]; exact hm
  rw [wd_of hm'] at h1
  refine p_seek hS (by omega) ti_1051 (by decide) h1 (fun τ2 h2 => p_need hS (by omega) ti_1052 (by decide) h2 (fun τ3 h3 => ?_))
  have e1 : wd (σ.2 101) (p + (cur a).length) [45, 45, 62] ((some (p + 4)).bind (sek (σ.2 101) (p + (cur a).length) [45, 45])) = mvo p (cmt (gd (cur a)) (cur a).length 0) := by
    have e2 := sh_cmt hT 0
    rw [show p + 0 = p by omega] at e2
    rw [← e2]
    unfold cmt
    rw [Option.bind_some]
    cases sek (σ.2 101) (p + (cur a).length) [45, 45] (p + 4) with
    | none => rfl
    | some j => rfl
  have h3' : jp (p + (cur a).length) 0 σ (wd (σ.2 101) (p + (cur a).length) [45, 45, 62] ((some (p + 4)).bind (sek (σ.2 101) (p + (cur a).length) [45, 45]))) τ3 := h3
  rw [e1] at h3'
  exact JO.rd hln h hC hp (fun k hk => (cmt_le hk).2) h3' hq
theorem jI_sbe (hln : JLn L rm nd) (h : RJ L rm nd σ a) (hC : JC L σ a) (hph : aN a 4 = 1) (hm : mt (gd (cur a)) (cur a).length 0 [93] = true) (hq : JO L rm nd σ Q (iSbe a)) : w_Doctype_readEnd L Q σ := by
  obtain ⟨p, g, t, hF, hp, hS, hT, -, hj⟩ := h.at hln
  have hm' : mt (σ.2 101) (p + (cur a).length) p [93] = true := by
    have := sh_mt hT [93] 0
    rw [show p + 0 = p by omega] at this
    rw [this]; exact hm
  refine j_subsetEnd hS hm' hj (fun τ hτ => ?_)
  have e1 : wd (σ.2 101) (p + (cur a).length) [62] (asp (σ.2 101) (p + (cur a).length) (some (p + 1))) = mvo p (wd (gd (cur a)) (cur a).length [62] (asp (gd (cur a)) (cur a).length (some 1))) := by
    rw [sh_asps hT, sh_wd hT]
  rw [e1] at hτ
  have hid : iSbe a = match wd (gd (cur a)) (cur a).length [62] (asp (gd (cur a)) (cur a).length (some 1)) with
    | none => .inl 5
    | some k => .inr (adv (sN a 4 0) k) := rfl
  cases hk : wd (gd (cur a)) (cur a).length [62] (asp (gd (cur a)) (cur a).length (some 1)) with
  | none =>
    rw [hk] at hτ hid
    have hb := h.bad hτ
    refine hq.1 5 hid _ ⟨?_, ?_, hb.2.2.1, ?_, ?_⟩
    · exact (hb.1.out (σ' := pf τ 5 6 0) (fun o k hk => by rw [pf_1, if_neg (by omega)]) (fun _ _ => rfl)).1
    · rw [pf_no (by decide)]; exact hb.2.1
    · rw [pf_no (by decide)]; exact hb.2.2.2.1
    · intro r hr w h1 h2
      have : jw (pf τ 5 6 0) = jw τ := by unfold jw; rw [pf_no (by decide)]
      exact hb.2.2.2.2 r hr w (by omega) h2
  | some k =>
    rw [hk] at hτ hid
    have hτ' : jp (p + (cur a).length) 0 σ (some (p + k)) τ := hτ
    have hkl : k ≤ (cur a).length := by have := hτ'.at.2; omega
    obtain ⟨hR, hg⟩ := h.rd hln hp hkl hτ'
    obtain ⟨s1, s2, s3, s4, s5⟩ := hτ'.store
    have hZ' := hR.1.out (σ' := pf τ 5 6 0) (fun o k hk => by rw [pf_1, if_neg (by omega)]) (fun _ _ => rfl)
    have hA : ∀ F R, F 5 6 = false → ag F R τ (pf τ 5 6 0) := fun F R h => ag.refl.pf h
    have hc := hC.ad (τ := pf τ 5 6 0) hkl (by unfold jw; rw [pf_no (by decide)]; exact s1) (by unfold jtp; rw [pf_no (by decide)]; exact s2) (by rw [pf_no (by decide)]; exact s3) (by rw [pf_no (by decide)]; exact s4) (by rw [pf_no (by decide)]; exact hτ'.keep (by omega) (by omega))
    have hFn : aF (sN a 4 0) = (cur a, g) :: t := hF
    dsimp only at hid
    rw [adv_of hFn] at hid
    rw [adv_of hF] at hR hc
    refine hq.2 _ hid _ (hR.mk' hln hZ'.1 hZ'.2 (Or.inl ⟨hA _ _ rfl, rfl, rfl⟩) (Or.inl ⟨hA _ _ rfl, rfl, rfl⟩) (Or.inr ?_) (Or.inl ⟨hA _ _ rfl, rfl⟩) (Or.inl ⟨hA _ _ rfl, rfl⟩) (Or.inl ⟨hA _ _ rfl, rfl⟩) (Or.inl ⟨hA _ _ rfl, rfl⟩) (Or.inl ⟨hA _ _ rfl, rfl, rfl⟩) (Or.inl ⟨hA _ _ rfl, rfl⟩) (Or.inl ⟨hA _ _ rfl, rfl⟩) ?_) hc (by rw [pf_no (by decide)]; exact s5)
    · obtain ⟨n1, n2, n3, n4, n5, n6⟩ := hR.2.2.2.1
      exact ⟨by rw [pf_no (by decide)]; exact n1, by rw [pf_no (by decide)]; exact n2, by rw [pf_no (by decide)]; exact n3, by rw [pf_no (by decide)]; exact n4, by rw [pf_no (by decide)]; exact n5, by rw [pf_eq]; rfl⟩
    · have h11 := hR.2.2.2.2.2.2.2.2.2.2.2
      exact ⟨by rw [pf_no (by decide)]; exact h11.1, by rw [pf_no (by decide)]; exact h11.2⟩
end JI1
