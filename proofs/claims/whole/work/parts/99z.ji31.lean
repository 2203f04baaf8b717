/-! ===== items of the class: attribute lists (3): the item ===== -/
section JI31
variable {L : Nat → Nat} {rm nd : Nat} {σ τ : IS} {a : AS} {Q : IS → Prop}
theorem adv_zero : adv a 0 = a := by
  unfold adv
  split
  · rfl
  · rename_i f t hF
    show (((f.1.drop 0, f.2) :: t), a.2) = a
    rw [List.drop_zero]
    have : a.1 = f :: t := hF
    rw [← this]
/-- the reader put back -/
theorem RJ.back {e k : Nat} (hln : JLn L rm nd) (h : RJ L rm nd σ a) (hj : jp e 0 σ (some k) τ) : RJ L rm nd (pf τ 2 2 (σ.1 2 2)) a ∧ sgr σ (pf τ 2 2 (σ.1 2 2)) := by
  obtain ⟨c1, c2, c3, c4⟩ := hj.cells
  have := h.go (τ := pf τ 2 2 (σ.1 2 2)) (k := 0) hln (by omega) (fun o j h1 h2 => by rw [pf_1, if_neg (by omega)]; exact c1 o j h1 h2) c2 (by rw [pf_eq]; omega) (rng_of c3 (fun i _ _ => pf_nk (by omega)))
  rw [adv_zero] at this
  exact this
theorem jI_atl (hln : JLn L rm nd) (h : RJ L rm nd σ a) (hG : GA rm nd a) (hC : JC L σ a) (hm : mt (gd (cur a)) (cur a).length 0 [60, 33, 65, 84, 84, 76, 73, 83, 84] = true) (hq : JO L rm nd σ Q (iAtl rm a)) : w_Doctype_readAttributes L 0 (fun σ37 => WJ (fun (s41 : Unit) (σ42 : IS) => Q σ42) (fun J39 => if (σ37.1 2 4) = 0 then w_Doctype_readAttributes L 1 (fun σ44 => J39 () σ44) (pf σ37 2 2 (σ.1 2 2)) else J39 () σ37)) σ := by
  obtain ⟨p, g, t, hF, hp, hS, hT, htp, hj⟩ := h.at hln
  have hm' : mt (σ.2 101) (p + (cur a).length) p [60, 33, 65, 84, 84, 76, 73, 83, 84] = true := by
    have := sh_mt hT [60, 33, 65, 84, 84, 76, 73, 83, 84] 0
    rw [show p + 0 = p by omega] at this
    rw [this]; exact hm
  have hal := sh_alk hT 0
  rw [show p + 0 = p by omega] at hal
  refine j_readAttributes0 hS h.1.2.1 h.1.1 hln.1 h.1.ty hm' hj (fun τ hτ => WJ_dir ?_)
  dsimp only
  rw [hal] at hτ
  cases hk : alk (gd (cur a)) (cur a).length 0 with
  | none =>
    rw [hk] at hτ
    have hτ' : jp (p + (cur a).length) 0 σ none τ := hτ
    rw [if_neg (by rw [jp.f5 hτ']; decide)]
    refine hq.1 5 ?_ τ (h.bad hτ')
    unfold iAtl
    rw [hk]
    cases spc (gd (cur a)) (cur a).length (some 9) <;> rfl
  | some k =>
    rw [hk, mvo_some] at hτ
    rw [if_pos (hτ.f0 hS)]
    obtain ⟨hR, hg⟩ := h.back hln hτ
    obtain ⟨s1, s2, s3, s4, s5⟩ := hτ.store
    have e5 : (pf τ 2 2 (σ.1 2 2)).1 2 5 = σ.1 2 5 := by rw [pf_nk (by decide)]; exact s5
    refine j_readAttributes1 hln hR hG (hC.same (by unfold jw at s1 ⊢; rw [pf_no (by decide)]; exact s1) (by unfold jtp at s2 ⊢; rw [pf_no (by decide)]; exact s2) (by rw [pf_no (by decide)]; exact s3) (by rw [pf_no (by decide)]; exact s4) rfl rfl rfl rfl rfl rfl rfl rfl (by rw [pf_no (by decide)]; exact hτ.keep (by omega) (by omega)) (Nat.le_refl _)) hm hk ?_
    unfold JO
    rw [e5]
    exact hq
end JI31
