/-! ===== items of the class: tags (1): an element begins, an attribute is added ===== -/
/-- another tree -/
def trr (a : AS) (n3 : Nat) (L' : List Elm) (B' : List Att) (S' : List Evt) (O' : List Nat) : AS := sO (sS (sB (sL (sN a 3 n3) L') B') S') O'
/-- attributes of elements lie among the attributes; texts gone through in an element began there -/
def GC (a : AS) : Prop := (∀ x ∈ aL a, x.2.2.1 + x.2.2.2.1 ≤ (aB a).length ∧ x.2.2.2.2.1 ≤ x.2.2.2.1) ∧ (aN a 4 = 2 → ∀ i, i + 1 < (aF a).length → 0 < ((aF a).getD i ([], 0, 0)).2.2)
section JI32
variable {L : Nat → Nat} {rm nd : Nat} {σ τ : IS} {a : AS} {Q : IS → Prop}
theorem JFr.opd {fr : List Frm} {os : List Nat} {e : Nat} (h : JFr σ fr os) (hf : ∀ f ∈ fr, f.2.2 ≤ os.length) : JFr σ fr (e :: os) := by
  refine ⟨h.1, h.2.1, h.2.2.1, fun i hi => ?_⟩
  have := h.2.2.2 i hi
  rw [els_cons (hf _ (lvl_mem hi))]
  exact this
/-- an element begins -/
theorem sp_begin {x : Int} {nm : Str} (hln : JLn L rm nd) (h : RJ L rm nd σ a) (ho : och (aL a) (aO a)) (hn : (aL a).length ≤ nd) (hn3 : aN a 3 ≤ 100000) (hs : evl (aS a) < rm) (hfr : ∀ f ∈ aF a, f.2.2 ≤ (aO a).length) (hx : Jn σ x nm)
    (hq : ∀ σ' L' B' S' O', RJ L rm nd σ' (trr a (aN a 3 + 1) L' B' S' O') → ((aL a).length < nd → L' = aL (tch a false) ++ [(nm, par a, (aB a).length, 0, 0, false, false)] ∧ B' = aB a ∧ S' = aS a ++ [.inl (-3 - ((aL a).length : Int))] ∧ O' = (aL a).length :: aO a) → (¬ (aL a).length < nd → L' = aL (tch a false) ∧ B' = aB a ∧ S' = aS a ∧ O' = aO a) → (∀ o k, o ≠ 6 → σ'.1 o k = σ.1 o k) → (∀ r, r < 129 ∨ (136 < r ∧ r ≠ 146 ∧ r ≠ 161) → σ'.2 r = σ.2 r) → Q σ') : w_Tree_beginElement L x Q σ := by
  have hrm := hln.2.1
  have h136 : L 136 = rm := hln.2.2.2.2.2.2.2.2.2.2.2
  obtain ⟨hLr, h146, -⟩ := hln.2.2.2.2.2.2.2.2.2.2.1
  have h129 := hLr 129 (by omega) (by omega)
  have h130 := hLr 130 (by omega) (by omega)
  have h131 := hLr 131 (by omega) (by omega)
  have h132 := hLr 132 (by omega) (by omega)
  have h133 := hLr 133 (by omega) (by omega)
  unfold w_Tree_beginElement
  refine sp_note (sp := false) hln h ho hn (Or.inl ⟨rfl, rfl⟩) (fun σ1 hR hf1 hr1 => ?_)
  obtain ⟨t1, t2, t3, t4, t5, t6, t7, t8, t9, t10⟩ := tch_other (a := a) (sp := false)
  have htl : (aL (tch a false)).length = (aL a).length := by
    cases hO : aO a with
    | nil => unfold tch; rw [hO]
    | cons e r => rw [tch_L hO, List.length_modify]
  have hEl := hR.2.2.2.2.2.2.2.2.1
  have hAt := hR.2.2.2.2.2.2.2.2.2.1
  have hSt := hR.2.2.2.2.2.2.2.2.2.2.1
  have hNu := hR.2.2.2.1
  have e61 : σ1.1 6 1 = (aN a 3 : Int) := by have := hNu.2.2.1; rw [t3] at this; exact this
  have e62 : σ1.1 6 2 = ((aL a).length : Int) := by have := hEl.1; rw [htl] at this; exact this
  have e60 : σ1.1 6 0 = (nd : Int) := hR.1.2.2.2.1.2.2
  have e63 : σ1.1 6 3 = opn (aO a) := by have := hEl.2.1; rw [t10] at this; exact this
  have e610 : σ1.1 6 10 = ((aB a).length : Int) := by have := hAt.1; rw [t8] at this; exact this
  have e615 : σ1.1 6 15 = (evl (aS a) : Int) := by have := hSt.1; rw [t9] at this; exact this
  have e616 : σ1.1 6 16 = (ltr (aS a) : Int) := by have := hSt.2.1; rw [t9] at this; exact this
  rw [e61, e62, e60]
  refine ⟨⟨by omega, by omega⟩, WJ_dir ?_⟩
  dsimp only
  have hpar : opn (aO a) = par a := by unfold par opn; cases aO a <;> rfl
  by_cases c : (aL a).length < nd
  · rw [if_pos (by omega), show Int.toNat ((aL a).length : Int) = (aL a).length by omega, e63, e610]
    refine ⟨⟨by omega, by omega⟩, ⟨by omega, by omega⟩, ⟨by omega, by omega⟩, ⟨by omega, by omega⟩, ⟨by omega, by omega⟩, ⟨by omega, by omega⟩, ⟨by omega, by omega⟩, ?_⟩
    generalize hE : (aL a).length = E at *
    generalize hψ : pr (pr (pr (pr (pr (pr (pf σ1 6 1 ((aN a 3 : Int) + 1)) 146 E x) 129 E (opn (aO a))) 130 E ((aB a).length : Int)) 131 E 0) 132 E 0) 133 E 0 = ψ
    have hψf : ∀ o k, ¬ (o = 6 ∧ k = 1) → ψ.1 o k = σ1.1 o k := fun o k hk => by rw [← hψ, pr_1, pr_1, pr_1, pr_1, pr_1, pr_1, pf_1, if_neg hk]
    refine sp_put_x (n := evl (aS a)) (by rw [hψf 6 15 (by omega)]; exact e615) (by omega) (by omega) ?_
    generalize hχ : pf (pr ψ 136 (evl (aS a)) (-3 - (E : Int))) 6 15 ((evl (aS a) + 1 : Nat) : Int) = χ
    have hχf : ∀ o k, ¬ (o = 6 ∧ (k = 1 ∨ k = 15)) → χ.1 o k = σ1.1 o k := fun o k hk => by rw [← hχ, pf_1, if_neg (by omega), pr_1, hψf o k (by omega)]
    rw [hχf 6 2 (by omega), e62]
    refine ⟨⟨by omega, by omega⟩, ?_⟩
    generalize hφ : pf (pf χ 6 3 (E : Int)) 6 2 ((E : Int) + 1) = φ
    have hφf : ∀ o k, ¬ (o = 6 ∧ (k = 1 ∨ k = 2 ∨ k = 3 ∨ k = 15)) → φ.1 o k = σ1.1 o k := fun o k hk => by rw [← hφ, pf_1, if_neg (by omega), pf_1, if_neg (by omega), hχf o k (by omega)]
    have hφr : ∀ r j, φ.2 r j = if r = 136 ∧ j = evl (aS a) then -3 - (E : Int) else if r = 133 ∧ j = E then 0 else if r = 132 ∧ j = E then 0 else if r = 131 ∧ j = E then 0 else if r = 130 ∧ j = E then ((aB a).length : Int) else if r = 129 ∧ j = E then opn (aO a) else if r = 146 ∧ j = E then x else σ1.2 r j := by
      intro r j
      rw [← hφ, pf_2, pf_2, ← hχ, pf_2, pr_2, ← hψ, pr_2, pr_2, pr_2, pr_2, pr_2, pr_2, pf_2]
    have hφr2 : ∀ r, r < 129 ∨ (133 < r ∧ r ≠ 146 ∧ r ≠ 136) → φ.2 r = σ1.2 r := fun r hr => funext (fun j => by
      rw [hφr r j, if_neg (by omega), if_neg (by omega), if_neg (by omega), if_neg (by omega), if_neg (by omega), if_neg (by omega), if_neg (by omega)])
    have hA : ∀ (F : Nat → Nat → Bool) (R : Nat → Bool), (∀ o k, F o k = true → ¬ (o = 6 ∧ (k = 1 ∨ k = 2 ∨ k = 3 ∨ k = 15))) → (∀ r, R r = true → r < 129 ∨ (133 < r ∧ r ≠ 146 ∧ r ≠ 136)) → ag F R σ1 φ := fun F R z1 z2 => ⟨fun o k hk => hφf o k (z1 o k hk), fun r hr => hφr2 r (z2 r hr)⟩
    obtain ⟨hZ, hg⟩ := hR.1.out (σ' := φ) (fun o k hk => hφf o k (by omega)) (fun r hr => hφr2 r (by omega))
    have hsg : sgr σ σ1 := (h.1.out (σ' := σ1) (fun o k _ => hf1 o k) (fun r hr => hr1 r (by omega))).2
    refine hq φ (aL (tch a false) ++ [(nm, par a, (aB a).length, 0, 0, false, false)]) (aB a) (aS a ++ [.inl (-3 - (E : Int))]) (E :: aO a) ?_ (fun _ => ⟨rfl, rfl, rfl, rfl⟩) (fun z => absurd c z) (fun o k hk => by rw [hφf o k (by omega)]; exact hf1 o k) (fun r hr => by rw [hφr2 r (by omega)]; exact hr1 r (by omega))
    refine hR.mk' hln hZ hg (Or.inr ?_) (Or.inl ⟨hA _ _ (fun o k hk => by simp [fEn] at hk; omega) (fun r hr => by simp [rEn] at hr; omega), t2.symm, by unfold bsy; rw [t1]; rfl⟩) (Or.inr ?_) (Or.inl ⟨hA _ _ (fun o k hk => by simp [fRo] at hk; omega) (fun r hr => by simp [rNo] at hr), t4.symm⟩) (Or.inl ⟨hA _ _ (fun o k hk => by simp [fEd] at hk; omega) (fun r hr => by simp [rEd] at hr; omega), t5.symm⟩) (Or.inl ⟨hA _ _ (fun o k hk => by simp [fAd] at hk; omega) (fun r hr => by simp [rAd] at hr; omega), t6.symm⟩) (Or.inl ⟨hA _ _ (fun o k hk => by simp [fNt] at hk; omega) (fun r hr => by simp [rNt] at hr; omega), t7.symm⟩) (Or.inr ?_) (Or.inl ⟨hA _ _ (fun o k hk => by simp [fAt] at hk; omega) (fun r hr => by simp [rAt] at hr; omega), t8.symm⟩) (Or.inr ?_) ⟨?_, ?_⟩
    · have h1 := hR.2.1
      rw [t1, t10] at h1
      exact (h1.dep hg (hA _ _ (fun o k hk => by simp [fFr] at hk; omega) (fun r hr => by simp [rFr] at hr; omega))).opd hfr
    · obtain ⟨n1, n2, n3, n4, n5, n6⟩ := hNu
      rw [t3] at n1 n2 n4 n5 n6
      refine ⟨by rw [hφf 3 13 (by omega)]; exact n1, by rw [hφf 3 14 (by omega)]; exact n2, ?_, by rw [hφf 3 15 (by omega)]; exact n4, by rw [hφf 3 16 (by omega)]; exact n5, by rw [hφf 5 6 (by omega)]; exact n6⟩
      show _ = ((aN a 3 + 1 : Nat) : Int)
      rw [← hφ, pf_nk (by decide), pf_nk (by decide), ← hχ, pf_nk (by decide), pr_1, ← hψ, pr_1, pr_1, pr_1, pr_1, pr_1, pr_1, pf_eq]
      omega
    · show JEl φ (aL (tch a false) ++ [(nm, par a, (aB a).length, 0, 0, false, false)]) (E :: aO a)
      refine ⟨?_, ?_, fun i hi => ?_⟩
      · rw [← hφ, pf_eq, List.length_append, List.length_singleton, htl]; omega
      · rw [← hφ, pf_nk (by decide), pf_eq]; rfl
      · rw [List.length_append, List.length_singleton, htl] at hi
        rw [getD_snoc, htl]
        by_cases ci : i < E
        · rw [if_pos ci]
          have hi' := hEl.2.2 i (by rw [htl]; exact ci)
          have hrw : ∀ r, r ≠ 136 → φ.2 r i = σ1.2 r i := fun r hr => by
            rw [hφr r i, if_neg (fun z => hr z.1), if_neg (by omega), if_neg (by omega), if_neg (by omega), if_neg (by omega), if_neg (by omega), if_neg (by omega)]
          rw [hrw 146 (by decide), hrw 129 (by decide), hrw 130 (by decide), hrw 131 (by decide), hrw 132 (by decide), hrw 133 (by decide)]
          exact ⟨hi'.1.gr hg, hi'.2⟩
        · have hiE : i = E := by omega
          rw [if_neg ci, if_pos hiE, hiE]
          simp only [hφr]
          refine ⟨?_, ?_, ?_, ?_, ?_, ?_⟩
          · simp; exact (hx.gr hsg).gr hg
          · simp; exact hpar
          · simp
          · simp
          · simp
          · simp [cbt]; decide
    · show JSt φ (aS a ++ [.inl (-3 - (E : Int))])
      refine ⟨?_, ?_, ?_⟩
      · rw [← hφ, pf_nk (by decide), pf_nk (by decide), ← hχ, pf_eq, evl_app]
        rfl
      · rw [hφf 6 16 (by omega), e616, ltr_app]
        show _ = ((ltr (aS a) + (0 + (if (0 : Int) ≤ -3 - (E : Int) then 1 else 0)) : Nat) : Int)
        rw [if_neg (by omega)]
        rfl
      · rw [evl_app]
        have hj := hSt.2.2
        rw [t9] at hj
        refine jev_app hg (aS a) 0 (by omega) hj (fun k hk => ?_) ?_
        · rw [hφr 136 k, if_neg (by omega), if_neg (by omega), if_neg (by omega), if_neg (by omega), if_neg (by omega), if_neg (by omega), if_neg (by omega)]
        · rw [hφr 136 (evl (aS a)), if_pos ⟨rfl, rfl⟩]
    · rw [hφf 2 4 (by omega)]; exact hR.2.2.2.2.2.2.2.2.2.2.2.1
    · rw [hφf 2 6 (by omega)]
      have := hR.2.2.2.2.2.2.2.2.2.2.2.2
      rw [t3] at this
      exact this
  · rw [if_neg (by omega)]
    generalize hφ : pf σ1 6 1 ((aN a 3 : Int) + 1) = φ
    have hφf : ∀ o k, ¬ (o = 6 ∧ k = 1) → φ.1 o k = σ1.1 o k := fun o k hk => by rw [← hφ, pf_1, if_neg hk]
    have hφr : φ.2 = σ1.2 := by rw [← hφ]; rfl
    have hA : ∀ (F : Nat → Nat → Bool) (R : Nat → Bool), F 6 1 = false → ag F R σ1 φ := fun F R z => by rw [← hφ]; exact ag.refl.pf z
    obtain ⟨hZ, hg⟩ := hR.1.out (σ' := φ) (fun o k hk => hφf o k (by omega)) (fun r hr => by rw [hφr])
    refine hq φ (aL (tch a false)) (aB a) (aS a) (aO a) ?_ (fun z => absurd z c) (fun _ => ⟨rfl, rfl, rfl, rfl⟩) (fun o k hk => by rw [hφf o k (by omega)]; exact hf1 o k) (fun r hr => by rw [hφr]; exact hr1 r (by omega))
    refine hR.mk' hln hZ hg (Or.inl ⟨hA _ _ rfl, t1.symm, t10.symm⟩) (Or.inl ⟨hA _ _ rfl, t2.symm, by unfold bsy; rw [t1]; rfl⟩) (Or.inr ?_) (Or.inl ⟨hA _ _ rfl, t4.symm⟩) (Or.inl ⟨hA _ _ rfl, t5.symm⟩) (Or.inl ⟨hA _ _ rfl, t6.symm⟩) (Or.inl ⟨hA _ _ rfl, t7.symm⟩) (Or.inl ⟨hA _ _ rfl, rfl, t10.symm⟩) (Or.inl ⟨hA _ _ rfl, t8.symm⟩) (Or.inl ⟨hA _ _ rfl, t9.symm⟩) ⟨?_, ?_⟩
    · obtain ⟨n1, n2, n3, n4, n5, n6⟩ := hNu
      rw [t3] at n1 n2 n4 n5 n6
      refine ⟨by rw [hφf 3 13 (by omega)]; exact n1, by rw [hφf 3 14 (by omega)]; exact n2, ?_, by rw [hφf 3 15 (by omega)]; exact n4, by rw [hφf 3 16 (by omega)]; exact n5, by rw [hφf 5 6 (by omega)]; exact n6⟩
      show _ = ((aN a 3 + 1 : Nat) : Int)
      rw [← hφ, pf_eq]
      omega
    · rw [hφf 2 4 (by omega)]; exact hR.2.2.2.2.2.2.2.2.2.2.2.1
    · rw [hφf 2 6 (by omega)]
      have := hR.2.2.2.2.2.2.2.2.2.2.2.2
      rw [t3] at this
      exact this
end JI32
