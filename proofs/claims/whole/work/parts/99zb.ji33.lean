/-! ===== items of the class: tags (2): an attribute is added ===== -/
/-- an element with an attribute more -/
def elp (g : Nat) (x : Elm) : Elm := (x.1, x.2.1, x.2.2.1, x.2.2.2.1 + 1, x.2.2.2.2.1 + g, x.2.2.2.2.2)
section JI33
variable {L : Nat → Nat} {rm nd : Nat} {σ τ : IS} {a : AS} {Q : IS → Prop}
theorem getD_mod {α : Type} {l : List α} {f : α → α} {d : α} {e i : Nat} (hi : i < l.length) : (l.modify e f).getD i d = if e = i then f (l.getD i d) else l.getD i d := by
  rw [List.getD_eq_getElem?_getD, List.getD_eq_getElem?_getD, List.getElem?_modify, List.getElem?_eq_getElem hi]
  by_cases c : e = i
  · rw [if_pos c]
    simp [c]
  · rw [if_neg c]
    simp [c]
theorem sp_addAtt {x v d g : Int} {nm vl : Str} {od : Option Nat} {gn : Nat} (hln : JLn L rm nd) (h : RJ L rm nd σ a) (hn : (aL a).length ≤ nd) (hb : (aB a).length ≤ nd) (hn3 : aN a 3 ≤ 300000) (ho : ∀ e r, aO a = e :: r → e < (aL a).length ∧ ((aL a).getD e elD).2.2.2.1 ≤ 300000 ∧ ((aL a).getD e elD).2.2.2.2.1 ≤ 300000) (hx : Jn σ x nm) (hv : Jn σ v vl) (hd : d + 1 = en1 od) (hg : g = (gn : Int)) (hgn : gn ≤ 1)
    (hq : ∀ σ' L' B', RJ L rm nd σ' (trr a (aN a 3 + 1) L' B' (aS a) (aO a)) → ((∃ e r, aO a = e :: r ∧ (aB a).length < nd ∧ L' = (aL a).modify e (elp gn) ∧ B' = aB a ++ [(nm, vl, od)]) ∨ ((aO a = [] ∨ ¬ (aB a).length < nd) ∧ L' = aL a ∧ B' = aB a)) → (∀ o k, o ≠ 6 → σ'.1 o k = σ.1 o k) → (∀ r, r < 129 ∨ (136 < r ∧ r ≠ 146 ∧ r ≠ 161) → σ'.2 r = σ.2 r) → Q σ') : w_Tree_addAttribute L x v d g Q σ := by
  have hrm := hln.2.1
  obtain ⟨hLr, h146, h161⟩ := hln.2.2.2.2.2.2.2.2.2.2.1
  have h131 := hLr 131 (by omega) (by omega)
  have h132 := hLr 132 (by omega) (by omega)
  have h134 := hLr 134 (by omega) (by omega)
  have h135 := hLr 135 (by omega) (by omega)
  have hEl := h.2.2.2.2.2.2.2.2.1
  have hAt := h.2.2.2.2.2.2.2.2.2.1
  have hSt := h.2.2.2.2.2.2.2.2.2.2.1
  have hNu := h.2.2.2.1
  have e61 : σ.1 6 1 = (aN a 3 : Int) := hNu.2.2.1
  have e60 : σ.1 6 0 = (nd : Int) := h.1.2.2.2.1.2.2
  have e63 : σ.1 6 3 = opn (aO a) := hEl.2.1
  have e610 : σ.1 6 10 = ((aB a).length : Int) := hAt.1
  unfold w_Tree_addAttribute
  rw [e61, e610, e60, e63]
  refine ⟨⟨by omega, by omega⟩, WJ_dir ?_⟩
  dsimp only
  -- only the count of nodes
  have hno : (aO a = [] ∨ ¬ (aB a).length < nd) → Q (pf σ 6 1 ((aN a 3 : Int) + 1)) := by
    intro hc
    generalize hφ : pf σ 6 1 ((aN a 3 : Int) + 1) = φ
    have hφf : ∀ o k, ¬ (o = 6 ∧ k = 1) → φ.1 o k = σ.1 o k := fun o k hk => by rw [← hφ, pf_1, if_neg hk]
    have hφr : φ.2 = σ.2 := by rw [← hφ]; rfl
    have hA : ∀ (F : Nat → Nat → Bool) (R : Nat → Bool), F 6 1 = false → ag F R σ φ := fun F R z => by rw [← hφ]; exact ag.refl.pf z
    obtain ⟨hZ, hgr⟩ := h.1.out (σ' := φ) (fun o k hk => hφf o k (by omega)) (fun r hr => by rw [hφr])
    refine hq φ (aL a) (aB a) ?_ (Or.inr ⟨hc, rfl, rfl⟩) (fun o k hk => hφf o k (by omega)) (fun r hr => by rw [hφr])
    refine h.mk' hln hZ hgr (Or.inl ⟨hA _ _ rfl, rfl, rfl⟩) (Or.inl ⟨hA _ _ rfl, rfl, rfl⟩) (Or.inr ?_) (Or.inl ⟨hA _ _ rfl, rfl⟩) (Or.inl ⟨hA _ _ rfl, rfl⟩) (Or.inl ⟨hA _ _ rfl, rfl⟩) (Or.inl ⟨hA _ _ rfl, rfl⟩) (Or.inl ⟨hA _ _ rfl, rfl, rfl⟩) (Or.inl ⟨hA _ _ rfl, rfl⟩) (Or.inl ⟨hA _ _ rfl, rfl⟩) ⟨?_, ?_⟩
    · obtain ⟨n1, n2, n3, n4, n5, n6⟩ := hNu
      refine ⟨by rw [hφf 3 13 (by omega)]; exact n1, by rw [hφf 3 14 (by omega)]; exact n2, ?_, by rw [hφf 3 15 (by omega)]; exact n4, by rw [hφf 3 16 (by omega)]; exact n5, by rw [hφf 5 6 (by omega)]; exact n6⟩
      show _ = ((aN a 3 + 1 : Nat) : Int)
      rw [← hφ, pf_eq]
      omega
    · rw [hφf 2 4 (by omega)]; exact h.2.2.2.2.2.2.2.2.2.2.2.1
    · rw [hφf 2 6 (by omega)]; exact h.2.2.2.2.2.2.2.2.2.2.2.2
  cases hO : aO a with
  | nil =>
    rw [if_neg (fun z => z.2 rfl)]
    exact hno (Or.inl hO)
  | cons e r =>
    have hop : opn (e :: r) = (e : Int) := rfl
    rw [hop]
    by_cases c : (aB a).length < nd
    · obtain ⟨he, k1, k2⟩ := ho e r hO
      have hie := hEl.2.2 e he
      rw [if_pos ⟨by omega, by omega⟩, show Int.toNat ((aB a).length : Int) = (aB a).length by omega, show Int.toNat (e : Int) = e by omega, hie.2.2.2.1, hie.2.2.2.2.1]
      refine ⟨⟨by omega, by omega⟩, ⟨by omega, by omega⟩, ⟨by omega, by omega⟩, ⟨by omega, by omega⟩, ⟨by omega, by omega⟩, ⟨by omega, by omega⟩, ⟨by omega, by omega⟩, ?_⟩
      generalize hE : (aB a).length = E at *
      -- the state, whatever g is
      have hst : ∀ φ : IS, (∀ o k, ¬ (o = 6 ∧ (k = 1 ∨ k = 10)) → φ.1 o k = σ.1 o k) → φ.1 6 1 = (aN a 3 : Int) + 1 → φ.1 6 10 = (E : Int) + 1 → (∀ r j, φ.2 r j = if r = 132 ∧ j = e then (((aL a).getD e elD).2.2.2.2.1 : Int) + (gn : Int) else if r = 131 ∧ j = e then (((aL a).getD e elD).2.2.2.1 : Int) + 1 else if r = 135 ∧ j = E then d else if r = 134 ∧ j = E then v else if r = 161 ∧ j = E then x else σ.2 r j) → Q φ := by
        intro φ hφf f1 f10 hφr
        have hφr2 : ∀ r, r ≠ 131 → r ≠ 132 → r ≠ 134 → r ≠ 135 → r ≠ 161 → φ.2 r = σ.2 r := fun r z1 z2 z3 z4 z5 => funext (fun j => by
          rw [hφr r j, if_neg (fun z => z2 z.1), if_neg (fun z => z1 z.1), if_neg (fun z => z4 z.1), if_neg (fun z => z3 z.1), if_neg (fun z => z5 z.1)])
        have hA : ∀ (F : Nat → Nat → Bool) (R : Nat → Bool), F 6 1 = false → F 6 10 = false → R 131 = false → R 132 = false → R 134 = false → R 135 = false → R 161 = false → ag F R σ φ := fun F R z1 z2 z3 z4 z5 z6 z7 => ⟨fun o k hk => hφf o k (by rintro ⟨rfl, rfl | rfl⟩ <;> simp_all), fun r hr => hφr2 r (by rintro rfl; simp_all) (by rintro rfl; simp_all) (by rintro rfl; simp_all) (by rintro rfl; simp_all) (by rintro rfl; simp_all)⟩
        obtain ⟨hZ, hgr⟩ := h.1.out (σ' := φ) (fun o k hk => hφf o k (by omega)) (fun r hr => hφr2 r (by omega) (by omega) (by omega) (by omega) (by omega))
        refine hq φ ((aL a).modify e (elp gn)) (aB a ++ [(nm, vl, od)]) ?_ (Or.inl ⟨e, r, hO, c, rfl, rfl⟩) (fun o k hk => hφf o k (by omega)) (fun r hr => hφr2 r (by omega) (by omega) (by omega) (by omega) (by omega))
        refine h.mk' hln hZ hgr (Or.inl ⟨hA _ _ rfl rfl rfl rfl rfl rfl rfl, rfl, by rw [hO]; rfl⟩) (Or.inl ⟨hA _ _ rfl rfl rfl rfl rfl rfl rfl, rfl, rfl⟩) (Or.inr ?_) (Or.inl ⟨hA _ _ rfl rfl rfl rfl rfl rfl rfl, rfl⟩) (Or.inl ⟨hA _ _ rfl rfl rfl rfl rfl rfl rfl, rfl⟩) (Or.inl ⟨hA _ _ rfl rfl rfl rfl rfl rfl rfl, rfl⟩) (Or.inl ⟨hA _ _ rfl rfl rfl rfl rfl rfl rfl, rfl⟩) (Or.inr ?_) (Or.inr ?_) (Or.inl ⟨hA _ _ rfl rfl rfl rfl rfl rfl rfl, rfl⟩) ⟨?_, ?_⟩
        · obtain ⟨n1, n2, n3, n4, n5, n6⟩ := hNu
          refine ⟨by rw [hφf 3 13 (by omega)]; exact n1, by rw [hφf 3 14 (by omega)]; exact n2, ?_, by rw [hφf 3 15 (by omega)]; exact n4, by rw [hφf 3 16 (by omega)]; exact n5, by rw [hφf 5 6 (by omega)]; exact n6⟩
          show _ = ((aN a 3 + 1 : Nat) : Int)
          rw [f1]
          omega
        · show JEl φ ((aL a).modify e (elp gn)) (aO a)
          refine ⟨by rw [hφf 6 2 (by omega), List.length_modify]; exact hEl.1, by rw [hφf 6 3 (by omega)]; exact hEl.2.1, fun i hi => ?_⟩
          rw [List.length_modify] at hi
          have hi' := hEl.2.2 i hi
          rw [getD_mod hi, hφr2 146 (by omega) (by omega) (by omega) (by omega) (by omega), hφr2 129 (by omega) (by omega) (by omega) (by omega) (by omega), hφr2 130 (by omega) (by omega) (by omega) (by omega) (by omega), hφr2 133 (by omega) (by omega) (by omega) (by omega) (by omega)]
          by_cases ci : e = i
          · subst ci
            rw [if_pos rfl, hφr 131 e, hφr 132 e, if_neg (by omega), if_pos ⟨rfl, rfl⟩, if_pos ⟨rfl, rfl⟩]
            refine ⟨hi'.1.gr hgr, hi'.2.1, hi'.2.2.1, ?_, ?_, hi'.2.2.2.2.2⟩
            · show _ = ((((aL a).getD e elD).2.2.2.1 + 1 : Nat) : Int)
              omega
            · show _ = ((((aL a).getD e elD).2.2.2.2.1 + gn : Nat) : Int)
              omega
          · rw [if_neg ci, hφr 131 i, hφr 132 i, if_neg (by omega), if_neg (by omega), if_neg (by omega), if_neg (by omega), if_neg (by omega), if_neg (by omega), if_neg (by omega), if_neg (by omega), if_neg (by omega), if_neg (by omega)]
            exact ⟨hi'.1.gr hgr, hi'.2⟩
        · show JAt φ (aB a ++ [(nm, vl, od)])
          refine ⟨by rw [f10, List.length_append, List.length_singleton, hE]; omega, fun i hi => ?_⟩
          rw [List.length_append, List.length_singleton, hE] at hi
          rw [getD_snoc, hE]
          by_cases ci : i < E
          · rw [if_pos ci]
            have hi' := hAt.2 i (by rw [hE]; exact ci)
            rw [hφr 161 i, hφr 134 i, hφr 135 i, if_neg (by omega), if_neg (by omega), if_neg (by omega), if_neg (by omega), if_neg (by omega), if_neg (by omega), if_neg (by omega), if_neg (by omega), if_neg (by omega), if_neg (by omega), if_neg (by omega), if_neg (by omega), if_neg (by omega), if_neg (by omega), if_neg (by omega)]
            exact ⟨hi'.1.gr hgr, hi'.2.1.gr hgr, hi'.2.2⟩
          · have hiE : i = E := by omega
            rw [if_neg ci, if_pos hiE, hiE]
            simp only [hφr]
            refine ⟨?_, ?_, ?_⟩
            · simp; exact hx.gr hgr
            · simp; exact hv.gr hgr
            · simp; exact hd
        · rw [hφf 2 4 (by omega)]; exact h.2.2.2.2.2.2.2.2.2.2.2.1
        · rw [hφf 2 6 (by omega)]; exact h.2.2.2.2.2.2.2.2.2.2.2.2
      by_cases cg : g = 0
      · rw [if_pos cg]
        have hg0 : gn = 0 := by omega
        refine hst _ (fun o k hk => ?_) ?_ ?_ (fun r j => ?_)
        · rw [pr_1, pf_1, if_neg (by omega), pr_1, pr_1, pr_1, pf_1, if_neg (by omega)]
        · rw [pr_1, pf_nk (by decide), pr_1, pr_1, pr_1, pf_eq]
        · rw [pr_1, pf_eq]
        · rw [pr_2, pf_2, pr_2, pr_2, pr_2, pf_2]
          by_cases c2 : r = 132 ∧ j = e
          · rw [if_pos c2, if_neg (by omega), if_neg (by omega), if_neg (by omega), if_neg (by omega), c2.1, c2.2, hie.2.2.2.2.1, hg0]
            rfl
          · rw [if_neg c2]
      · rw [if_neg cg]
        have hg0 : gn = 1 := by omega
        refine ⟨⟨by omega, by omega⟩, ?_⟩
        have e132 : (pr (pf (pr (pr (pr (pf σ 6 1 ((aN a 3 : Int) + 1)) 161 E x) 134 E v) 135 E d) 6 10 ((E : Int) + 1)) 131 e ((((aL a).getD e elD).2.2.2.1 : Int) + 1)).2 132 e = (((aL a).getD e elD).2.2.2.2.1 : Int) := by
          rw [pr_2, if_neg (by omega), pf_2, pr_2, if_neg (by omega), pr_2, if_neg (by omega), pr_2, if_neg (by omega), pf_2, hie.2.2.2.2.1]
        try rw [e132]
        refine ⟨⟨by omega, by omega⟩, ⟨by omega, by omega⟩, ?_⟩
        refine hst _ (fun o k hk => ?_) ?_ ?_ (fun r j => ?_)
        · rw [pr_1, pr_1, pf_1, if_neg (by omega), pr_1, pr_1, pr_1, pf_1, if_neg (by omega)]
        · rw [pr_1, pr_1, pf_nk (by decide), pr_1, pr_1, pr_1, pf_eq]
        · rw [pr_1, pr_1, pf_eq]
        · rw [pr_2, pr_2, pf_2, pr_2, pr_2, pr_2, pf_2, hg0]
          rfl
    · rw [if_neg (fun z => c (by omega))]
      exact hno (Or.inr c)
end JI33
