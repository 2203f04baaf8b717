/-! ===== items of the class: the end of a text ===== -/
section JI11
variable {L : Nat → Nat} {rm nd : Nat} {σ τ : IS} {a : AS}
theorem RJ.leave (hln : JLn L rm nd) (h : RJ L rm nd σ a) {f f' : Frm} {t : List Frm} (hF : aF a = f :: f' :: t) (hτ : RJ L rm nd τ (sF a (f' :: t)) → True) (hZ : JZ L rm nd τ) (hg : sgr σ τ) (h1 : JFr τ (f' :: t) (aO a)) (h2 : JEn L τ (aE a) ((f' :: t).map (fun z => z.2.1))) (h13 : τ.1 3 13 = σ.1 3 13) (hag : ag fX rX σ τ) : RJ L rm nd τ (sF a (f' :: t)) := by
  have hA : ∀ (F : Nat → Nat → Bool) (R : Nat → Bool), (∀ o k, F o k = true → fX o k = true) → (∀ r, R r = true → rX r = true) → ag F R σ τ := fun F R x1 x2 => hag.sub x1 x2
  refine h.mk' hln hZ hg (Or.inr h1) (Or.inr h2) (Or.inr ?_) (Or.inl ⟨hA _ _ (fun o k hk => by simp [fRo] at hk; simp [fX]; omega) (fun r hr => by simp [rNo] at hr), rfl⟩) (Or.inl ⟨hA _ _ (fun o k hk => by simp [fEd] at hk; simp [fX]; omega) (fun r hr => by simp [rEd] at hr; simp [rX]; omega), rfl⟩) (Or.inl ⟨hA _ _ (fun o k hk => by simp [fAd] at hk; simp [fX]; omega) (fun r hr => by simp [rAd] at hr; simp [rX]; omega), rfl⟩) (Or.inl ⟨hA _ _ (fun o k hk => by simp [fNt] at hk; simp [fX]; omega) (fun r hr => by simp [rNt] at hr; simp [rX]; omega), rfl⟩) (Or.inl ⟨hA _ _ (fun o k hk => by simp [fEl] at hk; simp [fX]; omega) (fun r hr => by simp [rEl] at hr; simp [rX]; omega), rfl, rfl⟩) (Or.inl ⟨hA _ _ (fun o k hk => by simp [fAt] at hk; simp [fX]; omega) (fun r hr => by simp [rAt] at hr; simp [rX]; omega), rfl⟩) (Or.inl ⟨hA _ _ (fun o k hk => by simp [fSt] at hk; simp [fX]; omega) (fun r hr => by simp [rSt] at hr; simp [rX]; omega), rfl⟩) ⟨by rw [hag.1 2 4 rfl]; exact h.2.2.2.2.2.2.2.2.2.2.2.1, by rw [hag.1 2 6 rfl]; exact h.2.2.2.2.2.2.2.2.2.2.2.2⟩
  obtain ⟨n1, n2, n3, n4, n5, n6⟩ := h.2.2.2.1
  exact ⟨by rw [h13]; exact n1, by rw [hag.1 3 14 rfl]; exact n2, by rw [hag.1 6 1 rfl]; exact n3, by rw [hag.1 3 15 rfl]; exact n4, by rw [hag.1 3 16 rfl]; exact n5, by rw [hag.1 5 6 rfl]; exact n6⟩
set_option maxHeartbeats 1000000 in
theorem jI_fin {Q : Int → IS → Prop} (hln : JLn L rm nd) (h : RJ L rm nd σ a) (hG : GA rm nd a) (hB : GB a) (hC : JC L σ a) (hc : cur a = []) (hq0 : fin a = true → Q 0 σ) (hq1 : fin a = false → (aF a).length = 1 → JO L rm nd σ (Q 0) (iFin a)) (hq2 : 1 < (aF a).length → JO L rm nd σ (Q 1) (iFin a)) : w_Content_finish L Q σ := by
  obtain ⟨p, g, t, hF, hp, hS, hT, htp, hj⟩ := h.at hln
  obtain ⟨gO, gw, ⟨r1, r2, r3, r4⟩, ⟨c1, c2, c3, c4, c5, c6⟩, ⟨b1, b2⟩, gp, ho, ⟨gf1, gf2⟩, g1, g2, g3, g4⟩ := id hG
  have hrm := hln.2.1
  have hEl := h.2.2.2.2.2.2.2.2.1
  have h56 : σ.1 5 6 = if aN a 4 = 1 then 1 else 0 := h.2.2.2.1.2.2.2.2.2
  have h12 : σ.1 3 12 = (t.length : Int) := by have := h.2.1; rw [hF] at this; exact this.get.1
  have h4 : σ.1 2 4 = 0 := h.2.2.2.2.2.2.2.2.2.2.2.1
  unfold w_Content_finish
  cases t with
  | nil =>
    rw [if_pos (by rw [h12]; rfl)]
    refine WJ_dir ?_
    dsimp only
    rw [h56, hEl.1, hEl.2.1]
    have hiF : iFin a = .inl 6 := by unfold iFin; rw [hF]
    by_cases c : aN a 4 = 3
    · have hO : aO a = [] := by
        by_cases z : aO a = []
        · exact z
        · have := gp.2.1.mpr z; omega
      have hL : 0 < (aL a).length := List.length_pos_iff.mpr (hB.2.2 c)
      rw [if_neg (by rw [if_neg (by omega), hO]; show ¬ (¬ (0 : Int) = 0 ∨ (¬ (-1 : Int) = -1 ∨ ((aL a).length : Int) = 0)); omega)]
      refine hq0 ?_
      unfold fin
      rw [hc, hF, c]
      rfl
    · have hfa : fin a = false := by
        unfold fin
        have : (aN a 4 == 3) = false := by simp [c]
        rw [this, Bool.and_false]
      have hb := h.ft (n := 6) (by decide)
      rw [if_pos]
      · exact sp_Reader_fail ((hq1 hfa (by rw [hF]; rfl)).1 6 hiF _ hb)
      · by_cases c1 : aN a 4 = 1
        · left; rw [if_pos c1]; decide
        · right
          by_cases c2 : aN a 4 = 2
          · left
            cases hO : aO a with
            | nil => exact absurd hO (gp.2.1.mp c2)
            | cons e r => show ¬ (e : Int) = -1; omega
          · right
            rw [g1 (by omega)]
            rfl
  | cons f t =>
    rw [if_neg (by rw [h12, List.length_cons]; omega)]
    have hlen := gO.len
    rw [hF, List.length_cons, List.length_cons] at hlen
    have hfr : JFr σ ((cur a, g) :: f :: t) (aO a) := by have := h.2.1; rw [hF] at this; exact this
    have hen : JEn L σ (aE a) (((cur a, g) :: f :: t).map (fun z => z.2.1)) := by have := h.2.2.1; unfold bsy at this; rw [hF] at this; exact this
    have hgg : 0 < g.1 ∧ g.1 ≤ (aE a).length ∧ ¬ g.1 ∈ (f :: t).map (fun z => z.2.1) := by
      have := gw 0 (by rw [hF, List.length_cons, List.length_cons]; omega)
      rw [hF] at this gO
      have hnd := gO.1
      rw [List.map_cons, List.nodup_cons] at hnd
      exact ⟨this, gO.2 (cur a, g) List.mem_cons_self, hnd.1⟩
    have hgl : g.2 ≤ (aO a).length := gf1 (cur a, g) (by rw [hF]; exact List.mem_cons_self)
    have h12l : 1 < (aF a).length := by rw [hF, List.length_cons, List.length_cons]; omega
    have hph := g3 h12l
    have hJO := hq2 h12l
    have hiF : iFin a = if aN a 4 = 2 ∧ (aO a).length ≠ g.2 then .inl 14 else .inr (sF a (f :: t)) := by
      unfold iFin; rw [hF]
    refine sp_before hln hfr (by rw [List.length_cons]; omega) (fun z => by cases z) ?_
    have hopn : (opn (aO a) = els (aO a) g.2) ↔ ¬ (aN a 4 = 2 ∧ (aO a).length ≠ g.2) := by
      cases hO : aO a with
      | nil =>
        rw [hO] at hgl
        have h0 : g.2 = 0 := by simpa using hgl
        rw [h0]
        exact ⟨fun _ z => z.2 rfl, fun _ => rfl⟩
      | cons e r =>
        rw [hO] at hgl ho
        rw [List.length_cons] at hgl ⊢
        have h2 : aN a 4 = 2 := gp.2.1.mpr (by rw [hO]; simp)
        by_cases c : g.2 = r.length + 1
        · rw [c, els_all]
          exact ⟨fun _ z => z.2 rfl, fun _ => rfl⟩
        · constructor
          · intro z
            exact absurd z.symm (els_ne ho.2.2.1 (by omega))
          · intro z
            exact absurd ⟨h2, fun y => c y.symm⟩ z
    refine WJ_dir ?_
    dsimp only
    rw [hEl.2.1]
    by_cases cc : aN a 4 = 2 ∧ (aO a).length ≠ g.2
    · rw [if_neg (fun z => hopn.mp z cc)]
      rw [if_pos cc] at hiF
      have hb := h.ft (n := 14) (by decide)
      refine sp_Reader_fail ?_
      have hag0 : ∀ (F : Nat → Nat → Bool) (R : Nat → Bool), F 2 4 = false → ag F R σ (flt σ (14 : Int)) := fun F R x => by rw [flt_val h4]; exact ag.refl.pf x
      obtain ⟨z1, z2⟩ := h.1.out (σ' := flt σ (14 : Int)) (fun o k hk => by rw [flt_val h4, pf_1, if_neg (by omega)]) (fun _ _ => by rw [flt_val h4]; rfl)
      refine sp_leave hln z1 (hfr.dep z2 (hag0 _ _ rfl)) (hen.dep z2 z1.1 hln.1 (hag0 _ _ rfl)) hgg (by omega) (by omega) (fun σ' hF' hE' h13 hag hZ' hg' _ => ?_)
      refine hJO.1 14 hiF σ' ⟨hZ', by rw [hag.1 2 4 rfl]; exact hb.2.1, by decide, by rw [hag.1 2 5 rfl]; exact hb.2.2.2.1, fun r hr w w1 w2 => ?_⟩
      rw [hag.2 r (by rcases hr with rfl | rfl | rfl | rfl | rfl <;> rfl)]
      have : jw σ' = jw (flt σ (14 : Int)) := by unfold jw; rw [hag.1 1 14 rfl]
      have w1' : jw (flt σ (14 : Int)) ≤ w := by rw [← this]; exact w1
      exact hb.2.2.2.2 r hr w w1' w2
    · rw [if_pos (hopn.mpr cc)]
      rw [if_neg cc] at hiF
      refine sp_leave hln h.1 hfr hen hgg (by omega) (by omega) (fun σ' hF' hE' h13 hag hZ' hg' _ => ?_)
      have hR := h.leave hln hF (fun _ => trivial) hZ' hg' hF' hE' h13 hag
      refine hJO.2 _ hiF σ' hR ?_ (by rw [hag.1 2 5 rfl])
      have hrem : rem (sF a (f :: t)) = rem a := by
        unfold rem
        have e : aF (sF a (f :: t)) = f :: t := rfl
        rw [e, hF, hc]
        simp
      have j1 : jw σ' = jw σ := by unfold jw; rw [hag.1 1 14 rfl]
      have j2 : jtp σ' = jtp σ := by unfold jtp; rw [hag.1 1 3 rfl]
      unfold JC at hC ⊢
      rw [hrem, j1, j2, hag.1 1 2 rfl, hag.1 4 16 rfl, hag.1 1 16 rfl]
      exact hC
end JI11
