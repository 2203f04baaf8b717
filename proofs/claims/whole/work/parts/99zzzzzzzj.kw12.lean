/-! ===== room (12): strings that are kept, item by item (pure) ===== -/
section KwC
variable {rm nd : Nat} {a a' : AS} {X X' : TT} {bk M V U : List Str}
/-- what a tag leaves -/
theorem iTag_at (h : iTag rm nd a = .inr a') : ∃ k n κ c m gv, tgk (gd (cur a)) (cur a).length 0 = some k ∧ nmg (gd (cur a)) (cur a).length true (some 1) = some n ∧ atk (gd (cur a)) (cur a).length ((cur a).length + 1) n = some κ ∧ (1 < n ∧ n ≤ κ ∧ κ < k ∧ k ≤ (cur a).length) ∧ gvs rm a (gd (cur a)) (sl (gd (cur a)) 1 (n - 1)) (atL (gd (cur a)) (cur a).length ((cur a).length + 1) n) (aN a 0) (aN a 1) [] = .inr (c, m, gv) ∧ aN a' 0 = c ∧ aA a' = aA a ∧ (aL a').map e5 = (aL a).map e5 ++ [(sl (gd (cur a)) 1 (n - 1), par a, (aB a).length, (gv ++ dfl (aA a) (sl (gd (cur a)) 1 (n - 1)) gv).length, gv.length)] ∧ aB a' = aB a ++ (gv ++ dfl (aA a) (sl (gd (cur a)) 1 (n - 1)) gv) := by
  unfold iTag at h
  split at h
  · rename_i k n hk hn
    obtain ⟨n', κ, h1, h2, h3, h4, h5, h6⟩ := tgk_at hk
    rw [hn] at h1
    cases h1
    split at h
    · cases h
    · rename_i c m gv hg
      split at h
      · cases h
      · have hr := Sum.inr.inj h
        have hL : (aL (tch a false)).map e5 = (aL a).map e5 := (S0.tchE (a := a) (b := false)).1
        have key : ∀ b : AS, aN b 0 = c → aA b = aA (nel a (sl (gd (cur a)) 1 (n - 1)) gv (gv ++ dfl (aA a) (sl (gd (cur a)) 1 (n - 1)) gv) k c m) → aL b = aL (nel a (sl (gd (cur a)) 1 (n - 1)) gv (gv ++ dfl (aA a) (sl (gd (cur a)) 1 (n - 1)) gv) k c m) → aB b = aB (nel a (sl (gd (cur a)) 1 (n - 1)) gv (gv ++ dfl (aA a) (sl (gd (cur a)) 1 (n - 1)) gv) k c m) → aN b 0 = c ∧ aA b = aA a ∧ (aL b).map e5 = (aL a).map e5 ++ [(sl (gd (cur a)) 1 (n - 1), par a, (aB a).length, (gv ++ dfl (aA a) (sl (gd (cur a)) 1 (n - 1)) gv).length, gv.length)] ∧ aB b = aB a ++ (gv ++ dfl (aA a) (sl (gd (cur a)) 1 (n - 1)) gv) := by
          intro b q0 q1 q2 q3
          refine ⟨q0, ?_, ?_, q3⟩
          · rw [q1]
            show aA (adv (tch a false) k) = aA a
            rw [(adv_other (a := tch a false)).2.2.2.2.1, tch_other.2.2.2.2.2.1]
          · rw [q2]
            show ((aL (tch a false)) ++ [_]).map e5 = _
            rw [List.map_append, hL]
            rfl
        refine ⟨k, n, κ, c, m, gv, hk, hn, h2, ⟨h3, h4, h5, h6⟩, hg, ?_⟩
        rw [← hr]
        split
        · refine key _ ?_ ?_ ?_ ?_
          · rw [cls_F.2.2.2]; rfl
          · unfold cls; split <;> rfl
          · unfold cls; split <;> rfl
          · unfold cls; split <;> rfl
        · exact key _ rfl rfl rfl rfl
  · cases h
theorem iAtl_at (h9 : 9 ≤ (cur a).length) (h : iAtl rm a = .inr a') : ∃ k s n κ c m ad, alk (gd (cur a)) (cur a).length 0 = some k ∧ spc (gd (cur a)) (cur a).length (some 9) = some s ∧ nmg (gd (cur a)) (cur a).length true (some s) = some n ∧ adk (gd (cur a)) (cur a).length ((cur a).length + 1) n = some κ ∧ (10 ≤ s ∧ s < n ∧ n ≤ κ ∧ κ < k ∧ k ≤ (cur a).length) ∧ dfs rm a (gd (cur a)) (cur a).length (sl (gd (cur a)) s (n - s)) (adL (gd (cur a)) (cur a).length ((cur a).length + 1) n) (aN a 0) (aN a 1) (aA a) = .inr (c, m, ad) ∧ a' = adv (sN (sN (sA a ad) 0 c) 1 m) k := by
  unfold iAtl at h
  split at h
  · rename_i s k hs hk
    obtain ⟨s', n', κ, h1, h2, h3, h4, h5, h6, h7, h8⟩ := alk_at h9 hk
    rw [hs] at h1
    cases h1
    rw [h2] at h
    dsimp only at h
    split at h
    · cases h
    · rename_i c m ad hd
      cases h
      exact ⟨k, s, n', κ, c, m, ad, hk, hs, h2, h3, ⟨h4, h5, h6, h7, h8⟩, hd, rfl⟩
  · cases h
/-- all other items leave declared attributes, elements and attributes as they are -/
theorem pl_S (h1 : ¬ isTg a) (h2 : ¬ isAl a) (hs : stp rm nd a = .inr a') : (aL a').map e5 = (aL a).map e5 ∧ aB a' = aB a ∧ aA a' = aA a := by
  have k3 : ∀ {a'}, S0 a a' → (aL a').map e5 = (aL a).map e5 ∧ aB a' = aB a ∧ aA a' = aA a := fun h => ⟨h.1, h.2.1, h.2.2.1⟩
  by_cases hc : cur a = []
  · unfold stp at hs; rw [if_pos hc] at hs; exact k3 (pH_fin hs)
  · unfold stp at hs
    rw [if_neg hc] at hs
    by_cases p1 : aN a 4 = 1
    · rw [if_pos p1, iSub_d] at hs
      rcases dSub_c (a := a) with ⟨d, h⟩ | ⟨d, h⟩ | ⟨d, h⟩ | d | ⟨d, h⟩ | ⟨d, h⟩ | ⟨d, h⟩ | ⟨d, h⟩ | ⟨d, h⟩ | d <;> rw [d] at hs
      · exact k3 (pH_spc hs)
      · exact k3 (pH_prf hs)
      · exact k3 (pH_sbe hs)
      · exact k3 (pH_cmt hs)
      · exact k3 (pH_pin (cn := false) hs)
      · have hs' : iEld a = .inr a' := hs
        unfold iEld at hs'
        split at hs'
        · split at hs'
          · split at hs'
            · cases hs'
            · cases hs'
              obtain ⟨-, -, -, -, o5, -, o7, o8, -⟩ := adv_other (a := sD a (aD a ++ [_])) (k := _)
              rw [o5, o7, o8]
              exact ⟨rfl, rfl, rfl⟩
          · cases hs'
        · cases hs'
      · exact absurd ⟨hc, p1, d⟩ h2
      · exact k3 (pH_ent hs)
      · exact k3 (pH_not hs)
      · cases hs
    · rw [if_neg p1] at hs
      by_cases p2 : aN a 4 = 2
      · rw [if_pos p2, iCon_d] at hs
        rcases dCon_c (a := a) with ⟨d, h⟩ | ⟨d, n38, n60⟩ | ⟨d, h⟩ | d | ⟨d, h⟩ | ⟨d, h⟩ | d | ⟨d, h⟩ <;> rw [d] at hs
        · exact k3 (pH_ref hs)
        · exact k3 (pH_run hs)
        · exact k3 (pH_end hs)
        · exact k3 (pH_cmt hs)
        · exact k3 (pH_pin (cn := true) hs)
        · exact k3 (pH_sec hs)
        · cases hs
        · exact absurd ⟨hc, Or.inl ⟨p2, d⟩⟩ h1
      · rw [if_neg p2, iOut_d] at hs
        rcases dOut_c (a := a) with ⟨d, h⟩ | d | ⟨d, h⟩ | d | ⟨d, h⟩ | ⟨d, h, -⟩ <;> rw [d] at hs
        · exact k3 (pH_spc hs)
        · exact k3 (pH_cmt hs)
        · exact k3 (pH_pin (cn := true) hs)
        · cases hs
        · exact absurd ⟨hc, Or.inr ⟨p1, p2, d⟩⟩ h1
        · exact k3 (pH_dtd hs)
theorem GR.stpE (hG : GI rm nd a) (h : GR a bk X M V U) (hX : tle X X') (hk : tle (tk a) X') (hs : stp rm nd a = .inr a') : ∃ M' V' U', GR a' (kpL bk (stN rm a)) X' M' V' U' := by
  obtain ⟨⟨m1, m2⟩, b1', ⟨v1, v2⟩, hA, hL, hB⟩ := h
  have hMk : ∀ s ∈ kpL M (tkN a), s ∈ X'.1 := fun s hs => by
    rcases kpL_mem.mp hs with z | z
    · exact hX.1 s (m2 s z)
    · exact hk.1 s z
  have hMM : ∀ s ∈ M, s ∈ kpL M (tkN a) := fun s hs => kpL_mem.mpr (Or.inl hs)
  have hMN : ∀ s ∈ tkN a, s ∈ kpL M (tkN a) := fun s hs => kpL_mem.mpr (Or.inr hs)
  have hMl := kpL_lt (l := tkN a) (bk := M)
  by_cases hc : cur a = []
  · have e1 : stN rm a = [] := by unfold stN; rw [if_pos hc]
    have hs' : iFin a = .inr a' := by unfold stp at hs; rw [if_pos hc] at hs; exact hs
    obtain ⟨s1, s2, s3⟩ := pl_S (fun z => z.1 hc) (fun z => z.1 hc) hs
    have hrm : rem a' = rem a ∧ aN a' 0 = aN a 0 := by
      unfold iFin at hs'
      cases hF : aF a with
      | nil => rw [hF] at hs'; cases hs'
      | cons f t =>
        cases t with
        | nil => rw [hF] at hs'; cases hs'
        | cons x r =>
          rw [hF] at hs'
          dsimp only at hs'
          split at hs'
          · cases hs'
          · cases hs'
            have hf : f.1 = [] := by unfold cur at hc; rw [hF] at hc; exact hc
            refine ⟨?_, rfl⟩
            unfold rem
            rw [hF]
            show ((x :: r).map _).sum = _
            simp [hf]
    rw [e1, kpL_nil]
    exact ⟨M, V, U, ⟨m1, fun s hs => hX.1 s (m2 s hs)⟩, b1', ⟨by rw [hrm.1, hrm.2]; exact v1, by rw [hrm.1, hrm.2]; exact v2⟩, by rw [s3]; exact fun x hx => ⟨⟨(hA x hx).1.1, (hA x hx).1.2.1, (hA x hx).1.2.2.1, (hA x hx).1.2.2.2.1, hX.2.1 _ (hA x hx).1.2.2.2.2⟩, (hA x hx).2⟩, by rw [s1]; exact hL, by rw [s2]; exact hB⟩
  obtain ⟨q, t, hF⟩ := cur_F hc
  obtain ⟨k, hkk, -, -, -, hbud⟩ := stp_frm hs hc hF
  obtain ⟨w1, w2, w3⟩ := itm_W hc
  obtain ⟨k0, k1, k2, k3⟩ := w1 k hkk
  have hWl := ltS_W (l := tkN a)
  by_cases ht : isTg a
  · obtain ⟨t1, t2, t3, t4, t5, t6⟩ := tg_N (rm := rm) (nd := nd) ht
    rw [t6] at hs
    obtain ⟨k', n, κ, c, m, gv, y1, y2, y3, ⟨y4, y5, y6, y7⟩, y8, y9, y10, y11, y12⟩ := iTag_at hs
    rw [t5, y1] at hkk
    cases hkk
    obtain ⟨new, z1, z2, z3, z4, z5, z6⟩ := gvs_new _ n κ _ _ _ (by omega) y3 y8
    rw [List.nil_append] at z1
    subst z1
    generalize hel : sl (gd (cur a)) 1 (n - 1) = el at *
    have hell : el.length = n - 1 := by rw [← hel, sl_ln]
    have hN : tkN a = el :: gv.map (fun x => x.1) := by
      rw [t1]; unfold nmTs; rw [y1, y2]; dsimp only; rw [hel, z2]
    have hS : stN rm a = el :: (gnl (gv.map (fun x => x.1)) ++ (dfl (aA a) el gv).flatMap (fun z => plk z.1)) := by
      rw [t2]; unfold nmT; rw [y1, y2]; dsimp only; rw [hel, y8, z2]
    rw [hN] at hMl hMk hMN
    rw [hN]  at hMM
    have hpe : 2 * (1 + ((plk el).take 1).length) ≤ el.length + 1 := by
      have p1 := plk_two (s := el)
      rw [List.length_take]
      by_cases c : plk el = []
      · rw [c, List.length_nil]; omega
      · have := okq_3 (p1.2 c); omega
    rw [ltS_cons] at hMl
    rw [← z2] at z4
    refine ⟨kpL M (el :: gv.map (fun x => x.1)), V ++ gv.map (fun x => x.2.1), U ++ (el :: ((plk el).take 1 ++ auL gv)), ⟨kpL_nd m1, hMk⟩, fun s hs => ?_, ⟨?_, ?_⟩, ?_, ?_, ?_⟩
    · have hU0 : ∀ s ∈ bk, s ∈ LLm (kpL M (el :: gv.map (fun x => x.1))) ∧ s ∈ U ++ (el :: ((plk el).take 1 ++ auL gv)) := fun s hs => ⟨LLm_sub hMM (b1' s hs).1, List.mem_append_left _ (b1' s hs).2⟩
      rw [hS] at hs
      rcases kpL_mem.mp hs with z | z
      · exact hU0 s z
      · rcases List.mem_cons.mp z with z | z
        · rw [z]
          exact ⟨LLm_mem (hMN el List.mem_cons_self), List.mem_append_right _ List.mem_cons_self⟩
        · rcases List.mem_append.mp z with z | z
          · unfold gnl at z
            obtain ⟨x, r1, r2⟩ := List.mem_flatMap.mp z
            refine ⟨List.mem_flatMap.mpr ⟨x, hMN x (List.mem_cons_of_mem _ r1), r2⟩, ?_⟩
            obtain ⟨y, r3, r4⟩ := List.mem_map.mp r1
            have r5 := z3 y r3
            cases hd : adf (aA a) el y.1 with
            | none =>
              rw [hd] at r5
              refine List.mem_append_right _ (List.mem_cons_of_mem _ (List.mem_append_right _ (List.mem_flatMap.mpr ⟨y, r3, ?_⟩)))
              unfold au1
              rw [r5]
              dsimp only
              rw [r4]
              exact r2
            | some d =>
              obtain ⟨q1, q2, q3⟩ := adf_in hd
              have := (hA _ q1).1
              rw [q3, r4] at this
              refine List.mem_append_left _ ?_
              rcases List.mem_cons.mp r2 with r | r
              · rw [r]; exact this.1.2
              · exact this.2.1 s r
          · obtain ⟨x, q1, q2⟩ := List.mem_flatMap.mp z
            obtain ⟨y, r1, r2⟩ := List.mem_map.mp (dfl_nms q1)
            have := (hA y r1).1
            rw [r2] at this
            exact ⟨LLm_plk (hMM _ this.1.1) q2, List.mem_append_left _ (this.2.1 s q2)⟩
    · rw [ltS_app, y9]
      rw [y9] at hbud
      have hrm : rem a' + k = rem a := by
        have := hbud
        obtain ⟨f1, f2, f3⟩ : ∃ X : AS, aF X = aF a ∧ rem a' = rem (adv X k) := by
          unfold iTag at hs
          rw [y1, y2] at hs
          dsimp only at hs
          rw [hel, y8] at hs
          dsimp only at hs
          split at hs
          · cases hs
          · have hr := Sum.inr.inj hs
            refine ⟨tch a false, tch_other.1, ?_⟩
            rw [← hr]
            unfold rem
            split
            · rw [cls_F.1]; rfl
            · rfl
        rw [f3]
        have hcX : cur f1 = cur a := by unfold cur; rw [f2]
        have hrX : rem f1 = rem a := by unfold rem; rw [f2]
        rw [rem_adv (by rw [hcX]; exact y7), hrX]
      omega
    · rw [List.length_append, List.length_cons, List.length_append]
      omega
    · rw [y10]
      exact fun x hx => ⟨⟨⟨hMM _ (hA x hx).1.1.1, List.mem_append_left _ (hA x hx).1.1.2⟩, fun s hs => List.mem_append_left _ ((hA x hx).1.2.1 s hs), List.mem_append_left _ (hA x hx).1.2.2.1, List.mem_append_left _ (hA x hx).1.2.2.2.1, hX.2.1 _ (hA x hx).1.2.2.2.2⟩, (hA x hx).2⟩
    · rw [y11]
      intro x hx
      rcases List.mem_append.mp hx with hx | hx
      · exact ⟨hMM _ (hL x hx).1, fun s hs => List.mem_append_left _ ((hL x hx).2 s hs)⟩
      · rw [List.mem_singleton] at hx
        rw [hx]
        exact ⟨hMN el List.mem_cons_self, fun s hs => List.mem_append_right _ (List.mem_cons_of_mem _ (List.mem_append_left _ hs))⟩
    · rw [y12]
      intro x hx
      rcases List.mem_append.mp hx with hx | hx
      · exact ⟨hMM _ (hB x hx).1, List.mem_append_left _ (hB x hx).2.1, fun z => List.mem_append_left _ ((hB x hx).2.2 z)⟩
      · rcases List.mem_append.mp hx with hx | hx
        · refine ⟨hMN _ (List.mem_cons_of_mem _ (List.mem_map.mpr ⟨x, hx, rfl⟩)), List.mem_append_right _ (List.mem_map.mpr ⟨x, hx, rfl⟩), fun z => ?_⟩
          refine List.mem_append_right _ (List.mem_cons_of_mem _ (List.mem_append_right _ (List.mem_flatMap.mpr ⟨x, hx, ?_⟩)))
          unfold au1
          cases hd : x.2.2 with
          | none => exact absurd hd z
          | some d => exact List.mem_singleton.mpr rfl
        · obtain ⟨d, q1, q2, q3, q4⟩ := dfl_mem x hx
          obtain ⟨y, r1, r2⟩ := List.mem_map.mp (dfl_nms hx)
          have h1 := (hA y r1).1
          rw [r2] at h1
          have h2 := (hA _ (getD_mem (d := adD) q2)).1
          rw [← q4] at h2
          exact ⟨hMM _ h1.1.1, List.mem_append_left _ h2.2.2.1, fun _ => List.mem_append_left _ h2.2.2.2.1⟩
  by_cases h2 : isAl a
  · obtain ⟨t1, t2, t3, t4, t5, t6⟩ := al_N (rm := rm) (nd := nd) h2
    rw [t5] at hs
    obtain ⟨k', s, n, κ, c, m, ad, y1, y2, y3, y4, ⟨y5, y6, y7, y8, y9⟩, y10, y11⟩ := iAtl_at t6 hs
    rw [t4, y1] at hkk
    cases hkk
    obtain ⟨new, z1, z2, z3, z4, z5, z6⟩ := dfs_new _ n κ _ _ _ (by omega) y4 y10
    obtain ⟨x1, x2, x3, x4, x5, x6⟩ := adXn_W _ n κ (by omega) y4
    have hP : ∀ y ∈ adL (gd (cur a)) (cur a).length ((cur a).length + 1) n, (sl (gd (cur a)) s (n - s), nmx (gd (cur a)) (cur a).length y) ∈ X'.2.1 := by
      intro y hy
      refine hk.2.1 _ ?_
      show _ ∈ tkP a
      rw [t3]
      unfold prA
      rw [y1, y2]
      dsimp only
      rw [y3]
      exact List.mem_map.mpr ⟨y, hy, rfl⟩
    have hN : tkN a = sl (gd (cur a)) s (n - s) :: adXn (gd (cur a)) (cur a).length ((cur a).length + 1) n := by
      rw [t1]; unfold nmAs; rw [y1, y2]; dsimp only; rw [y3]
    have hS : ∀ x ∈ stN rm a, x ∈ tkN a := by
      rw [t1, t2]; exact nmAl_s t6
    have hell : (sl (gd (cur a)) s (n - s)).length = n - s := sl_ln
    generalize sl (gd (cur a)) s (n - s) = el at *
    generalize adXn (gd (cur a)) (cur a).length ((cur a).length + 1) n = NX at *
    generalize adS (gd (cur a)) (cur a).length ((cur a).length + 1) n = SX at *
    obtain ⟨o1, o2, o3, o4, o5, o6, o7, o8, -⟩ := adv_other (a := sN (sN (sA a ad) 0 c) 1 m) (k := k)
    have hrm : rem a' + k = rem a := by
      rw [y11]
      exact rem_adv (a := sN (sN (sA a ad) 0 c) 1 m) (show k ≤ (cur a).length from y9)
    have h0 : aN a' 0 = c := by rw [y11, o2]; rfl
    rw [hN] at hMl hMk hMN hMM hS
    rw [ltS_cons] at hMl
    refine ⟨kpL M (el :: NX), V ++ new.map (fun x => x.2.2.2.2.1), U ++ (el :: (NX ++ (SX ++ new.map (fun x => x.2.2.2.2.1)))), ⟨kpL_nd m1, hMk⟩, fun x hx => ?_, ⟨?_, ?_⟩, ?_, ?_, ?_⟩
    · rcases kpL_mem.mp hx with z | z
      · exact ⟨LLm_sub hMM (b1' x z).1, List.mem_append_left _ (b1' x z).2⟩
      · have := hS x z
        refine ⟨LLm_mem (hMN x this), List.mem_append_right _ ?_⟩
        rcases List.mem_cons.mp this with r | r
        · rw [r]; exact List.mem_cons_self
        · exact List.mem_cons_of_mem _ (List.mem_append_left _ r)
    · rw [ltS_app, h0]
      omega
    · rw [List.length_append, List.length_cons, List.length_append, List.length_append, List.length_map, h0]
      omega
    · rw [y11, o5]
      show ∀ x ∈ ad, _
      rw [z1]
      intro x hx
      rcases List.mem_append.mp hx with hx | hx
      · exact ⟨⟨⟨hMM _ (hA x hx).1.1.1, List.mem_append_left _ (hA x hx).1.1.2⟩, fun s hs => List.mem_append_left _ ((hA x hx).1.2.1 s hs), List.mem_append_left _ (hA x hx).1.2.2.1, List.mem_append_left _ (hA x hx).1.2.2.2.1, hX.2.1 _ (hA x hx).1.2.2.2.2⟩, (hA x hx).2⟩
      · obtain ⟨r1, ⟨y, hy, r2⟩, r3, r4, r5⟩ := z2 x hx
        refine ⟨⟨⟨hMN _ (List.mem_cons_of_mem _ r3), List.mem_append_right _ (List.mem_cons_of_mem _ (List.mem_append_left _ r3))⟩, fun s hs => List.mem_append_right _ (List.mem_cons_of_mem _ (List.mem_append_right _ (List.mem_append_left _ (r4 s hs)))), List.mem_append_right _ (List.mem_map.mpr ⟨x, hx, rfl⟩), List.mem_append_right _ (List.mem_cons_of_mem _ (List.mem_append_right _ (List.mem_append_right _ (List.mem_map.mpr ⟨x, hx, rfl⟩)))), ?_⟩, r5⟩
        rw [r1, r2]
        exact hP y hy
    · rw [y11, o7]
      exact fun x hx => ⟨hMM _ (hL x hx).1, fun s hs => List.mem_append_left _ ((hL x hx).2 s hs)⟩
    · rw [y11, o8]
      exact fun x hx => ⟨hMM _ (hB x hx).1, List.mem_append_left _ (hB x hx).2.1, fun z => List.mem_append_left _ ((hB x hx).2.2 z)⟩
  obtain ⟨s1, s2, s3⟩ := pl_S ht h2 hs
  have hst := pl_N (rm := rm) ht h2
  have h2n := Wn_2 w3
  refine ⟨kpL M (tkN a), V, U ++ tkN a, ⟨kpL_nd m1, hMk⟩, fun x hx => ?_, ⟨?_, ?_⟩, ?_, ?_, ?_⟩
  · rcases kpL_mem.mp hx with z | z
    · exact ⟨LLm_sub hMM (b1' x z).1, List.mem_append_left _ (b1' x z).2⟩
    · exact ⟨LLm_mem (hMN x (hst x z)), List.mem_append_right _ (hst x z)⟩
  · omega
  · rw [List.length_append]
    omega
  · rw [s3]
    exact fun x hx => ⟨⟨⟨hMM _ (hA x hx).1.1.1, List.mem_append_left _ (hA x hx).1.1.2⟩, fun s hs => List.mem_append_left _ ((hA x hx).1.2.1 s hs), (hA x hx).1.2.2.1, List.mem_append_left _ (hA x hx).1.2.2.2.1, hX.2.1 _ (hA x hx).1.2.2.2.2⟩, (hA x hx).2⟩
  · rw [s1]
    exact fun x hx => ⟨hMM _ (hL x hx).1, fun s hs => List.mem_append_left _ ((hL x hx).2 s hs)⟩
  · rw [s2]
    exact fun x hx => ⟨hMM _ (hB x hx).1, (hB x hx).2.1, fun z => List.mem_append_left _ ((hB x hx).2.2 z)⟩
end KwC
