/-! ===== items of the class: tags (5): the tag's end ===== -/
section JI36
variable {L : Nat → Nat} {rm nd : Nat} {ρ σ τ : IS} {a : AS} {Q : IS → Prop}
theorem TR_get {n3 c m k : Nat} {L' : List Elm} {B' : List Att} {S' : List Evt} {O' : List Nat} : aA (adv (sN (sN (trr a n3 L' B' S' O') 0 c) 1 m) k) = aA a ∧ aL (adv (sN (sN (trr a n3 L' B' S' O') 0 c) 1 m) k) = L' ∧ aB (adv (sN (sN (trr a n3 L' B' S' O') 0 c) 1 m) k) = B' ∧ aS (adv (sN (sN (trr a n3 L' B' S' O') 0 c) 1 m) k) = S' ∧ aO (adv (sN (sN (trr a n3 L' B' S' O') 0 c) 1 m) k) = O' ∧ aN (adv (sN (sN (trr a n3 L' B' S' O') 0 c) 1 m) k) 3 = n3 := by
  obtain ⟨o1, o2, o3, o4, o5, o6, o7, o8, o9, o10⟩ := adv_other (a := sN (sN (trr a n3 L' B' S' O') 0 c) 1 m) (k := k)
  exact ⟨by rw [o5]; rfl, by rw [o7]; rfl, by rw [o8]; rfl, by rw [o9]; rfl, by rw [o10]; rfl, by rw [o2]; rfl⟩
theorem RJ.ts2 {n : Nat} (hln : JLn L rm nd) (h : RJ L rm nd σ a) (hn : (aL a).length ≤ nd) (ho : ∀ e r, aO a = e :: r → e < (aL a).length) (h3 : aN a 3 ≤ n) (hs : evl (aS a) ≤ rm) (hrn : rm ≤ n) : JTs L nd n σ := by
  obtain ⟨-, -, -, ⟨-, -, n3, -⟩, -, -, -, -, ⟨-, e2, -⟩, -, ⟨s1, s2, -⟩, -⟩ := h
  have h136 : L 136 = rm := hln.2.2.2.2.2.2.2.2.2.2.2
  have hlt := ltr_le (aS a)
  refine ⟨?_, by rw [n3]; omega, by rw [s2]; omega, by rw [s1]; omega⟩
  rw [e2]
  cases hO : aO a with
  | nil => exact Or.inl rfl
  | cons e r =>
    have := ho e r hO
    refine Or.inr ?_
    show 0 ≤ (e : Int) ∧ (e : Int) < (nd : Int)
    omega
theorem och_lt {el : List Elm} : ∀ {os : List Nat}, och el os → ∀ x ∈ os, x < el.length := by
  intro os
  induction os with
  | nil => intro _ x hx; cases hx
  | cons e r ih =>
    intro h x hx
    rcases List.mem_cons.mp hx with rfl | hx
    · exact h.1
    · exact ih h.2.2.2 x hx
theorem och_cg {el el' : List Elm} (hl : el.length ≤ el'.length) (hg : ∀ i, i < el.length → (el'.getD i elD).2.1 = (el.getD i elD).2.1) : ∀ {os : List Nat}, och el os → och el' os := by
  intro os
  induction os with
  | nil => intro _; trivial
  | cons e r ih =>
    intro h
    exact ⟨Nat.lt_of_lt_of_le h.1 hl, by rw [hg e h.1]; exact h.2.1, h.2.2.1, ih h.2.2.2⟩
theorem tch_par {sp : Bool} {i : Nat} (hi : i < (aL a).length) : ((aL (tch a sp)).getD i elD).2.1 = ((aL a).getD i elD).2.1 := by
  cases hO : aO a with
  | nil => unfold tch; rw [hO]
  | cons e r =>
    rw [tch_L hO, getD_mod hi]
    split <;> rfl
theorem opn_par : opn (aO a) = par a := by unfold par opn; cases aO a <;> rfl
theorem och_new {x : Elm} (h : och (aL a) (aO a)) (hx : x.2.1 = par a) : och (aL (tch a false) ++ [x]) ((aL a).length :: aO a) := by
  refine ⟨by rw [List.length_append, tch_ln, List.length_singleton]; omega, ?_, och_lt h, och_cg (by rw [List.length_append, tch_ln]; omega) (fun i hi => ?_) h⟩
  · rw [getD_snoc, tch_ln, if_neg (by omega), if_pos rfl, hx, opn_par]
  · rw [getD_snoc, tch_ln, if_pos hi, tch_par hi]
theorem RJ.nw {l : List Int} {f : Nat × Nat} {t : List Frm} {nm : Str} {gv al : List Att} {g c m k : Nat} (hF : aF a = (l, f) :: t) (h : RJ L rm nd ρ (adv (sN (sN (XT a nm al g) 0 c) 1 m) k)) (hg : g = gv.length) (h4 : aN a 4 ≠ 1) : RJ L rm nd ρ (nel a nm gv al k c m) := by
  obtain ⟨t1, t2, t3, t4, t5, t6, t7, t8, t9, t10⟩ := tch_other (a := a) (sp := false)
  have hF1 : aF (sN (sN (XT a nm al g) 0 c) 1 m) = (l, f) :: t := hF
  have hFt : aF (tch a false) = (l, f) :: t := by rw [t1]; exact hF
  rw [adv_of hF1] at h
  subst hg
  have h2 : RJ L rm nd ρ (sN (sF (sN (sN (XT a nm al gv.length) 0 c) 1 m) ((l.drop k, f) :: t)) 4 2) := by
    obtain ⟨h0, h1, h2, ⟨n1, n2, n3, n4, n5, n6⟩, h4', h5, h6, h7, h8, h9, h10, h11⟩ := h
    refine ⟨h0, h1, h2, ⟨n1, n2, n3, n4, n5, ?_⟩, h4', h5, h6, h7, h8, h9, h10, h11⟩
    rw [n6]
    show (if aN a 4 = 1 then (1 : Int) else 0) = if 2 = 1 then (1 : Int) else 0
    rw [if_neg h4]
    rfl
  unfold nel
  rw [adv_of hFt]
  refine h2.cong rfl t2 ?_ t4 t5 t6 t7 rfl rfl rfl rfl
  show (fun j : Nat => if j = 4 then 2 else if j = 3 then aN a 3 + 1 + al.length else if j = 1 then m else if j = 0 then c else aN (tch a false) j) = (fun j : Nat => if j = 4 then 2 else if j = 1 then m else if j = 0 then c else if j = 3 then aN a 3 + 1 + al.length else aN a j)
  rw [t3]
  funext j
  by_cases c4 : j = 4
  · rw [if_pos c4, if_pos c4]
  · rw [if_neg c4, if_neg c4]
    by_cases c3 : j = 3
    · rw [if_pos c3, if_neg (by omega), if_neg (by omega), if_pos c3]
    · rw [if_neg c3, if_neg c3]
set_option maxHeartbeats 4000000 in
theorem j_finish {l : List Int} {f : Nat × Nat} {t : List Frm} {xe s11 a3 : Int} {nm : Str} {gv : List Att} {n3 c m k : Nat} {L' : List Elm} {B' : List Att} {S' : List Evt} {O' : List Nat} (hln : JLn L rm nd) (hG : GA rm nd a) (hF : aF a = (l, f) :: t) (h4 : aN a 4 ≠ 1) (hes : evl (aS a) + 1 < rm) (hR : RJ L rm nd ρ (adv (sN (sN (trr a n3 L' B' S' O') 0 c) 1 m) k)) (hT : TX nd a nm gv gv.length n3 L' B' S' O') (hxe : Jn ρ xe nm) (hmk : ∀ w, w < jw ρ → (ρ.2 155 w = s11 ↔ wst ρ w ∈ gv.map (fun z => z.1))) (hgl : gv.length ≤ 200000)
    (hbadq : nd < aN a 3 + 1 + (gv ++ dfl (aA a) nm gv).length → ∀ ρ', JBd L rm nd ρ' 4 (ρ.1 2 5) → Q ρ')
    (hq0 : ¬ nd < aN a 3 + 1 + (gv ++ dfl (aA a) nm gv).length → a3 = 0 → ∀ ρ', RJ L rm nd ρ' (nel a nm gv (gv ++ dfl (aA a) nm gv) k c m) → (∀ o k, o ≠ 6 → ρ'.1 o k = ρ.1 o k) → Q ρ')
    (hq1 : ¬ nd < aN a 3 + 1 + (gv ++ dfl (aA a) nm gv).length → a3 ≠ 0 → ∀ ρ', RJ L rm nd ρ' (cls (nel a nm gv (gv ++ dfl (aA a) nm gv) k c m)) → (∀ o k, o ≠ 6 → ρ'.1 o k = ρ.1 o k) → Q ρ') : w_Content_finishTag L xe s11 a3 Q ρ := by
  have hrm := hln.2.1
  have hxr := hxe.rng hR.1.1
  have hL126 : L 126 = L 102 := hln.2.2.2.2.2.1.2.2.2.1
  have hL148 : L 148 = rm / 8 + 2 := hln.2.2.2.2.2.2.2.1.2
  have hLr := hln.2.2.2.2.2.2.2.1.1
  have h123 := hLr 123 (by omega) (by omega)
  have h119 := hLr 119 (by omega) (by omega)
  have h120 := hLr 120 (by omega) (by omega)
  have h155 : L 102 = L 155 := hln.1.2.2.2.1
  obtain ⟨gO, gw, ⟨r1, r2, r3, r4⟩, ⟨c1, c2, c3, c4, c5, c6⟩, ⟨b1', b2⟩, gp, ho, ⟨gf1, gf2⟩, g1, g2, g3, g4⟩ := id hG
  have hAd := hR.2.2.2.2.2.2.1
  rw [TR_get.1] at hAd
  have h126 : ρ.2 126 xe.toNat = en1 (fnd (aA a) nm 0) := by rw [hAd.2.2.1.1 _ hxr.2.2.2.1, hxr.2.2.2.2]; show en1 (adE (aA a) nm) = _; rw [adE_fnd]
  have hen : ∀ (s : Str) (j : Nat), 0 ≤ en1 (fnd (aA a) s j) ∧ en1 (fnd (aA a) s j) ≤ ((aA a).length : Int) := by
    intro s j
    cases h : fnd (aA a) s j with
    | none => show (0 : Int) ≤ 0 ∧ (0 : Int) ≤ _; omega
    | some i => have := (fnd_some h).2.1; show (0 : Int) ≤ (i : Int) + 1 ∧ (i : Int) + 1 ≤ _; omega
  unfold w_Content_finishTag
  rw [h126]
  have h0 := hen nm 0
  refine ⟨⟨by omega, by omega⟩, ⟨by omega, by omega⟩, ?_⟩
  refine WL_ind (fun (s : Int × Int) (ρ' : IS) => ∃ (j : Nat) (acc : List Att) (n3 : Nat) (L' : List Elm) (B' : List Att) (S' : List Evt) (O' : List Nat), j ≤ (aA a).length ∧ s.1 = en1 (fnd (aA a) nm j) - 1 ∧ 0 ≤ s.2 ∧ s.2 ≤ (j : Int) ∧ RJ L rm nd ρ' (adv (sN (sN (trr a n3 L' B' S' O') 0 c) 1 m) k) ∧ TX nd a nm acc gv.length n3 L' B' S' O' ∧ acc ++ dfR (aA a) nm gv j = gv ++ dfl (aA a) nm gv ∧ acc.length ≤ gv.length + j ∧ (∀ o k, o ≠ 6 → ρ'.1 o k = ρ.1 o k) ∧ (∀ r, r < 129 ∨ (136 < r ∧ r ≠ 146 ∧ r ≠ 161) → ρ'.2 r = ρ.2 r)) (fun s _ => (aA a).length + 1 - s.2.toNat) ?_ _ _ ⟨0, gv, n3, L', B', S', O', Nat.zero_le _, rfl, Int.le_refl _, Int.le_refl _, hR, hT, by rw [dfR_all], by omega, fun _ _ _ => rfl, fun _ _ => rfl⟩
  rintro ⟨s1, s2⟩ ρ' ⟨j, acc, n3, L', B', S', O', hj, hs1, hs2, hs2', hR', hT', hacc, hal, hf', hr'⟩ K hK
  dsimp only at hs1 hs2 hs2' hK ⊢
  have hAd' := hR'.2.2.2.2.2.2.1
  rw [TR_get.1] at hAd'
  have hEl' := hR'.2.2.2.2.2.2.2.2.1
  rw [TR_get.2.1, TR_get.2.2.2.2.1] at hEl'
  have e61 : ρ'.1 6 1 = (n3 : Int) := by have := hR'.2.2.2.1.2.2.1; rw [TR_get.2.2.2.2.2] at this; exact this
  have e60 : ρ'.1 6 0 = (nd : Int) := hR'.1.2.2.2.1.2.2
  have hjw : jw ρ' = jw ρ := by unfold jw; rw [hf' 1 14 (by decide)]
  have hsg : sgr ρ ρ' := (hR.1.out (σ' := ρ') (fun o k hk => by
    rcases hk with hk | hk | hk | hk
    · exact hf' o k (by omega)
    · exact hf' o k (by omega)
    · rw [hk.1, hk.2, e60]; exact hR.1.2.2.2.1.2.2.symm
    · exact hf' o k (by omega)) (fun r hr => hr' r (by omega))).2
  rw [hAd'.1]
  cases hf : fnd (aA a) nm j with
  | none =>
    have e1 : s1 = -1 := by rw [hs1, hf]; rfl
    rw [if_neg (fun z => z.2 e1)]
    rw [dfR_none hj hf, List.append_nil] at hacc
    unfold w_Tree_tooMany
    rw [e60, e61]
    rw [← hacc] at hbadq hq0 hq1
    have hn3 := hT'.1
    by_cases cn : nd < n3
    · rw [if_pos (show (nd : Int) < (n3 : Int) by omega)]
      refine WJ_dir ?_
      dsimp only
      rw [if_neg (by decide)]
      refine sp_Reader_fail (WJ_dir ?_)
      dsimp only
      have hB := hR'.ft (n := 4) (by decide)
      rw [hf' 2 5 (by decide)] at hB
      have hts : JTs L nd 300000 ρ' := hR'.ts2 hln (by rw [TR_get.2.1]; exact hT'.2.2.1.1) (fun e r hO => by rw [TR_get.2.2.2.2.1] at hO; rw [TR_get.2.1]; exact (hT'.2.2.2 e r hO).1) (by rw [TR_get.2.2.2.2.2]; omega) (by rw [TR_get.2.2.2.1]; have := hT'.2.2.1.2.2; omega) (by omega)
      have h44 : ρ'.1 2 4 = 0 := hR'.2.2.2.2.2.2.2.2.2.2.2.1
      by_cases ca : a3 = 0
      · rw [if_pos ca]
        exact hbadq (by omega) _ hB
      · rw [if_neg ca]
        exact sp_end_w (n := 300000) hln hB (hts.same (fun k => by rw [flt_val h44, pf_no (by decide)])) (fun σ' h' => hbadq (by omega) σ' h')
    · rw [if_neg (show ¬ (nd : Int) < (n3 : Int) by omega)]
      refine WJ_dir ?_
      dsimp only
      rw [if_pos rfl]
      refine WJ_dir ?_
      dsimp only
      obtain ⟨x1, x2, x3, x4⟩ := hT'.2.1 (by omega)
      have hnl := hT'.2.2.1.1
      rw [x1, List.length_append, tch_ln, List.length_singleton] at hnl
      rw [hn3, x1, x2, x3, x4] at hR'
      have hRn : RJ L rm nd ρ' (nel a nm gv acc k c m) := RJ.nw (g := gv.length) hF hR' rfl h4
      by_cases ca : a3 = 0
      · rw [if_pos ca]
        exact hq0 (by omega) ca ρ' hRn hf'
      · rw [if_neg ca]
        have t1 := (tch_other (a := a) (sp := false)).1
        have hFt : aF (tch a false) = (l, f) :: t := by rw [t1]; exact hF
        have eF : aF (nel a nm gv acc k c m) = (l.drop k, f) :: t := by
          unfold nel
          rw [adv_of hFt]
          rfl
        refine sp_end (e := (aL a).length) (r := aO a) hln hRn rfl (och_new ho rfl) (show (aL (tch a false) ++ [_]).length ≤ nd by rw [List.length_append, tch_ln, List.length_singleton]; exact hnl) (show evl (aS a ++ [_]) < rm by rw [evl_app]; exact hes) ?_ rfl (fun σ' hR2 hf2 => hq1 (by omega) ca σ' hR2 (fun o k hk => by rw [hf2 o k hk]; exact hf' o k hk))
        intro f' hf'
        rw [eF] at hf'
        rw [hF] at gf1
        rcases List.mem_cons.mp hf' with rfl | hf'
        · exact gf1 (l, f) List.mem_cons_self
        · exact gf1 f' (List.mem_cons_of_mem _ hf')
  | some i =>
    obtain ⟨f1, f2, f3, f4⟩ := fnd_some hf
    have e1 : s1 = (i : Int) := by rw [hs1, hf]; show (i : Int) + 1 - 1 = _; omega
    rw [if_pos ⟨by omega, by omega⟩, e1, show Int.toNat (i : Int) = i by omega]
    obtain ⟨q1, q2, q3, q4, q5, q6, q7⟩ := hAd'.2.1 i f2
    have hq1r := q1.rng hR'.1.1
    refine ⟨⟨by omega, by omega⟩, ?_⟩
    have hadd := dfR_some (gv := gv) hf
    have hnx : fnd (aA a) nm (i + 1) = adX (aA a) i := by rw [adX_fnd, f3]
    have hkind : ¬ jhw ((aA a).getD i adD).2.2.2.1 < 2 ↔ 3 ≤ ((aA a).getD i adD).2.2.2.1 := by
      unfold jhw
      split
      · omega
      · split
        · omega
        · omega
    have hmem : (ρ'.2 155 (ρ'.2 148 i).toNat = s11) ↔ ((aA a).getD i adD).2.1 ∈ gv.map (fun z => z.1) := by
      rw [hr' 155 (by omega), hmk _ (by rw [← hjw]; exact hq1r.2.2.2.1), ← hsg.2.2.1 _ (by rw [← hjw]; exact hq1r.2.2.2.1), hq1r.2.2.2.2]
    refine WJ_of (fun _ ρ2 => ∃ (acc : List Att) (n3 : Nat) (L' : List Elm) (B' : List Att) (S' : List Evt) (O' : List Nat), RJ L rm nd ρ2 (adv (sN (sN (trr a n3 L' B' S' O') 0 c) 1 m) k) ∧ TX nd a nm acc gv.length n3 L' B' S' O' ∧ acc ++ dfR (aA a) nm gv (i + 1) = gv ++ dfl (aA a) nm gv ∧ acc.length ≤ gv.length + (i + 1) ∧ (∀ o k, o ≠ 6 → ρ2.1 o k = ρ.1 o k) ∧ (∀ r, r < 129 ∨ (136 < r ∧ r ≠ 146 ∧ r ≠ 161) → ρ2.2 r = ρ.2 r)) (fun J hJ => ?_) ?_
    · refine ⟨fun _ => ⟨⟨by omega, by omega⟩, ⟨hq1r.1, by omega⟩⟩, ?_⟩
      have q3' : ρ'.2 119 i = jhw ((aA a).getD i adD).2.2.2.1 := q3
      rw [q3']
      by_cases cd : 3 ≤ ((aA a).getD i adD).2.2.2.1 ∧ ¬ ((aA a).getD i adD).2.1 ∈ gv.map (fun z => z.1)
      · rw [if_pos ⟨hkind.mpr cd.1, fun z => cd.2 (hmem.mp z)⟩]
        refine ⟨⟨by omega, by omega⟩, ⟨by omega, by omega⟩, ?_⟩
        have hdf : dfF (aA a) nm gv i = some (((aA a).getD i adD).2.1, ((aA a).getD i adD).2.2.2.2.1, some i) := by
          unfold dfF
          rw [if_pos ⟨f3, cd.1, cd.2⟩]
        rw [hdf] at hadd
        refine sp_addAtt (nm := ((aA a).getD i adD).2.1) (vl := ((aA a).getD i adD).2.2.2.2.1) (od := some i) (gn := 0) hln hR' (by rw [TR_get.2.1]; exact hT'.2.2.1.1) (by rw [TR_get.2.2.1]; exact hT'.2.2.1.2.1) (by rw [TR_get.2.2.2.2.2]; have := hT'.1; omega) (fun e r hO => ?_) q1 (q4 cd.1) rfl rfl (by omega) (fun σ2 L2 B2 hR2 hs hf2 hr2 => ?_)
        · rw [TR_get.2.2.2.2.1] at hO
          rw [TR_get.2.1]
          have := hT'.2.2.2 e r hO
          exact ⟨this.1, by omega, by omega⟩
        · rw [TR_get.2.1, TR_get.2.2.1, TR_get.2.2.2.2.1] at hs
          rw [TR_get.2.2.2.1, TR_get.2.2.2.2.1, TR_get.2.2.2.2.2, trr_mg hF] at hR2
          have hT2 := hT'.add hG (by omega) hs
          rw [Nat.add_zero] at hT2
          refine hJ _ _ ⟨acc ++ [_], n3 + 1, L2, B2, S', O', hR2, hT2, ?_, by rw [List.length_append, List.length_singleton]; omega, fun o k hk => by rw [hf2 o k hk]; exact hf' o k hk, fun r hr => by rw [hr2 r hr]; exact hr' r hr⟩
          rw [← hacc, hadd, List.append_assoc]
          rfl
      · rw [if_neg (fun z => cd ⟨hkind.mp z.1, fun y => z.2 (hmem.mpr y)⟩)]
        have hdf : dfF (aA a) nm gv i = none := by
          unfold dfF
          rw [if_neg (fun z => cd ⟨z.2.1, z.2.2⟩)]
        rw [hdf] at hadd
        refine hJ _ _ ⟨acc, n3, L', B', S', O', hR', hT', ?_, by omega, hf', hr'⟩
        rw [← hacc, hadd]
        rfl
    · rintro _ ρ2 ⟨acc2, n32, L2, B2, S2, O2, k1, k2, k3, k4, k5, k6⟩
      have hAd2 := k1.2.2.2.2.2.2.1
      rw [TR_get.1] at hAd2
      obtain ⟨-, -, -, -, -, -, y7⟩ := hAd2.2.1 i f2
      refine ⟨⟨by omega, by omega⟩, ⟨by omega, by omega⟩, hK _ _ ⟨i + 1, acc2, n32, L2, B2, S2, O2, by omega, ?_, by dsimp only; omega, by dsimp only; omega, k1, k2, k3, k4, k5, k6⟩ (by dsimp only; omega)⟩
      dsimp only
      rw [hnx]
      omega
end JI36
