/-! ===== the validator: the names of a mixed group (3) ===== -/
/-- what marking a group's names may change -/
def MMx (L : Nat → Nat) (σ σ' : IS) : Prop := (∀ o k, ¬ (o = 2 ∧ (k = 2 ∨ k = 3)) → ¬ (o = 1 ∧ (k = 13 ∨ k = 14 ∨ k = 16)) → σ'.1 o k = σ.1 o k) ∧ (∀ r, ¬ (102 ≤ r ∧ r ≤ 106) → r ≠ 149 → r ≠ 155 → σ'.2 r = σ.2 r) ∧ sgr σ σ' ∧ SI L σ'
section Mmx
variable {L : Nat → Nat} {σ : IS}
theorem mxk_at {T : Nat → Int} {e m k z : Nat} {b : Bool} (h : mxk T e (m + 1) b k = some z) : (lk T e (sk isSp T e k) = 124 ∧ ∃ j, nmg T e true (some (sk isSp T e (sk isSp T e k + 1))) = some j ∧ mxk T e m true j = some z) ∨ (lk T e (sk isSp T e k) ≠ 124 ∧ lk T e (sk isSp T e k) = 41) := by
  unfold mxk at h
  rw [mt_1] at h
  by_cases c : lk T e (sk isSp T e k) = 124
  · rw [if_pos (by simpa using c)] at h
    left
    refine ⟨c, ?_⟩
    split at h
    · cases h
    · rename_i j hj
      exact ⟨j, hj, h⟩
  · rw [if_neg (by simpa using c)] at h
    right
    refine ⟨c, ?_⟩
    split at h
    · cases h
    · rename_i w hw
      have hw' : (if mt T e (sk isSp T e k) [41] = true then some (sk isSp T e k + [41].length) else none) = some w := hw
      split at hw'
      · rename_i h4
        rw [mt_1] at h4
        simpa using h4
      · cases hw'
theorem mxL_s {T : Nat → Int} {e m k j : Nat} (c : lk T e (sk isSp T e k) = 124) (hj : nmg T e true (some (sk isSp T e (sk isSp T e k + 1))) = some j) : mxL T e (m + 1) k = (sk isSp T e (sk isSp T e k + 1), j) :: mxL T e m j := by
  have hj' : nmg T e true (asp T e (some (sk isSp T e k + 1))) = some j := hj
  have h : mxL T e (m + 1) k = if mt T e (sk isSp T e k) [124] = true then (match nmg T e true (asp T e (some (sk isSp T e k + 1))) with
    | none => []
    | some j => (sk isSp T e (sk isSp T e k + 1), j) :: mxL T e m j) else [] := rfl
  rw [h, mt_1, if_pos (by simpa using c), hj']
theorem mxL_e {T : Nat → Int} {e m k : Nat} (c : lk T e (sk isSp T e k) ≠ 124) : mxL T e (m + 1) k = [] := by
  unfold mxL
  rw [mt_1, if_neg (by simpa using c)]
set_option maxHeartbeats 2000000 in
set_option maxRecDepth 10000 in
theorem sp_Validator_markMixed {Q : Int → IS → Prop} {src e k0 z N : Nat} {qs : List (Nat × Nat)} {ns : List Str} (hS : SI L σ) (hsl : SL L) (he : e = jtp σ) (h149 : L 149 = 23) (hpre : ∀ q, src ≤ q → q < k0 → σ.2 101 q ≠ 41 ∧ σ.2 101 q ≠ 124) (hk0 : src ≤ k0 ∧ k0 ≤ e) (hm : mxk (σ.2 101) e N false k0 = some z) (hqs : mxL (σ.2 101) e N k0 = qs) (hns : ns = qs.map (fun q => sl (σ.2 101) q.1 (q.2 - q.1))) (hcap : jw σ + ns.length ≤ L 102) (hc : 0 ≤ σ.2 149 3 ∧ σ.2 149 3 ≤ 1000000000) (hs : 0 ≤ σ.1 1 16 ∧ σ.1 1 16 ≤ 2000000000) (hmk : ∀ w, σ.2 155 w ≤ σ.1 1 16)
    (hq : ∀ σ', MMx L σ σ' → σ'.1 1 16 = σ.1 1 16 + 1 → (∀ w, σ'.2 155 w ≤ σ'.1 1 16) → (∀ k, σ'.2 149 k = σ.2 149 k + if k = 3 then (rpk ns ns.length : Int) else 0) → (∀ w, w < jw σ' → (σ'.2 155 w = σ.1 1 16 + 1 ↔ wst σ' w ∈ ns)) → jw σ' ≤ jw σ + ns.length → Q (σ.1 1 16 + 1) σ') : w_Validator_markMixed L (src : Int) Q σ := by
  have l101 : L 101 < 1000000 := hsl.2.2.2.2.2.2.2
  have e155 : L 102 = L 155 := hsl.2.2.2.1
  have h102 : L 102 < 1000000 := hsl.2.2.2.2.2.2.1
  have ht := hS.jtp_le
  have hln : ns.length = qs.length := by rw [hns, List.length_map]
  unfold w_Validator_markMixed w_Store_newMark
  refine ⟨⟨by omega, by omega⟩, ?_⟩
  generalize hv : σ.1 1 16 + 1 = v at *
  have hz0 : ∀ q, k0 ≤ q → q < sk isSp (σ.2 101) e k0 → σ.2 101 q ≠ 41 ∧ σ.2 101 q ≠ 124 := fun q h1 h2 => by
    have := sk_all q h1 h2
    unfold isSp at this
    simp only [Bool.or_eq_true, beq_iff_eq] at this
    omega
  refine WL_ind (fun s τ => ∃ p i k m b t, s = ((t : Nat) : Int) ∧ τ.1 2 2 = ((p : Nat) : Int) ∧ MMx L σ τ ∧ (τ.1 2 3 = (e : Int) ∧ τ.1 1 16 = v ∧ (∀ w, τ.2 155 w ≤ v) ∧ ∀ w, jw τ ≤ w → τ.2 155 w < v) ∧ (k ≤ e ∧ p ≤ sk isSp (σ.2 101) e k ∧ ∀ q, p ≤ q → q < sk isSp (σ.2 101) e k → σ.2 101 q ≠ 41 ∧ σ.2 101 q ≠ 124) ∧ (mxk (σ.2 101) e m b k = some z ∧ mxL (σ.2 101) e m k = qs.drop i ∧ i ≤ qs.length) ∧ src + t ≤ p ∧ (∀ j, τ.2 149 j = σ.2 149 j + if j = 3 then (rpk ns i : Int) else 0) ∧ ((∀ w, w < jw τ → (τ.2 155 w = v ↔ wst τ w ∈ ns.take i)) ∧ ∀ s ∈ ns.take i, ∃ w, w < jw τ ∧ wst τ w = s) ∧ jw τ ≤ jw σ + i) (fun _ τ => (e + 1 - τ.1 2 2).toNat) ?_ _ _ ⟨src, 0, k0, N, false, 0, rfl, ?_, ⟨?_, ?_, ?_⟩, ⟨?_, ?_, ?_, ?_⟩, ⟨hk0.2, ?_, ?_⟩, ⟨hm, hqs, Nat.zero_le _⟩, Nat.le_refl _, ?_, ⟨?_, ?_⟩, ?_⟩
  · rintro _ τ ⟨p, i, k, m, b, t, rfl, hp, hM, ⟨h23, h16, h155, h155n⟩, ⟨hke, hps, hzn⟩, ⟨hmx, hmL, hi⟩, htp, hcn, ⟨hmr, hkn⟩, hjw⟩ K hK
    have e101 : τ.2 101 = σ.2 101 := hM.2.1 101 (by omega) (by decide) (by decide)
    generalize hT : σ.2 101 = T at *
    have hsl' := sk_le (p := isSp) (T := T) hke
    have hm1 : m = (m - 1) + 1 := by
      have : m ≠ 0 := fun y => by rw [y] at hmx; cases hmx
      omega
    generalize m - 1 = m' at *
    rw [hm1] at hmx hmL
    have hcase := mxk_at hmx
    have hske : sk isSp T e k < e := by
      refine Classical.byContradiction (fun hc' => ?_)
      have hlk := lk_ge (T := T) hc'
      rcases hcase with ⟨h1, -⟩ | ⟨-, h1⟩
      · rw [hlk] at h1; exact absurd h1 (by decide)
      · rw [hlk] at h1; exact absurd h1 (by decide)
    have hpe : p < e := by omega
    have hJT : JT L τ e p := ⟨hp, h23, by omega, l101, by omega⟩
    have hlp : lk T e p = T p := lk_b hpe
    have hil2 := rpk_le (l := ns) i
    refine WJ_dir ?_
    rw [if_pos (by omega)]
    refine sp_Reader_at hJT ti_1083 (by decide) ?_
    rw [e101, mt_1, hlp, hp, h23]
    by_cases c41 : T p = 41
    · -- the end
      have hpk : p = sk isSp T e k := by
        refine Classical.byContradiction (fun hc' => ?_)
        exact (hzn p (Nat.le_refl _) (by omega)).1 c41
      have hi2 : i = qs.length := by
        rcases hcase with ⟨h1, -⟩ | ⟨h1, -⟩
        · rw [← hpk, hlp, c41] at h1; exact absurd h1 (by decide)
        · rw [mxL_e h1] at hmL
          have := congrArg List.length hmL
          rw [List.length_nil, List.length_drop] at this
          omega
      have ec : (T p == 41) = true := by simpa using c41
      rw [ec, if_neg (fun q => absurd q.1 (by decide))]
      rw [hi2, ← hln] at hcn hmr hjw
      refine hq τ hM h16 (fun w => by rw [h16]; exact h155 w) hcn (fun w hw => ?_) hjw
      rw [hmr w hw, List.take_length]
    · have ec : (T p == 41) = false := by simpa using c41
      rw [ec, if_pos ⟨by decide, by omega⟩]
      have hpp : ∀ x y : Int, pf (pf τ 2 2 x) 2 2 y = pf τ 2 2 y := fun x y => by
        refine Prod.ext (funext (fun o' => funext (fun k' => ?_))) rfl
        rw [pf_1]
        by_cases w : o' = 2 ∧ k' = 2
        · rw [if_pos w, pf_1, if_pos w]
        · rw [if_neg w, pf_1, if_neg w, pf_1, if_neg w]
      refine sp_Reader_skip hJT ti_1084 (by decide) (fun hm2 => ?_) (fun hm2 => ?_)
      · -- a name
        rw [e101, mt_1, hlp] at hm2
        have c124 : T p = 124 := by simpa using hm2
        have hpk : p = sk isSp T e k := by
          refine Classical.byContradiction (fun hc' => ?_)
          exact (hzn p (Nat.le_refl _) (by omega)).2 c124
        rcases hcase with ⟨h1, j, hj, hmx'⟩ | ⟨h1, -⟩
        · rw [mxL_s h1 hj] at hmL
          rw [← hpk] at hj hmL
          have hg1 : p + 1 ≤ sk isSp T e (p + 1) := sk_gt
          have hjl := nmg_lt hj
          have hil : i < qs.length := by
            refine Classical.byContradiction (fun hc' => ?_)
            rw [List.drop_eq_nil_of_le (by omega)] at hmL
            cases hmL
          rw [List.drop_eq_getElem_cons hil] at hmL
          have hq1 : qs[i] = (sk isSp T e (p + 1), j) := (List.cons.inj hmL).1.symm
          have hq2 : mxL T e m' j = qs.drop (i + 1) := (List.cons.inj hmL).2
          have hnm : ns.getD i [] = sl T (sk isSp T e (p + 1)) (j - sk isSp T e (p + 1)) := by
            rw [hns, List.getD_eq_getElem?_getD, List.getElem?_map, List.getElem?_eq_getElem hil, hq1]
            rfl
          rw [show (([124] : List Int).length) = 1 from rfl]
          have f22 : (pf τ 2 2 ((p + 1 : Nat) : Int)).1 2 2 = ((p + 1 : Nat) : Int) := pf_eq
          rw [f22, if_neg (by decide), Int.add_zero]
          refine ⟨⟨by omega, by omega⟩, WJ_dir ?_⟩
          rw [if_neg (by decide)]
          have hJTx : ∀ x : Nat, x ≤ e → JT L (pf τ 2 2 (x : Int)) e x := fun x hx => ⟨pf_eq, by rw [pf_nk (by decide)]; exact h23, by omega, l101, by omega⟩
          rw [hpp]
          refine sp_Reader_skipSpace (hJTx (p + 1) (by omega)) ?_
          rw [hpp, pf_2, e101]
          refine sp_Reader_readName (hJTx (sk isSp T e (p + 1)) (by omega)) (fun j' hj' => ?_) (fun h0 => by rw [pf_2, e101, hj] at h0; cases h0)
          rw [pf_2, e101, hj] at hj'
          have ej : j = j' := Option.some.inj hj'
          rw [← ej, hpp, pf_eq]
          have hS1 := SI_pf (L := L) (o := 2) (k := 2) (x := (j : Int)) hM.2.2.2 (by omega)
          have hjt : jtp σ ≤ jtp τ := hM.2.2.1.2.1
          have hjt2 := hM.2.2.2.jtp_le
          have hjw2 := hM.2.2.2.jw_le
          refine ⟨⟨by omega, by omega⟩, sp_Store_intern hS1.1 hsl ⟨by omega, by omega, by rw [pf_no (by decide)]; omega⟩ (fun _ => by rw [pf_no (by decide)]; omega) (fun x ρ hi' => ?_)⟩
          rw [pf_2, e101, show Int.toNat ((sk isSp T e (p + 1) : Nat) : Int) = sk isSp T e (p + 1) from rfl, show Int.toNat ((j : Int) - ((sk isSp T e (p + 1) : Nat) : Int)) = j - sk isSp T e (p + 1) by omega, ← hnm] at hi'
          obtain ⟨hg, w, w1, w2, w3⟩ := hi'.gr hS1.1
          obtain ⟨i1, -, -, i4, -, i6⟩ := hi'
          have hjr := i1.jw_le
          rw [w1, show Int.toNat (w : Int) = w from rfl, show Int.toNat 3 = 3 from rfl]
          have r149 : ∀ a, ρ.2 149 a = τ.2 149 a := fun a => i4.2 149 a (by omega)
          have r155 : ∀ a, ρ.2 155 a = τ.2 155 a := fun a => i4.2 155 a (by omega)
          have hgj : jw τ ≤ jw ρ := hg.1
          have hgw : ∀ a, a < jw τ → wst ρ a = wst τ a := fun a ha => hg.2.2.1 a ha
          have hj14 : jw ρ ≤ jw τ + 1 := by
            unfold jw
            rcases i6 with q | q
            · rw [q.2.1, pf_no (by decide)]; omega
            · rw [q.2.1, pf_no (by decide)]; omega
          have hsub : ∀ a, a < jw ρ → (ρ.2 155 a = v ↔ wst ρ a ∈ ns.take i) := fun a ha => by
            rw [r155]
            by_cases y : a < jw τ
            · rw [hmr a y, hgw a y]
            · refine ⟨fun hav => by have := h155n a (by omega); omega, fun hmem => ?_⟩
              obtain ⟨u, hu1, hu2⟩ := hkn _ hmem
              have := i1.2.2.2 a u (by omega) (by omega) (by rw [hgw u hu1, hu2])
              omega
          have hkn2 : ∀ s ∈ ns.take i, ∃ a, a < jw ρ ∧ wst ρ a = s := fun s hs' => by
            obtain ⟨u, hu1, hu2⟩ := hkn s hs'
            exact ⟨u, by omega, by rw [hgw u hu1, hu2]⟩
          have em : (if ρ.2 155 w = v then (1 : Int) else 0) = if ns.getD i [] ∈ ns.take i then (1 : Int) else 0 := by
            have hw := hsub w w2
            rw [w3] at hw
            by_cases y : ns.getD i [] ∈ ns.take i
            · rw [if_pos y, if_pos (hw.mpr y)]
            · rw [if_neg y, if_neg (fun q => y (hw.mp q))]
          rw [em, r149]
          have hr : rpk ns (i + 1) = rpk ns i + (if ns.getD i [] ∈ ns.take i then 1 else 0) := rfl
          have h3 := hcn 3
          rw [if_pos rfl] at h3
          have er : (rpk ns (i + 1) : Int) = (rpk ns i : Int) + (if ns.getD i [] ∈ ns.take i then (1 : Int) else 0) := by
            rw [hr]; split <;> omega
          have er01 : 0 ≤ (if ns.getD i [] ∈ ns.take i then (1 : Int) else 0) ∧ (if ns.getD i [] ∈ ns.take i then (1 : Int) else 0) ≤ 1 := by split <;> omega
          generalize (if ns.getD i [] ∈ ns.take i then (1 : Int) else 0) = y01 at *
          generalize hρ' : pr (pr ρ 149 3 (τ.2 149 3 + y01)) 155 w v = ρ'
          have s1 : ρ'.1 = ρ.1 := by rw [← hρ']; rfl
          have s2 : ∀ r, r ≠ 149 → r ≠ 155 → ρ'.2 r = ρ.2 r := fun r a1 a2 => by rw [← hρ']; funext q; rw [pr_2, if_neg (fun z => a2 z.1), pr_2, if_neg (fun z => a1 z.1)]
          have s3 : ∀ a, ρ'.2 155 a = if a = w then v else τ.2 155 a := fun a => by
            rw [← hρ', pr_2]
            by_cases y : a = w
            · rw [if_pos ⟨rfl, y⟩, if_pos y]
            · rw [if_neg (fun z => y z.2), if_neg y, pr_2, if_neg (by omega), r155]
          have s4 : ∀ a, ρ'.2 149 a = if a = 3 then τ.2 149 3 + y01 else τ.2 149 a := fun a => by
            rw [← hρ', pr_2, if_neg (by omega), pr_2]
            by_cases y : a = 3
            · rw [if_pos ⟨rfl, y⟩, if_pos y]
            · rw [if_neg (fun z => y z.2), if_neg y, r149]
          have hSr := SI_of i1 (σ' := ρ') (by rw [s1]) (by rw [s1]; have := i1.1; omega) (fun r a1 a2 => s2 r (by omega) (by omega)) (fun a _ => by rw [s2 101 (by decide) (by decide)])
          have ej' : jw ρ' = jw ρ := by unfold jw; rw [s1]
          have ew' : ∀ a, wst ρ' a = wst ρ a := fun a => by unfold wst wfr wsz; rw [s2 101 (by decide) (by decide), s2 102 (by decide) (by decide), s2 103 (by decide) (by decide)]
          have p22 : ρ'.1 2 2 = (j : Int) := by rw [s1, i4.1 2 2 (by omega), pf_eq]
          have hfl : ∀ o k, ¬ (o = 2 ∧ k = 2) → ¬ (o = 1 ∧ (k = 13 ∨ k = 14)) → ρ'.1 o k = τ.1 o k := fun o k a1 a2 => by rw [s1, i4.1 o k a2, pf_1, if_neg a1]
          refine ⟨⟨by omega, by omega⟩, ⟨by omega, by omega⟩, ⟨by omega, by omega⟩, ⟨by omega, by omega⟩, ⟨by omega, by omega⟩, ⟨by omega, by omega⟩, hK _ _ ⟨j, i + 1, j, m', true, t + 1, by omega, p22, ⟨fun o k a1 a2 => ?_, fun r a1 a2 a3 => ?_, hM.2.2.1.trans (hS1.2.trans (hg.trans hSr.2)), hSr.1⟩, ⟨?_, ?_, fun a => ?_, fun a ha => ?_⟩, ⟨hjl.2.2, sk_gt, fun q a1 a2 => ?_⟩, ⟨hmx', hq2, by omega⟩, by omega, fun a => ?_, ⟨fun a ha => ?_, fun s hs' => ?_⟩, by omega⟩ ?_⟩
          · rw [hfl o k (by omega) (by omega)]; exact hM.1 o k a1 a2
          · rw [s2 r a2 a3, ← hM.2.1 r a1 a2 a3]
            funext a
            exact i4.2 r a (by omega)
          · rw [hfl 2 3 (by omega) (by omega)]; exact h23
          · rw [hfl 1 16 (by omega) (by omega)]; exact h16
          · rw [s3]
            split
            · exact Int.le_refl _
            · exact h155 a
          · rw [s3, if_neg (by omega)]
            exact h155n a (by omega)
          · have := sk_all q a1 a2
            unfold isSp at this
            simp only [Bool.or_eq_true, beq_iff_eq] at this
            omega
          · rw [s4]
            by_cases y : a = 3
            · rw [if_pos y, if_pos y, y]; omega
            · rw [if_neg y, if_neg y, hcn a, if_neg y]
          · rw [ej'] at ha
            rw [s3, ew', mem_take_s (by omega), ← w3]
            by_cases y : a = w
            · rw [if_pos y, y]
              exact ⟨fun _ => Or.inr rfl, fun _ => rfl⟩
            · rw [if_neg y, ← r155, hsub a ha]
              refine ⟨Or.inl, fun z => z.elim id (fun z => absurd ?_ y)⟩
              exact i1.2.2.2 a w (by omega) (by omega) z
          · rw [ej']
            rcases (mem_take_s (by omega)).mp hs' with y | y
            · obtain ⟨u, hu1, hu2⟩ := hkn2 s y
              exact ⟨u, hu1, by rw [ew', hu2]⟩
            · exact ⟨w, w2, by rw [ew', w3, y]⟩
          · rw [p22, hp]; omega
        · rw [← hpk, hlp] at h1
          exact absurd c124 h1
      · rw [e101, mt_1, hlp] at hm2
        have c124 : T p ≠ 124 := by simpa using hm2
        have hpk : p < sk isSp T e k := by
          refine Classical.byContradiction (fun hc' => ?_)
          have hpk : p = sk isSp T e k := by omega
          rcases hcase with ⟨h1, -⟩ | ⟨-, h1⟩
          · rw [← hpk, hlp] at h1; exact c124 h1
          · rw [← hpk, hlp] at h1; exact c41 h1
        rw [hp, if_pos rfl, show (p : Int) + 1 = ((p + 1 : Nat) : Int) by omega]
        refine ⟨⟨by omega, by omega⟩, WJ_dir ?_⟩
        rw [if_pos rfl]
        have hS1 := SI_pf (L := L) (o := 2) (k := 2) (x := ((p + 1 : Nat) : Int)) hM.2.2.2 (by omega)
        refine ⟨⟨by omega, by omega⟩, hK _ _ ⟨p + 1, i, k, m' + 1, b, t + 1, by omega, pf_eq, ⟨fun o k a1 a2 => by rw [pf_1, if_neg (by omega)]; exact hM.1 o k a1 a2, hM.2.1, hM.2.2.1.trans hS1.2, hS1.1⟩, ⟨by rw [pf_nk (by decide)]; exact h23, by rw [pf_no (by decide)]; exact h16, h155, fun a ha => h155n a (by have e : jw (pf τ 2 2 ((p + 1 : Nat) : Int)) = jw τ := (by unfold jw; rw [pf_no (by decide)]); omega)⟩, ⟨hke, by omega, fun q a1 a2 => hzn q (by omega) a2⟩, ⟨hmx, hmL, hi⟩, by omega, hcn, ⟨fun a ha => hmr a (by have e : jw (pf τ 2 2 ((p + 1 : Nat) : Int)) = jw τ := (by unfold jw; rw [pf_no (by decide)]); omega), fun s hs' => hkn s hs'⟩, hjw⟩ ?_⟩
        rw [pf_eq, hp]; omega
  · rw [pf_nk (by decide), pf_eq]
  · intro o k a1 a2
    rw [pf_1, if_neg (by omega), pf_1, if_neg (by omega), pf_1, if_neg (by omega)]
  · exact fun _ _ _ _ => rfl
  · have h1 := SI_pf (L := L) (o := 1) (k := 16) (x := v) hS (by omega)
    have h2 := SI_pf (L := L) (o := 2) (k := 2) (x := (src : Int)) h1.1 (by omega)
    have h3 := SI_pf (L := L) (o := 2) (k := 3) (x := (pf σ 1 16 v).1 1 3) h2.1 (by omega)
    exact ⟨h1.2.trans (h2.2.trans h3.2), h3.1⟩
  · rw [pf_eq, pf_nk (by decide)]; omega
  · rw [pf_no (by decide), pf_no (by decide), pf_eq]
  · intro w
    have := hmk w
    show σ.2 155 w ≤ v
    omega
  · intro w _
    have := hmk w
    show σ.2 155 w < v
    omega
  · exact Nat.le_trans hk0.1 sk_gt
  · intro q a1 a2
    by_cases y : q < k0
    · exact hpre q a1 y
    · exact hz0 q (by omega) a2
  · intro j
    show σ.2 149 j = _
    split <;> simp [rpk]
  · intro w _
    have := hmk w
    show σ.2 155 w = v ↔ _
    rw [List.take_zero]
    exact ⟨fun y => by omega, fun y => by cases y⟩
  · intro s hs'
    rw [List.take_zero] at hs'
    cases hs'
  · show jw (pf (pf (pf σ 1 16 v) 2 2 (src : Int)) 2 3 _) ≤ _
    have : jw (pf (pf (pf σ 1 16 v) 2 2 (src : Int)) 2 3 ((pf σ 1 16 v).1 1 3)) = jw σ := by unfold jw; rw [pf_no (by decide), pf_no (by decide), pf_nk (by decide)]
    rw [this]
    exact Nat.le_refl _
end Mmx
