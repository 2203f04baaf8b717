/-! ===== items of the class: attribute lists (2): the second time through ===== -/
section JI30
variable {L : Nat → Nat} {rm nd : Nat} {σ τ : IS} {a : AS} {Q : IS → Prop}
theorem sA_mg {l : List Int} {g : Nat × Nat} {t : List Frm} {ad ad2 : List ADc} {c c' m m' j : Nat} (hF : aF a = (l, g) :: t) : sA (adv (sN (sN (sN (sN (sA a ad) 0 c) 1 m) 0 c') 1 m') j) ad2 = adv (sN (sN (sA a ad2) 0 c') 1 m') j := by
  have hF1 : aF (sN (sN (sN (sN (sA a ad) 0 c) 1 m) 0 c') 1 m') = (l, g) :: t := hF
  have hF2 : aF (sN (sN (sA a ad2) 0 c') 1 m') = (l, g) :: t := hF
  rw [adv_of hF1, adv_of hF2]
  have e : (fun i : Nat => if i = 1 then m' else if i = 0 then c' else if i = 1 then m else if i = 0 then c else a.2.2.1 i) = (fun i => if i = 1 then m' else if i = 0 then c' else a.2.2.1 i) := by
    funext i
    by_cases h1 : i = 1
    · rw [if_pos h1, if_pos h1]
    · by_cases h0 : i = 0
      · rw [if_neg h1, if_pos h0, if_neg h1, if_pos h0]
      · simp only [h1, h0, if_false]
  exact congrArg (fun v => ((l.drop j, g) :: t, a.2.1, v, a.2.2.2.1, a.2.2.2.2.1, ad2, a.2.2.2.2.2.2)) e
theorem sN_id : sN (sN (sA a (aA a)) 0 (aN a 0)) 1 (aN a 1) = a := by
  have e : (fun i : Nat => if i = 1 then a.2.2.1 1 else if i = 0 then a.2.2.1 0 else a.2.2.1 i) = a.2.2.1 := by
    funext i
    by_cases h1 : i = 1
    · rw [if_pos h1, h1]
    · by_cases h0 : i = 0
      · rw [if_neg h1, if_pos h0, h0]
      · rw [if_neg h1, if_neg h0]
  exact congrArg (fun v => (a.1, a.2.1, v, a.2.2.2)) e
theorem rsv_ad {ad : List ADc} {x : ADc} {P : Prop} [Decidable P] : rsv (sA a (if P then ad else ad ++ [x])) ≤ rsv (sA a ad) + (if spt x.2.1 = true then 4 else 0) ∧ (if P then ad else ad ++ [x]).length ≤ ad.length + 1 := by
  by_cases hP : P
  · rw [if_pos hP]
    exact ⟨by omega, by omega⟩
  · rw [if_neg hP]
    refine ⟨?_, by rw [List.length_append, List.length_singleton]; exact Nat.le_refl _⟩
    have h1 := dst_le (l := nms (sA a ad)) (l' := nms (sA a (ad ++ [x]))) (m := if spt x.2.1 = true then [x.2.1] else []) (fun s hs hsp => by
      have e1 : nms (sA a (ad ++ [x])) = (aL a).map (fun x => x.1) ++ ((aB a).map (fun x => x.1) ++ (ad ++ [x]).map (fun x => x.2.1)) := rfl
      have e2 : nms (sA a ad) = (aL a).map (fun x => x.1) ++ ((aB a).map (fun x => x.1) ++ ad.map (fun x => x.2.1)) := rfl
      rw [e1, List.map_append, List.mem_append, List.mem_append, List.mem_append] at hs
      rw [e2, List.mem_append, List.mem_append]
      rcases hs with hs | hs | hs | hs
      · exact Or.inl (Or.inl hs)
      · exact Or.inl (Or.inr (Or.inl hs))
      · exact Or.inl (Or.inr (Or.inr hs))
      · have : s = x.2.1 := by simpa using hs
        subst this
        rw [if_pos hsp]
        exact Or.inr (List.mem_singleton.mpr rfl))
    have h2 : cnl (aD (sA a (ad ++ [x]))) = cnl (aD (sA a ad)) := rfl
    unfold rsv
    rw [h2]
    by_cases c : spt x.2.1 = true
    · rw [if_pos c] at h1 ⊢
      rw [List.length_singleton] at h1
      omega
    · rw [if_neg c] at h1 ⊢
      rw [List.length_nil] at h1
      omega
theorem spt_len {s : Str} (h : spt s = true) : 3 ≤ s.length := by
  unfold spt at h
  rw [Bool.and_eq_true, decide_eq_true_eq] at h
  exact h.1
theorem dfV_ge {T : Nat → Int} {e w v : Nat} (h : dfV T e w = some v) : w ≤ v := by
  unfold dfV at h
  split at h
  · cases h; omega
  · split at h
    · have h6 : (if sk isSp T e (w + 6) = w + 6 then none else some (sk isSp T e (w + 6))) = some v := h
      have : w + 6 ≤ sk isSp T e (w + 6) := sk_gt
      split at h6
      · cases h6
      · have := Option.some.inj h6; omega
    · cases h
/-- between two definitions -/
def AI (L : Nat → Nat) (rm nd : Nat) (pl : Int) (a : AS) (l : List Int) (p k : Nat) (el : Str) (R : Nat ⊕ (Nat × Nat × List ADc)) (xe : Int) (i c m : Nat) (ad : List ADc) (ρ : IS) : Prop :=
  RJ L rm nd ρ (adv (sN (sN (sA a ad) 0 c) 1 m) i) ∧ (ρ.1 2 2 = ((p + i : Nat) : Int) ∧ ρ.1 2 3 = ((p + l.length : Nat) : Int) ∧ SHT (gd l) (ρ.2 101) l.length p ∧ p + l.length ≤ jtp ρ ∧ Jn ρ xe el) ∧ (i ≤ l.length ∧ wd (gd l) l.length [62] (asp (gd l) l.length (adk (gd l) l.length (l.length + 1) i)) = some k ∧ dfs rm a (gd l) l.length el (adL (gd l) l.length (l.length + 1) i) c m ad = R) ∧ (aN a 0 ≤ c ∧ c ≤ rm ∧ 8 * ad.length + rem a ≤ c + i ∧ m + rem a ≤ c + i) ∧ (2 * jw ρ + rsv (sA a ad) + rem a ≤ c + 38 + (aO a).length + i ∧ jtp ρ + rem a ≤ (ρ.1 1 2).toNat + aN a 8 + c + i ∧ 2 * (ρ.1 4 16).toNat + rem a ≤ c + i ∧ 2 * jw ρ + rem a ≤ c + 38 + i ∧ ρ.1 1 16 ≤ (L 999 : Int) + (aN a 3 : Int)) ∧ ρ.1 2 5 = pl
set_option maxHeartbeats 8000000 in
set_option maxRecDepth 10000 in
theorem j_readAttributes1 {k : Nat} (hln : JLn L rm nd) (h : RJ L rm nd σ a) (hG : GA rm nd a) (hC : JC L σ a) (hm : mt (gd (cur a)) (cur a).length 0 [60, 33, 65, 84, 84, 76, 73, 83, 84] = true) (hk : alk (gd (cur a)) (cur a).length 0 = some k) (hq : JO L rm nd σ Q (iAtl rm a)) : w_Doctype_readAttributes L 1 Q σ := by
  obtain ⟨p, g, t, hF, hp, hS, hT, htp, hj⟩ := h.at hln
  have hjl := h.1.1.jtp_le
  have h9 : L 101 < 1000000 := hln.1.2.2.2.2.2.2.2
  have hcap := hC.cap hln hG
  have hrm := hln.2.1
  have h102 := hln.2.2.2.1
  have h124 : L 124 = rm / 2 + 2 := hln.2.2.2.2.2.2.2.2.1
  obtain ⟨gO, gw, ⟨r1, r2, r3, r4⟩, ⟨c1, c2, c3, c4, c5, c6⟩, ⟨b1', b2⟩, gp, ho, ⟨gf1, gf2⟩, g1, g2, g3, g4⟩ := id hG
  have hremc : (cur a).length ≤ rem a := by
    unfold rem
    rw [hF]
    simp only [List.map_cons, List.sum_cons]
    omega
  have h12 := h.1.2.2.2.2.2.2.2
  have hL101 : L 101 = 256 + (if rm < 65536 then rm else 65536) + rm := hln.2.2.1
  have hN8 : aN a 8 ≤ (if rm < 65536 then rm else 65536) := by split <;> omega
  have hm' : mt (σ.2 101) (p + (cur a).length) p [60, 33, 65, 84, 84, 76, 73, 83, 84] = true := by
    have := sh_mt hT [60, 33, 65, 84, 84, 76, 73, 83, 84] 0
    rw [show p + 0 = p by omega] at this
    rw [this]; exact hm
  have h10 : 9 ≤ (cur a).length := wd_bad (l := [60, 33, 65, 84, 84, 76, 73, 83, 84]) ti_1029 (by decide) hm
  obtain ⟨d1, d2, d3, d4, d5⟩ := id hC
  have hid0 : iAtl rm a = match spc (gd (cur a)) (cur a).length (some 9), alk (gd (cur a)) (cur a).length 0 with
    | some s, some k => match nmg (gd (cur a)) (cur a).length true (some s) with
      | some n => match dfs rm a (gd (cur a)) (cur a).length (sl (gd (cur a)) s (n - s)) (adL (gd (cur a)) (cur a).length ((cur a).length + 1) n) (aN a 0) (aN a 1) (aA a) with
        | .inl f => .inl f
        | .inr (c, m, ad) => .inr (adv (sN (sN (sA a ad) 0 c) 1 m) k)
      | none => .inl 5
    | _, _ => .inl 5 := rfl
  generalize hl : cur a = l at *
  have hk2 : wd (gd l) l.length [62] (asp (gd l) l.length ((nmg (gd l) l.length true (spc (gd l) l.length (some 9))).bind (adk (gd l) l.length (l.length + 1)))) = some k := hk
  cases hs1 : spc (gd l) l.length (some 9) with
  | none => rw [hs1] at hk2; cases hk2
  | some s =>
    cases hn1 : nmg (gd l) l.length true (some s) with
    | none => rw [hs1, hn1] at hk2; cases hk2
    | some n =>
      rw [hs1, hn1, Option.bind_some] at hk2
      rw [hs1, hk] at hid0
      dsimp only at hid0
      rw [hn1] at hid0
      dsimp only at hid0
      have hsl := spc_gt h10 hs1
      have hnl := nmg_lt hn1
      generalize hel : sl (gd l) s (n - s) = el at *
      generalize hRR : dfs rm a (gd l) l.length el (adL (gd l) l.length (l.length + 1) n) (aN a 0) (aN a 1) (aA a) = R at *
      unfold w_Doctype_readAttributes
      refine p_need hS (by omega) ti_1029 (by decide) hj (fun τ1 h1 => ?_)
      have hw : wd (σ.2 101) (p + l.length) [60, 33, 65, 84, 84, 76, 73, 83, 84] (some p) = some (p + 9) := by
        show (if mt (σ.2 101) (p + l.length) p [60, 33, 65, 84, 84, 76, 73, 83, 84] = true then some (p + 9) else none) = _
        rw [if_pos hm']
      rw [hw] at h1
      refine p_needSpace hS (by omega) h1 (fun τ2 h2 => p_readName hS (by omega) h2 (fun v6 τ3 h3 hv6 _ => ?_))
      rw [sh_spcs hT, hs1, mvo_some, sh_nmgs hT, hn1, mvo_some] at h3
      have hv6' := hv6 (p + s) (by rw [sh_spcs hT, hs1, mvo_some])
      refine WJ_of (fun xe ρ => AI L rm nd (σ.1 2 5) a l p k el R xe n (aN a 0) (aN a 1) (aA a) ρ) (fun J hJ => ?_) ?_
      · rw [if_neg (by decide), h3.at.1, hv6']
        refine ⟨⟨by omega, by omega⟩, ?_⟩
        obtain ⟨hR, hg0⟩ := h.rd hln hp (show n ≤ (cur a).length by rw [hl]; omega) h3
        obtain ⟨s1, s2, s3, s4, s5⟩ := h3.store
        have hstr : sl (τ3.2 101) (p + s) (n - s) = el := by rw [h3.row, ← hel]; exact sh_sl hT (by omega)
        refine sp_int (s := p + s) (n := n - s) hln hR (by omega) (by omega) rfl (by omega) (fun x σ1 hR2 hg2 hJn hjw2 hjt2 hfr => hJ _ _ ?_)
        rw [hstr] at hJn
        have e22 : σ1.1 2 2 = ((p + n : Nat) : Int) := by rw [hfr.1 2 2 (by omega)]; exact h3.at.1
        have e23 : σ1.1 2 3 = ((p + l.length : Nat) : Int) := by rw [hfr.1 2 3 (by omega), h3.keep (by omega) (by omega)]; exact hS.1
        have e12 : σ1.1 1 2 = σ.1 1 2 := by rw [hfr.1 1 2 (by omega)]; exact s3
        have e416 : σ1.1 4 16 = σ.1 4 16 := by rw [hfr.1 4 16 (by omega)]; exact s4
        have e25 : σ1.1 2 5 = σ.1 2 5 := by rw [hfr.1 2 5 (by omega)]; exact s5
        have ers : rsv (sA a (aA a)) = rsv a := rfl
        refine ⟨by rw [sN_id]; exact hR2, ⟨e22, e23, (hT.gr (by omega) hg0).gr (by omega) hg2, by omega, hJn⟩, ⟨hnl.2.2, hk2, hRR⟩, ⟨Nat.le_refl _, r2, by omega, by omega⟩, ⟨by rw [ers]; omega, by rw [e12]; omega, by rw [e416]; omega, by omega, by rw [hfr.1 1 16 (by omega), h3.keep (by omega) (by omega)]; exact d5⟩, e25⟩
      · rintro xe ρ0 hA0
        refine WL_ind (fun s ρ => (∃ i c m ad, AI L rm nd (σ.1 2 5) a l p k el R xe i c m ad ρ ∧ 0 ≤ s ∧ s ≤ (i : Int)) ∨ ∃ f, R = .inl f ∧ JBd L rm nd ρ f (σ.1 2 5)) (fun s _ => (1000000 - s).toNat) ?_ 0 ρ0 (Or.inl ⟨n, aN a 0, aN a 1, aA a, hA0, by omega, by omega⟩)
        rintro s' ρ hI K hK
        try dsimp only
        rcases hI with ⟨i, c, m, ad, ⟨hR, ⟨h22, h23, hTρ, htρ, hJe⟩, ⟨hi, hwd, hdfs⟩, ⟨n1, n2, n3, n4⟩, ⟨k1, k2, k3, k4, k5⟩, h25⟩, hs0, hsi⟩ | ⟨f, hRf, hB⟩
        · have hf0 : ρ.1 2 4 = 0 := hR.2.2.2.2.2.2.2.2.2.2.2.1
          have hjlρ := hR.1.1.jtp_le
          have hJS : JS L ρ (p + l.length) := ⟨h23, by omega, h9, hf0, hR.1.2.2.2.2.2.1⟩
          have h12ρ := hR.1.2.2.2.2.2.2.2
          have hFB : ∀ ad c m, aF (sN (sN (sA a ad) 0 c) 1 m) = (l, g) :: t := fun _ _ _ => hF
          have hcurB : ∀ ad c m i, (cur (adv (sN (sN (sA a ad) 0 c) 1 m) i)).length = l.length - i := fun ad c m i => by
            rw [adv_of (hFB ad c m)]
            show (l.drop i).length = _
            rw [List.length_drop]
          rw [if_pos ⟨by omega, hf0⟩]
          refine p_skipSpace hJS (by omega) (show jp (p + l.length) 0 ρ (some (p + i)) ρ from jp.start' hJS (by omega) h22) (fun v16 ρ1 h1 _ hv16 => ?_)
          have hv := hv16 (p + i) rfl
          rw [sh_asps hTρ] at h1
          have h1' : jp (p + l.length) 0 ρ (some (p + sk isSp (gd l) l.length i)) ρ1 := h1
          rw [sh_sk hTρ] at hv
          have hyl := sk_le (p := isSp) (T := gd l) hi
          generalize hy : sk isSp (gd l) l.length i = y at *
          refine p_skip hJS (by omega) ti_1025 (by decide) h1' (fun v18 ρ2 h2 _ hv18 => ?_)
          rw [hv18 (p + y) rfl, if_b1, sh_mt hTρ]
          have h2' : jp (p + l.length) 0 ρ (if mt (ρ.2 101) (p + l.length) (p + y) [62] = true then some (p + y + 1) else some (p + y)) ρ2 := h2
          rw [sh_mt hTρ] at h2'
          by_cases c62 : mt (gd l) l.length y [62] = true
          · rw [if_pos c62]
            rw [if_pos c62] at h2'
            have hlk62 : lk (gd l) l.length y = 62 := by rw [mt1] at c62; simpa using c62
            have hadk : adk (gd l) l.length (l.length + 1) i = some i ∧ adL (gd l) l.length (l.length + 1) i = [] := by
              rw [adk_step hi, adL_step hi]
              cases hsp : spc (gd l) l.length (some i) with
              | none => exact ⟨rfl, rfl⟩
              | some x =>
                have g5 := spc_gt hi hsp
                have hx : nmg (gd l) l.length true (some x) = none := by
                  show (if (if true = true then isSt (lk (gd l) l.length x) else isNm (lk (gd l) l.length x)) = true then some (sk isNm (gd l) l.length (x + 1)) else none) = none
                  rw [if_pos rfl, g5.2.2, hy, hlk62, if_neg (by decide)]
                dsimp only
                rw [hx]
                exact ⟨rfl, rfl⟩
            rw [hadk.1] at hwd
            have hwd2 : wd (gd l) l.length [62] (some (sk isSp (gd l) l.length i)) = some k := hwd
            rw [hy] at hwd2
            have hky := wd1 (by decide) hwd2
            rw [hadk.2] at hdfs
            have hdfs2 : (Sum.inr (c, m, ad) : Nat ⊕ (Nat × Nat × List ADc)) = R := hdfs
            rw [← hdfs2] at hid0
            dsimp only at hid0
            obtain ⟨hR2, hg2⟩ := hR.rd hln h22 (show k - i ≤ _ by rw [hcurB]; omega) (show jp (p + l.length) 0 ρ (some (p + i + (k - i))) ρ2 from by rw [show p + i + (k - i) = p + y + 1 by omega]; exact h2')
            rw [adv_adv, show i + (k - i) = k by omega] at hR2
            obtain ⟨s1, s2, s3, s4, s5⟩ := h2'.store
            refine hq.2 _ hid0 ρ2 hR2 ?_ (by rw [s5]; exact h25)
            have hB1 : cur (sN (sN (sA a ad) 0 c) 1 m) = l := hl
            have hrk := rem_adv (a := sN (sN (sA a ad) 0 c) 1 m) (k := k) (by rw [hB1]; omega)
            have hrB : rem (sN (sN (sA a ad) 0 c) 1 m) = rem a := rfl
            obtain ⟨o1, o2, o3, o4, o5, o6, o7, o8, o9, o10⟩ := adv_other (a := sN (sN (sA a ad) 0 c) 1 m) (k := k)
            have hrs : rsv (adv (sN (sN (sA a ad) 0 c) 1 m) k) = rsv (sA a ad) := rsv_eq (by rw [o7]; rfl) (by rw [o8]; rfl) (by rw [o5]; rfl) (by rw [o4]; rfl)
            have e0 : aN (adv (sN (sN (sA a ad) 0 c) 1 m) k) 0 = c := by rw [o2]; rfl
            have e8 : aN (adv (sN (sN (sA a ad) 0 c) 1 m) k) 8 = aN a 8 := by rw [o2]; rfl
            have eO : aO (adv (sN (sN (sA a ad) 0 c) 1 m) k) = aO a := by rw [o10]; rfl
            unfold JC
            have e3 : aN (adv (sN (sN (sA a ad) 0 c) 1 m) k) 3 = aN a 3 := by rw [o2]; rfl
            rw [hrs, e0, e8, e3, eO, s1, s2, s3, s4]
            exact ⟨by omega, by omega, by omega, by omega, by rw [h2'.keep (by omega) (by omega)]; exact k5⟩
          · rw [if_neg c62]
            rw [if_neg c62] at h2'
            have hno : adk (gd l) l.length (l.length + 1) i = some i → False := fun ha => by
              rw [ha] at hwd
              have hwd2 : (if mt (gd l) l.length (sk isSp (gd l) l.length i) [62] = true then some (sk isSp (gd l) l.length i + 1) else none) = some k := hwd
              rw [hy, if_neg c62] at hwd2
              cases hwd2
            have hst := adk_step (T := gd l) hi
            have hLs := adL_step (T := gd l) hi
            cases hsp : spc (gd l) l.length (some i) with
            | none => rw [hsp] at hst; exact (hno hst).elim
            | some x =>
              have g5 := spc_gt hi hsp
              have hxy : x = y := by rw [g5.2.2, hy]
              rw [hxy] at hsp g5
              rw [hsp] at hst hLs
              dsimp only at hst hLs
              cases hnm : nmg (gd l) l.length true (some y) with
              | none => rw [hnm] at hst; exact (hno hst).elim
              | some b0 =>
                rw [hnm] at hst hLs
                dsimp only at hst hLs
                cases hdn : dfn (gd l) l.length y with
                | none => rw [hdn] at hst; dsimp only at hst; rw [hst] at hwd; cases hwd
                | some j =>
                  rw [hdn] at hst hLs
                  dsimp only at hst hLs
                  rw [hst] at hwd
                  rw [hLs] at hdfs
                  refine WJ_dir ?_
                  dsimp only
                  rw [if_neg (by rw [hv, if_neg (by omega)]; decide)]
                  obtain ⟨b, yy, w0, w, q1, q2, q3, q4, q5, q6, q7, q8, q9, q10, q11, q12⟩ := dfn_len hdn
                  obtain ⟨hR2, hg2⟩ := hR.rd hln h22 (show y - i ≤ _ by rw [hcurB]; omega) (show jp (p + l.length) 0 ρ (some (p + i + (y - i))) ρ2 from by rw [show p + i + (y - i) = p + y by omega]; exact h2')
                  rw [adv_adv, show i + (y - i) = y by omega] at hR2
                  obtain ⟨s1, s2, s3, s4, s5⟩ := h2'.store
                  have hT2 : SHT (gd l) (ρ2.2 101) l.length p := by rw [h2'.row]; exact hTρ
                  have hall : ((atyL (gd l) l.length yy).map (fun z => sl (gd l) z.1 (z.2 - z.1))).length = (atyL (gd l) l.length yy).length := List.length_map _
                  have h16z := hR.2.2.2.2.2.2.1.2.2.2
                  have eN0 : aN (sN (sN (sA a ad) 0 c) 1 m) 0 = c := rfl
                  have eN1 : aN (sN (sN (sA a ad) 0 c) 1 m) 1 = m := rfl
                  have hdfa : ∀ f ρ', dfa rm a (gd l) l.length el y c m ad = .inl f → JBd L rm nd ρ' f (ρ2.1 2 5) → inR (s' + 1) ∧ K (s' + 1) ρ' := by
                    intro f ρ' hd hB
                    refine ⟨⟨by omega, by omega⟩, hK _ _ (Or.inr ⟨f, ?_, by rw [s5, h25] at hB; exact hB⟩) (by omega)⟩
                    rw [← hdfs]
                    show (match dfa rm a (gd l) l.length el y c m ad with
                      | .inl f => (Sum.inl f : Nat ⊕ (Nat × Nat × List ADc))
                      | .inr (c', m', ad') => dfs rm a (gd l) l.length el (adL (gd l) l.length (l.length + 1) j) c' m' ad') = _
                    rw [hd]
                  refine j_df (B := sN (sN (sA a ad) 0 c) 1 m) (el := el) (KK := fun σ41 => inR (s' + 1) ∧ K (s' + 1) σ41) hln hR2 (hFB ad c m) h2'.at.1 (by rw [h2'.keep (by omega) (by omega)]; exact h23) hT2 (by omega) (hJe.gr hg2) q1 q2 q3 q4 q5 rfl (by rw [hall]; omega) (by rw [hall, s4]; omega) (by rw [hall, s4]; omega) gO (show (aE a).length < _ by omega) gp.2.2.1 n2 (by rw [eN0]; omega) (by rw [eN1]; omega) (by rw [eN0]; omega) (show ad.length ≤ _ by omega) (fun f ρ' v v1 v2 v3 hB => hdfa f ρ' ?_ hB) (fun c' m' vl ρ' hor hR' hg' hjw' hjt' h16' h12' h25' h23' hs16' => ?_)
                  · have v3' : val rm a (sl (gd l) (v + 1) (j - 1 - (v + 1))) c m = .inl f := v3
                    unfold dfa
                    rw [q1]
                    dsimp only
                    rw [q2]
                    dsimp only
                    rw [q3, q4]
                    dsimp only
                    rw [v1]
                    dsimp only
                    rw [v2]
                    dsimp only
                    rw [v3']
                  · rw [hall] at hjw' h16'
                    have hR3 : RJ L rm nd ρ' (sA (adv (sN (sN (sN (sN (sA a ad) 0 c) 1 m) 0 c') 1 m') j) (if (adf ad el (sl (gd l) y (b - y))).isSome = true then ad else ad ++ [(el, sl (gd l) y (b - y), atyN (gd l) l.length yy, dfK (gd l) l.length w, vl, (atyL (gd l) l.length yy).map (fun z => sl (gd l) z.1 (z.2 - z.1)))])) := hR'
                    rw [sA_mg hF] at hR3
                    have hnum : c ≤ c' ∧ m ≤ m' ∧ c' ≤ rm ∧ vl.length + m' + c + w + 2 ≤ j + m + c' ∧ dfa rm a (gd l) l.length el y c m ad = .inr (c', m', if (adf ad el (sl (gd l) y (b - y))).isSome = true then ad else ad ++ [(el, sl (gd l) y (b - y), atyN (gd l) l.length yy, dfK (gd l) l.length w, vl, (atyL (gd l) l.length yy).map (fun z => sl (gd l) z.1 (z.2 - z.1)))]) := by
                      rcases hor with ⟨v1, e1, e2, e3⟩ | ⟨v, out, v1, v2, v3, e3, e4⟩
                      · have e1' : c' = c := e1
                        have e2' : m' = m := e2
                        refine ⟨by omega, by omega, by omega, by rw [e3, List.length_nil]; omega, ?_⟩
                        unfold dfa
                        rw [q1]
                        dsimp only
                        rw [q2]
                        dsimp only
                        rw [q3, q4]
                        dsimp only
                        rw [v1, e1', e2', e3]
                      · have v3' : val rm a (sl (gd l) (v + 1) (j - 1 - (v + 1))) c m = .inr (c', m', out) := v3
                        have hvm := val_mk v3'
                        have hvw := dfV_ge v1
                        have hvg := vlp_gt v2
                        have hnr := nrt_len (atyN (gd l) l.length yy) out
                        rw [sl_len2] at hvm
                        refine ⟨hvm.1, hvm.2.1, e4, by rw [e3]; omega, ?_⟩
                        unfold dfa
                        rw [q1]
                        dsimp only
                        rw [q2]
                        dsimp only
                        rw [q3, q4]
                        dsimp only
                        rw [v1]
                        dsimp only
                        rw [v2]
                        dsimp only
                        rw [v3', e3]
                    obtain ⟨u1, u2, u3, u4, u5⟩ := hnum
                    have hrs := rsv_ad (a := a) (ad := ad) (x := (el, sl (gd l) y (b - y), atyN (gd l) l.length yy, dfK (gd l) l.length w, vl, (atyL (gd l) l.length yy).map (fun z => sl (gd l) z.1 (z.2 - z.1)))) (P := (adf ad el (sl (gd l) y (b - y))).isSome = true)
                    have hsp3 : (if spt (sl (gd l) y (b - y)) = true then 4 else 0) + y + 1 ≤ b + 2 ∧ (if spt (sl (gd l) y (b - y)) = true then 4 else 0) ≤ 4 := by
                      by_cases c3 : spt (sl (gd l) y (b - y)) = true
                      · rw [if_pos c3]
                        have := spt_len c3
                        rw [sl_len2] at this
                        omega
                      · rw [if_neg c3]
                        omega
                    dsimp only at hrs
                    generalize hsv : (if spt (sl (gd l) y (b - y)) = true then 4 else 0) = sv at *
                    generalize hA2 : (if (adf ad el (sl (gd l) y (b - y))).isSome = true then ad else ad ++ [(el, sl (gd l) y (b - y), atyN (gd l) l.length yy, dfK (gd l) l.length w, vl, (atyL (gd l) l.length yy).map (fun z => sl (gd l) z.1 (z.2 - z.1)))]) = ad2 at *
                    have hdf2 : dfs rm a (gd l) l.length el (adL (gd l) l.length (l.length + 1) j) c' m' ad2 = R := by
                      rw [← hdfs]
                      show _ = (match dfa rm a (gd l) l.length el y c m ad with
                        | .inl f => (Sum.inl f : Nat ⊕ (Nat × Nat × List ADc))
                        | .inr (c', m', ad') => dfs rm a (gd l) l.length el (adL (gd l) l.length (l.length + 1) j) c' m' ad')
                      rw [u5]
                    obtain ⟨p', g', t', hF', hp', hS', -, -, -⟩ := hR3.at hln
                    have hc3 := hcurB ad2 c' m' j
                    have hS1 := hS'.1
                    rw [h23', h2'.keep (by omega) (by omega), h23, hc3] at hS1
                    have e22 : ρ'.1 2 2 = ((p + j : Nat) : Int) := by rw [hp']; omega
                    refine ⟨⟨by omega, by omega⟩, hK _ _ (Or.inl ⟨j, c', m', ad2, ⟨hR3, ⟨e22, by rw [h23', h2'.keep (by omega) (by omega)]; exact h23, hT2.gr (by omega) hg', by have := hg'.2.1; omega, (hJe.gr hg2).gr hg'⟩, ⟨q12, hwd, hdf2⟩, ⟨by omega, u3, by omega, by omega⟩, ⟨by omega, by rw [h12', s3]; omega, ?_, by omega, by rw [hs16', h2'.keep (by omega) (by omega)]; exact k5⟩, by rw [h25', s5]; exact h25⟩, by omega, by omega⟩) (by omega)⟩
                    rw [s4] at h16'
                    omega
        · rw [if_neg (by rw [hB.2.1]; have := hB.2.2.1; omega)]
          refine sp_Reader_fail ?_
          have e : flt ρ 5 = ρ := by unfold flt; rw [if_neg (by rw [hB.2.1]; have := hB.2.2.1; omega)]
          rw [e]
          refine hq.1 f ?_ ρ hB
          rw [hid0, hRf]
end JI30
