/-! ===== items of the reference: notations, the declaration ===== -/
/-- the name that a declaration of a notation keeps -/
def nmN (a : AS) : List Str := match ntk (gd (cur a)) (cur a).length 0, spc (gd (cur a)) (cur a).length (some 10), nmg (gd (cur a)) (cur a).length true (spc (gd (cur a)) (cur a).length (some 10)) with
  | some _, some s, some n => [sl (gd (cur a)) s (n - s)]
  | _, _, _ => []
def dvN (a : AS) (k : Nat) : Nat := if k = 20 then ((nmN a).filter (fun s => decide (s ∈ aT a))).length else 0
section Knt
variable {L : Nat → Nat} {rm nd o : Nat} {σ τ : IS} {g g' : KG} {a a' A : AS} {Q : IS → Prop} {R : Int → IS → Prop} {T : Nat → Int} {x v w : Int} {s : Str} {e : Nat}
theorem mem_kpS {bk : List Str} {x s : Str} : x ∈ kpS bk s ↔ x ∈ bk ∨ x = s := by
  unfold kpS
  split
  · rename_i c
    exact ⟨Or.inl, fun z => z.elim id (fun y => y ▸ c)⟩
  · rw [List.mem_append, List.mem_singleton]
theorem mem_kpL {x : Str} : ∀ {l bk : List Str}, x ∈ kpL bk l ↔ x ∈ bk ∨ x ∈ l
  | [], bk => by show x ∈ bk ↔ _; simp
  | s :: l, bk => by
    show x ∈ kpL (kpS bk s) l ↔ _
    rw [mem_kpL, mem_kpS, List.mem_cons, or_assoc]
theorem kpS_len {bk : List Str} : (kpS bk s).length ≤ bk.length + 1 := by
  unfold kpS
  split
  · omega
  · rw [List.length_append]; exact Nat.le_refl _
theorem kpL_len : ∀ {l bk : List Str}, (kpL bk l).length ≤ bk.length + l.length
  | [], bk => Nat.le_refl _
  | s :: l, bk => by
    have := kpL_len (l := l) (bk := kpS bk s)
    have := kpS_len (bk := bk) (s := s)
    show (kpL (kpS bk s) l).length ≤ bk.length + (l.length + 1)
    omega
/-- a name is looked for in a row of names -/
theorem sp_fnd' {row fld : Nat} {names : List Str} {W : Int → IS → Prop} (hn : (gB g).Nodup) (hv : Kf (gB g) v s) (hlen : σ.1 16 fld = (names.length : Int)) (hl : names.length ≤ L row) (hl2 : names.length ≤ 1000000) (hr : ∀ i, i < names.length → Kn (gB g) (σ.2 row i) (names.getD i [])) (h : ∀ n, n ≤ names.length → (∀ j, j < n → names.getD j [] ≠ s) → (n < names.length → names.getD n [] = s) → W (n : Int) σ) : WL (fun (K1 : Int → IS → Prop) (s3 : Int) (σ4 : IS) => ((s3 < (σ4.1 16 fld) → inL L row s3)) ∧ if s3 < (σ4.1 16 fld) ∧ (¬ (σ4.2 row (Int.toNat s3)) = v) then inR (s3 + 1) ∧ K1 (s3 + 1) σ4 else W s3 σ4) 0 σ := by
  refine WL_ind (fun k ρ => ρ = σ ∧ ∃ n : Nat, k = (n : Int) ∧ n ≤ names.length ∧ ∀ j, j < n → names.getD j [] ≠ s) (fun k _ => (σ.1 16 fld - k).toNat) ?_ 0 σ ⟨rfl, 0, rfl, Nat.zero_le _, fun j hj => absurd hj (Nat.not_lt_zero j)⟩
  rintro k ρ ⟨rfl, n, rfl, n1, n2⟩ K hI
  refine ⟨fun z => ⟨by omega, by omega⟩, ?_⟩
  rw [show Int.toNat (n : Int) = n from rfl]
  by_cases c : n < names.length ∧ names.getD n [] ≠ s
  · rw [if_pos ⟨by omega, fun z => c.2 ((Kf.iff hn hv (hr n c.1)).mp z)⟩]
    refine ⟨⟨by omega, by omega⟩, hI _ _ ⟨rfl, n + 1, by omega, by omega, fun j hj => ?_⟩ (by omega)⟩
    by_cases cj : j = n
    · rw [cj]; exact c.2
    · exact n2 j (by omega)
  · rw [if_neg (fun z => c ⟨by omega, fun y => z.2 ((Kf.iff hn hv (hr n (by omega))).mpr y)⟩)]
    exact h n n1 n2 (fun z => Classical.byContradiction (fun y => c ⟨z, y⟩))
theorem fnd_mem {names : List Str} {n : Nat} (n1 : n ≤ names.length) (n2 : ∀ j, j < n → names.getD j [] ≠ s) (n3 : n < names.length → names.getD n [] = s) : n < names.length ↔ s ∈ names := by
  constructor
  · intro z
    have := n3 z
    rw [← this, List.getD_eq_getElem?_getD, List.getElem?_eq_getElem z]
    exact List.getElem_mem _
  · intro z
    obtain ⟨j, j1, j2⟩ := mem_gd z
    refine Classical.byContradiction (fun y => ?_)
    exact n2 j (by omega) j2
theorem sp_K_isNotation (hL : KLn L o rm nd) (h : RK rm nd o σ g A) (hT : (aT A).length ≤ 8300) (hv : Kf (gB g) v s) (hq : R (b1 (decide (s ∈ aT A))) σ) : w_KReader_isNotation L v R σ := by
  obtain ⟨h1, h2⟩ := h.2.2.2.2.2.2.2.1
  have hl := kpL_len (l := aT A) (bk := [])
  rw [List.length_nil, Nat.zero_add] at hl
  have l7 := hL.2.2.2.2.2.2.1 187 (by omega) (by omega)
  unfold w_KReader_isNotation
  refine sp_fnd' (names := kpL [] (aT A)) (W := fun s3 σ4 => R (if s3 < (σ4.1 16 34) then (1 : Int) else (0 : Int)) σ4) h.1.2.1 hv h1 (by omega) (by omega) h2 (fun n n1 n2 n3 => ?_)
  have hm := fnd_mem n1 n2 n3
  rw [mem_kpL] at hm
  have hm' : n < (kpL [] (aT A)).length ↔ s ∈ aT A := hm.trans ⟨fun z => z.elim (fun y => absurd y List.not_mem_nil) id, Or.inr⟩
  by_cases c : s ∈ aT A
  · rw [if_pos (by have := hm'.mpr c; omega)]
    rw [decide_eq_true c] at hq
    exact hq
  · rw [if_neg (fun z => c (hm'.mp (by omega)))]
    rw [decide_eq_false c] at hq
    exact hq
theorem wd_c {c d : Int} {i : Nat} {l : List Int} (h : lk T e i = d) (hcd : d ≠ c) : wd T e (c :: l) (some i) = none := by
  rw [wd_mt, if_neg]
  intro z
  have z' : ((lk T e i == c) && mt T e (i + 1) l) = true := z
  rw [Bool.and_eq_true, beq_iff_eq] at z'
  exact hcd (h.symm.trans z'.1)
theorem nt_eq {t : Option Nat} (ht : ple e t) : wd T e [62] (asp T e (if outs T e t = none then plt T e (spc T e (wd T e [80, 85, 66, 76, 73, 67] t)) else outs T e t)) = wd T e [62] (asp T e (outJ T e true t)) := by
  cases t with
  | none => rfl
  | some p =>
    by_cases hs : mt T e p [83, 89, 83, 84, 69, 77] = true
    · have e1 : wd T e [83, 89, 83, 84, 69, 77] (some p) = some (p + 6) := by rw [wd_mt, if_pos hs]; rfl
      have e2 : outs T e (some p) = ltl T e (spc T e (some (p + 6))) := by unfold outs; rw [e1]
      have e3 : outJ T e true (some p) = ltl T e (spc T e (some (p + 6))) := by
        show (if mt T e p [83, 89, 83, 84, 69, 77] = true then _ else _) = _
        rw [if_pos hs]
      rw [e2, e3]
      cases hl : ltl T e (spc T e (some (p + 6))) with
      | none =>
        rw [if_pos rfl]
        have hs' : ((lk T e p == 83) && mt T e (p + 1) [89, 83, 84, 69, 77]) = true := hs
        rw [Bool.and_eq_true, beq_iff_eq] at hs'
        rw [wd_c hs'.1 (by decide)]
        rfl
      | some z => rw [if_neg (by simp)]
    · have e1 : wd T e [83, 89, 83, 84, 69, 77] (some p) = none := by rw [wd_mt, if_neg hs]
      have e2 : outs T e (some p) = ltl T e (spc T e (plt T e (spc T e (wd T e [80, 85, 66, 76, 73, 67] (some p))))) := by unfold outs; rw [e1]
      have e3 : outJ T e true (some p) = match plt T e (spc T e (wd T e [80, 85, 66, 76, 73, 67] (some p))) with
          | none => none
          | some j => if sk isSp T e j ≠ j ∧ isQt (lk T e (sk isSp T e j)) = true then ltl T e (some (sk isSp T e j)) else if true = true then some (sk isSp T e j) else none := by
        show (if mt T e p [83, 89, 83, 84, 69, 77] = true then _ else _) = _
        rw [if_neg hs]
        rfl
      rw [e2, e3]
      cases hx : plt T e (spc T e (wd T e [80, 85, 66, 76, 73, 67] (some p))) with
      | none => rfl
      | some j =>
        have hj : j ≤ e := plt_le _ hx
        show wd T e [62] (asp T e (if ltl T e (spc T e (some j)) = none then some j else ltl T e (spc T e (some j)))) = wd T e [62] (asp T e (if sk isSp T e j ≠ j ∧ isQt (lk T e (sk isSp T e j)) = true then ltl T e (some (sk isSp T e j)) else some (sk isSp T e j)))
        have hid : asp T e (some (sk isSp T e j)) = asp T e (some j) := by
          show some (sk isSp T e (sk isSp T e j)) = some (sk isSp T e j)
          rw [sk_idem hj]
        have hsp : spc T e (some j) = if sk isSp T e j = j then none else some (sk isSp T e j) := rfl
        rw [hsp]
        by_cases c1 : sk isSp T e j = j
        · rw [if_pos c1]
          rw [if_neg (show ¬ (sk isSp T e j ≠ j ∧ isQt (lk T e (sk isSp T e j)) = true) from fun z => z.1 c1), if_pos (show ltl T e none = none from rfl), hid]
        · rw [if_neg c1]
          by_cases c2 : isQt (lk T e (sk isSp T e j)) = true
          · rw [if_pos (show (sk isSp T e j ≠ j ∧ isQt (lk T e (sk isSp T e j)) = true) from ⟨c1, c2⟩)]
            cases hl : ltl T e (some (sk isSp T e j)) with
            | none =>
              rw [if_pos rfl]
              show wd T e [62] (some (sk isSp T e j)) = none
              have c2' : lk T e (sk isSp T e j) = 34 ∨ lk T e (sk isSp T e j) = 39 := by
                unfold isQt at c2
                rw [Bool.or_eq_true, beq_iff_eq, beq_iff_eq] at c2
                exact c2
              rcases c2' with y | y
              · exact wd_c y (by decide)
              · exact wd_c y (by decide)
            | some z => rw [if_neg (by simp)]
          · have hl : ltl T e (some (sk isSp T e j)) = none := by
              unfold ltl
              exact if_neg (fun z => c2 (by
                first
                  | exact z
                  | exact z.1))
            rw [hl, if_pos rfl, if_neg (show ¬ (sk isSp T e j ≠ j ∧ isQt (lk T e (sk isSp T e j)) = true) from fun z => c2 z.2), hid]
set_option maxHeartbeats 2000000 in
theorem qI_not (hL : KLn L o rm nd) (h : RK rm nd o σ g a) (hG : GK rm nd a) (hC : KC rm g a) (hm : 10 ≤ (cur a).length) (hV : gV g 20 ≤ 1000000000) (hcap : kcL (gB g) (nmN a)) (hTl : (aT a).length < 8300) (hq : KO rm nd o σ g Q (iNot a) (nmN a) (dvN a)) : w_KReader_notation L Q σ := by
  obtain ⟨p, q, t, hF', h1, h2, hK, hc, hS, hp⟩ := h.at_ hL
  have hK2 := hK.2.2
  have ho := hL.2.1
  have r1 := rf_1 ho
  have l7 := hL.2.2.2.2.2.2.1 187 (by omega) (by omega)
  have l18 : L (rfo o 18) = 23 := hL.2.2.2.2.2.2.2.2.2.2.2.2.2.2.2.2.2.2.2.1
  unfold w_KReader_notation
  rw [h1]
  have p10 : ple (cur a).length (some 10) := fun i hi => by cases hi; exact hm
  refine ⟨⟨by omega, by omega⟩, kr_spc hK hS (some 10) rfl p10 ?_⟩
  refine kr_name hK hS _ rfl (spc_le p10) ?_
  refine kr_spc hK hS _ rfl nmg_le ?_
  refine kr_outside hK hc hS _ rfl (spc_le nmg_le) ?_
  have entk : ntk (gd (cur a)) (cur a).length 0 = wd (gd (cur a)) (cur a).length [62] (asp (gd (cur a)) (cur a).length (outJ (gd (cur a)) (cur a).length true (spc (gd (cur a)) (cur a).length (nmg (gd (cur a)) (cur a).length true (spc (gd (cur a)) (cur a).length (some 10)))))) := rfl
  generalize htt : spc (gd (cur a)) (cur a).length (nmg (gd (cur a)) (cur a).length true (spc (gd (cur a)) (cur a).length (some 10))) = tt at entk ⊢
  have ptt : ple (cur a).length tt := by rw [← htt]; exact spc_le nmg_le
  rw [← nt_eq ptt] at entk
  refine WJ_of (fun z ρ => ρ = σ ∧ z = enc (mvo p (if outs (gd (cur a)) (cur a).length tt = none then plt (gd (cur a)) (cur a).length (spc (gd (cur a)) (cur a).length (wd (gd (cur a)) (cur a).length [80, 85, 66, 76, 73, 67] tt)) else outs (gd (cur a)) (cur a).length tt))) (fun J hJ => ?_) ?_
  · cases hou : outs (gd (cur a)) (cur a).length tt with
    | none =>
      rw [if_pos (show enc (mvo p none) < 0 from (by show (-1 : Int) < 0; decide))]
      refine kr_word hK hS _ rfl ptt ti_1099 ?_
      refine kr_spc hK hS _ rfl (wdl_le ti_1099 ptt) ?_
      refine kr_public hK hc hS _ rfl (spc_le (wdl_le ti_1099 ptt)) ?_
      exact hJ _ _ ⟨rfl, by rw [hou, if_pos rfl]⟩
    | some z =>
      rw [if_neg (show ¬ enc (mvo p (some z)) < 0 from (by show ¬ ((p + z : Nat) : Int) < 0; omega))]
      exact hJ _ _ ⟨rfl, by rw [hou, if_neg (by simp)]⟩
  rintro z ρ ⟨rfl, rfl⟩
  have pX : ple (cur a).length (if outs (gd (cur a)) (cur a).length tt = none then plt (gd (cur a)) (cur a).length (spc (gd (cur a)) (cur a).length (wd (gd (cur a)) (cur a).length [80, 85, 66, 76, 73, 67] tt)) else outs (gd (cur a)) (cur a).length tt) := by
    split
    · exact plt_le
    · exact outs_le
  refine kr_asp hK hS _ rfl pX ?_
  refine kr_word hK hS _ rfl (asp_le pX) ti_1124 ?_
  rw [← entk]
  refine sp_K_written rfl h.f3 (fun hn => ?_) (fun k0 hk0 hv0 => ?_)
  · rw [if_pos rfl]
    refine hq.1 5 ?_ _ pf_eq (pf_nk (by decide))
    unfold iNot
    rw [mvo_eq_none.mp hn]
    cases spc (gd (cur a)) (cur a).length (some 10) <;> rfl
  rw [if_neg (by decide)]
  obtain ⟨k, hk, e1⟩ := mvo_eq_some.mp hk0
  have hkl : k ≤ (cur a).length := by
    rw [entk] at hk
    exact wdl_le ti_1124 (asp_le pX) _ hk
  cases hs0 : spc (gd (cur a)) (cur a).length (some 10) with
  | none =>
    rw [hs0] at htt
    have : tt = none := htt.symm
    rw [this] at entk
    rw [entk] at hk
    cases hk
  | some s0 =>
    cases hn0 : nmg (gd (cur a)) (cur a).length true (some s0) with
    | none =>
      rw [hs0, hn0] at htt
      have : tt = none := htt.symm
      rw [this] at entk
      rw [entk] at hk
      cases hk
    | some n =>
      have hnl := nmg_lt hn0
      rw [hk]
      have hnm : nmN a = [sl (gd (cur a)) s0 (n - s0)] := by
        unfold nmN
        rw [hk, hs0, hn0]
      rw [hnm] at hcap hq
      have hid : iNot a = .inr (adv (sN (sT a (aT a ++ [sl (gd (cur a)) s0 (n - s0)])) 2 (aN a 2 + (hasc (sl (gd (cur a)) s0 (n - s0))).toNat)) k) := by
        unfold iNot
        rw [hk, hs0]
        show (match nmg (gd (cur a)) (cur a).length true (some s0) with
          | some n => _
          | none => _) = _
        rw [hn0]
      have e2 : enc (mvo p (some n)) - enc (mvo p (some s0)) = ((n - s0 : Nat) : Int) := by show ((p + n : Nat) : Int) - ((p + s0 : Nat) : Int) = _; omega
      have e3 : enc (mvo p (some s0)) = ((p + s0 : Nat) : Int) := rfl
      have e4 : enc (mvo p (some k)) = ((p + k : Nat) : Int) := rfl
      rw [e2, e3, e4]
      refine ⟨⟨by omega, by omega⟩, ?_⟩
      have esl : sl (ρ.2 176) (p + s0) (n - s0) = sl (gd (cur a)) s0 (n - s0) := sh_sl hS (by omega)
      have hdv : ∀ j, dvN a j = if j = 20 then (if sl (gd (cur a)) s0 (n - s0) ∈ aT a then 1 else 0) else 0 := fun j => by
        unfold dvN
        rw [hnm]
        by_cases c : j = 20
        · rw [if_pos c, if_pos c]
          by_cases d : sl (gd (cur a)) s0 (n - s0) ∈ aT a
          · rw [if_pos d, List.filter_cons, if_pos (decide_eq_true d)]; rfl
          · rw [if_neg d, List.filter_cons, if_neg (by rw [decide_eq_false d]; decide)]; rfl
        · rw [if_neg c, if_neg c]
      generalize hsn : sl (gd (cur a)) s0 (n - s0) = s at *
      refine sp_K_kp (p := p + s0) (n := n - s0) hL h (by omega) rfl rfl esl hcap.1 (fun v19 σ1 hv1 hR1 hf1 => ?_)
      have hgl : gP (kpS (gB g) s, g.2) = gP g ∧ gC (kpS (gB g) s, g.2) = gC g ∧ gV (kpS (gB g) s, g.2) = gV g ∧ gB (kpS (gB g) s, g.2) = kpS (gB g) s := ⟨rfl, rfl, rfl, rfl⟩
      generalize hg1 : ((kpS (gB g) s, g.2) : KG) = g1 at hR1 hgl
      have hgB : kpS (gB g) s = gB g1 := hgl.2.2.2.symm
      rw [hgB] at hv1
      have hgB' : gB g1 = kpL (gB g) [s] := hgl.2.2.2
      have hN2 : aN a 2 ≤ 1000000 := by have := hG.2.1.2; have := hG.1.2; have := hL.2.2.1; omega
      refine sp_K_colons hL hR1 hv1 hN2 (fun hR2 => ?_)
      generalize hx2 : aN a 2 + (hasc s).toNat = x2 at *
      have f2 : (pr σ1 (rfo o 19) 5 (x2 : Int)).1 = σ1.1 := rfl
      generalize pr σ1 (rfo o 19) 5 (x2 : Int) = σ2 at hR2 f2 ⊢
      have F2 : ∀ pp kk, ¬ (pp = 13 ∧ (kk = 1 ∨ kk = 6)) → σ2.1 pp kk = ρ.1 pp kk := fun pp kk z => by rw [f2]; exact hf1.1 pp kk z
      refine sp_K_isNotation hL hR2 (Nat.le_of_lt hTl) hv1.f ?_
      refine WJ_dir ?_
      have hKN := hR2.2.2.2.2.2.2.2.1
      -- the end
      have fin_ : ∀ (σ' : IS) (g' : KG), RK rm nd o σ' g' (sN (sT a (aT a ++ [s])) 2 x2) → gB g' = gB g1 → gC g' = gC g1 → gP g' = gP g1 → (∀ j, j ≠ 22 → gV g' j = gV g1 j + dvN a j) → gV g' 22 = gV g1 22 → (∀ kk, kk = 4 ∨ kk = 15 ∨ kk = 16 → σ'.1 16 kk = ρ.1 16 kk) → Q (pf σ' 16 16 ((p + k : Nat) : Int)) := fun σ' g' hR' b1' b2 b3 b4 b5 b6 => by
        have hg := hR'.go hL (k := k) hkl
        rw [b6 16 (by omega), h1, show (p : Int) + (k : Int) = ((p + k : Nat) : Int) by omega] at hg
        have hr3 : rem (adv (sN (sT a (aT a ++ [s])) 2 x2) k) + k = rem a := rem_adv (a := sN (sT a (aT a ++ [s])) 2 x2) hkl
        have hN : aN (adv (sN (sT a (aT a ++ [s])) 2 x2) k) = aN (sN (sT a (aT a ++ [s])) 2 x2) := (adv_other).2.1
        obtain ⟨c1, c2, c3, c4⟩ := hC
        refine hq.2 _ hid _ g' hg (b1'.trans hgB') (fun _ => b2.trans hgl.2.1) (fun j hj => by rw [b4 j hj, hgl.2.2.1]) ⟨?_, ?_, ?_, ?_⟩ (by rw [pf_nk (by decide), b6 4 (by omega)]) (by rw [pf_nk (by decide), b6 15 (by omega)]; omega)
        · rw [hN, b3, hgl.1]; show _ ≤ aN a 0; omega
        · rw [hN, b2, hgl.2.1]; show _ ≤ aN a 8 + aN a 0; omega
        · rw [hN]; exact c3
        · rw [hN, b5, hgl.2.2.1]; exact c4
      have hkl0 := kpL_len (l := aT a) (bk := [])
      rw [List.length_nil, Nat.zero_add] at hkl0
      have hap : kpL [] (aT a ++ [s]) = kpS (kpL [] (aT a)) s := kpL_app
      by_cases c : s ∈ aT a
      · rw [show decide (s ∈ aT (sN a 2 x2)) = true from decide_eq_true c, if_neg (by decide)]
        obtain ⟨d1, d2⟩ := hR2.dy ho
        have v20 : σ2.2 (rfo o 18) 20 = (gV g1 20 : Int) := hR2.1.2.2.2.2.2 20 (by decide)
        rw [d1, show Int.toNat (o : Int) = o from rfl, show Int.toNat 20 = 20 from rfl, v20]
        rw [hgl.2.2.1] at v20 ⊢
        refine ⟨by rw [← d1]; exact d2, ⟨by omega, by omega⟩, ⟨by omega, by omega⟩, ⟨by omega, by omega⟩, ?_⟩
        have hv2 := hR2.vio (k := 20) (m := 1) (v := (gV g 20 : Int) + 1) hL (by rw [hgl.2.2.1]; omega)
        have hsm : kpL [] (aT a ++ [s]) = kpL [] (aT a) := by
          rw [hap]
          unfold kpS
          rw [if_pos (mem_kpL.mpr (Or.inr c))]
        refine fin_ _ (gB g1, gC g1, gP g1, fun j => gV g1 j + if j = 20 then 1 else 0) ?_ rfl rfl rfl (fun j hj => ?_) ?_ (fun kk _ => F2 16 kk (by omega))
        · have h := hv2
          have hF : ∀ p k' : Nat, ¬ (p = 16 ∧ k' = 100) → (pr σ2 (rfo o 18) 20 ((gV g 20 : Int) + 1)).1 p k' = (pr σ2 (rfo o 18) 20 ((gV g 20 : Int) + 1)).1 p k' := fun p k' _ => rfl
          have hR : ∀ r : Nat, ¬ (r < 0) → (pr σ2 (rfo o 18) 20 ((gV g 20 : Int) + 1)).2 r = (pr σ2 (rfo o 18) 20 ((gV g 20 : Int) + 1)).2 r := fun _ _ => rfl
          refine (RK.mk' ho h kle.refl cle.refl cle.refl (h.1.dep ho (fun p k x => hF p k (by omega)) (fun r x => hR r (by omega))) (Or.inl ⟨fun k x y => hF 16 k (by omega), fun r x y => hR r (by omega), rfl⟩) (Or.inl ⟨hF 16 32 (by omega), fun r x y => hR r (by omega), rfl, rfl⟩) (Or.inl ⟨fun k x => hF 16 k (by omega), hR _ (by have := rf_1 ho; omega), rfl⟩) (Or.inl ⟨hF 16 20 (by omega), hF 16 24 (by omega), rfl⟩) (Or.inl ⟨hF 16 40 (by omega), hF 16 47 (by omega), hF 16 58 (by omega), fun r x => hR r (by omega), rfl⟩) (Or.inl ⟨hF 16 56 (by omega), hF 16 58 (by omega), fun r x y => hR r (by omega), rfl⟩) (Or.inr ?_) (Or.inl ⟨hF o 7 (by omega), fun k x y => hR _ (by have := rf_3 ho x y; omega), rfl⟩) (Or.inl ⟨hF 16 64 (by omega), hF 16 66 (by omega), fun r x y => hR r (by omega), hR 181 (by omega), rfl, rfl, rfl⟩) (Or.inl ⟨hF o 14 (by omega), fun k x y => hR _ (by have := rf_8 ho x y; omega), rfl, rfl⟩) (Or.inl ⟨fun k x => hF o k (by omega), hR _ (by have := rf_1 ho; omega), rfl, rfl, rfl⟩) (hF 16 3 (by omega)) (Or.inl ⟨hF 16 18 (by omega), hR 178 (by omega), rfl, rfl, rfl, hF 16 47 (by omega), hF 16 58 (by omega), rfl, rfl⟩))
          show KNt _ (gB g1) (aT a ++ [s])
          have hK2' := hv2.2.2.2.2.2.2.2.1
          unfold KNt
          rw [hsm]
          exact hK2'
        · show gV g1 j + (if j = 20 then 1 else 0) = _
          rw [hdv, if_pos c]
        · show gV g1 22 + (if 22 = 20 then 1 else 0) = _
          rfl
      · rw [show decide (s ∈ aT (sN a 2 x2)) = false from decide_eq_false c, if_pos (by decide)]
        obtain ⟨m1, m2⟩ := hKN
        have m1' : σ2.1 16 34 = ((kpL [] (aT a)).length : Int) := m1
        rw [m1', show Int.toNat ((kpL [] (aT a)).length : Int) = (kpL [] (aT a)).length from rfl]
        refine ⟨⟨by omega, by omega⟩, ⟨by omega, by omega⟩, ?_⟩
        have hsm : kpL [] (aT a ++ [s]) = kpL [] (aT a) ++ [s] := by
          rw [hap]
          unfold kpS
          rw [if_neg (fun z => (mem_kpL.mp z).elim (fun y => absurd y List.not_mem_nil) c)]
        refine fin_ _ g1 ?_ rfl rfl rfl (fun j hj => by rw [hdv, if_neg c]; simp) rfl (fun kk z => by rw [pf_1, if_neg (by omega), pr_1]; exact F2 16 kk (by omega))
        have h := hR2
        have hF : ∀ p k' : Nat, ¬ (p = 16 ∧ k' = 34) → (pf (pr σ2 187 (kpL [] (aT a)).length v19) 16 34 (((kpL [] (aT a)).length : Int) + 1)).1 p k' = σ2.1 p k' := fun p k' z => by rw [pf_1, if_neg z, pr_1]
        have hR : ∀ r : Nat, ¬ (r = 187) → (pf (pr σ2 187 (kpL [] (aT a)).length v19) 16 34 (((kpL [] (aT a)).length : Int) + 1)).2 r = σ2.2 r := fun r z => by funext j; rw [pf_2, pr_2, if_neg (fun y => z y.1)]
        refine (RK.mk' ho h kle.refl cle.refl cle.refl (h.1.dep ho (fun p k x => hF p k (by omega)) (fun r x => hR r (by omega))) (Or.inl ⟨fun k x y => hF 16 k (by omega), fun r x y => hR r (by omega), rfl⟩) (Or.inl ⟨hF 16 32 (by omega), fun r x y => hR r (by omega), rfl, rfl⟩) (Or.inl ⟨fun k x => hF 16 k (by omega), hR _ (by have := rf_1 ho; omega), rfl⟩) (Or.inl ⟨hF 16 20 (by omega), hF 16 24 (by omega), rfl⟩) (Or.inl ⟨hF 16 40 (by omega), hF 16 47 (by omega), hF 16 58 (by omega), fun r x => hR r (by omega), rfl⟩) (Or.inl ⟨hF 16 56 (by omega), hF 16 58 (by omega), fun r x y => hR r (by omega), rfl⟩) (Or.inr ?_) (Or.inl ⟨hF o 7 (by omega), fun k x y => hR _ (by have := rf_3 ho x y; omega), rfl⟩) (Or.inl ⟨hF 16 64 (by omega), hF 16 66 (by omega), fun r x y => hR r (by omega), hR 181 (by omega), rfl, rfl, rfl⟩) (Or.inl ⟨hF o 14 (by omega), fun k x y => hR _ (by have := rf_8 ho x y; omega), rfl, rfl⟩) (Or.inl ⟨fun k x => hF o k (by omega), hR _ (by have := rf_1 ho; omega), rfl, rfl, rfl⟩) (hF 16 3 (by omega)) (Or.inl ⟨hF 16 18 (by omega), hR 178 (by omega), rfl, rfl, rfl, hF 16 47 (by omega), hF 16 58 (by omega), rfl, rfl⟩))
        show KNt _ (gB g1) (aT a ++ [s])
        unfold KNt
        rw [hsm, List.length_append, List.length_singleton]
        refine ⟨by rw [pf_eq]; omega, fun i hi => ?_⟩
        rw [pf_2, pr_2, getD_snoc]
        by_cases ci : i = (kpL [] (aT a)).length
        · rw [if_pos ⟨rfl, ci⟩, if_neg (by omega), if_pos ci]
          exact hv1
        · rw [if_neg (fun y => ci y.2), if_pos (by omega)]
          exact m2 i (by show i < (kpL [] (aT a)).length; omega)
end Knt
