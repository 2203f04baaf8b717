/-! ===== the reference: instructions ===== -/
section Kpi
variable {L : Nat → Nat} {rm nd o : Nat} {σ τ : IS} {g g' : KG} {a a' A : AS} {Q : IS → Prop} {R : Int → IS → Prop} {T : Nat → Int} {x v : Int} {s : Str} {bk : List Str} {pl : List Int}
/-- where a string lies in the book -/
theorem RK.st (h : RK rm nd o σ g A) (hv : Kn (gB g) v s) : ∃ (i b : Nat), v = (i : Int) ∧ i < 50000 ∧ σ.2 213 i = (b : Int) ∧ σ.2 214 i = (s.length : Int) ∧ b + s.length ≤ 170000 ∧ ∀ k, k < s.length → σ.2 212 (b + k) = s.getD k 0 := by
  obtain ⟨⟨b1', b2, b3, b4⟩, -⟩ := h.1
  have hl := hv.lt
  obtain ⟨i, rfl⟩ : ∃ i : Nat, v = (i : Int) := ⟨v.toNat, by omega⟩
  have hi : i < (gB g).length := by omega
  have hs : (gB g).getD i [] = s := by
    have := hv.2
    rw [List.getD_eq_getElem?_getD]
    rw [show Int.toNat (i : Int) = i from rfl] at this
    rw [this]
    rfl
  have hb := b4 i hi
  rw [hs] at hb
  obtain ⟨q1, q2, -⟩ := b1'
  have q3 := q2 i (by omega)
  have e1 : bln σ i = s.length := by
    rw [← hb]
    unfold bstr
    rw [sl_ln]
  have e2 : (σ.2 214 i).toNat = s.length := e1
  refine ⟨i, (σ.2 213 i).toNat, rfl, by omega, by omega, by omega, by omega, fun k hk => ?_⟩
  have : s[k]? = some (σ.2 212 (bst σ i + k)) := by
    conv => lhs; rw [← hb]
    unfold bstr
    exact sl_get (by omega)
  rw [List.getD_eq_getElem?_getD, this]
  rfl
theorem RK.n2 {w : Nat} (hL : KLn L o rm nd) (h : RK rm nd o σ g A) (hv : v = (w : Int)) : RK rm nd o (pr σ (rfo o 19) 5 v) g (sN A 2 w) := by
  have ho := hL.2.1
  have r1 := rf_1 ho
  have hF : ∀ p k' : Nat, ¬ (p = 16 ∧ k' = 100) → (pr σ (rfo o 19) 5 v).1 p k' = σ.1 p k' := fun p k' _ => rfl
  have hR : ∀ r : Nat, ¬ (r = 222 + 14 * (o - 14)) → (pr σ (rfo o 19) 5 v).2 r = σ.2 r := fun r z => by funext j; rw [pr_2, if_neg (by omega)]
  obtain ⟨n1, n2, n3, n4, n5, n6, n7⟩ := h.2.2.2.1
  refine (RK.mk' ho h kle.refl cle.refl cle.refl (h.1.dep ho (fun p k x => hF p k (by omega)) (fun r x => hR r (by omega))) (Or.inl ⟨fun k x y => hF 16 k (by omega), fun r x y => hR r (by omega), rfl⟩) (Or.inl ⟨hF 16 32 (by omega), fun r x y => hR r (by omega), rfl, rfl⟩) (Or.inr ⟨n1, ?_, n3, n4, n5, n6, fun k hk => ?_⟩) (Or.inl ⟨hF 16 20 (by omega), hF 16 24 (by omega), rfl⟩) (Or.inl ⟨hF 16 40 (by omega), hF 16 47 (by omega), hF 16 58 (by omega), fun r x => hR r (by omega), rfl⟩) (Or.inl ⟨hF 16 56 (by omega), hF 16 58 (by omega), fun r x y => hR r (by omega), rfl⟩) (Or.inl ⟨hF 16 34 (by omega), hR 187 (by omega), rfl⟩) (Or.inl ⟨hF o 7 (by omega), fun k x y => hR _ (by have := rf_3 ho x y; omega), rfl⟩) (Or.inl ⟨hF 16 64 (by omega), hF 16 66 (by omega), fun r x y => hR r (by omega), hR 181 (by omega), rfl, rfl, rfl⟩) (Or.inl ⟨hF o 14 (by omega), fun k x y => hR _ (by have := rf_8 ho x y; omega), rfl, rfl⟩) (Or.inl ⟨fun k x => hF o k (by omega), hR _ (by have := rf_1 ho; omega), rfl, rfl, rfl⟩) (hF 16 3 (by omega)) (Or.inl ⟨hF 16 18 (by omega), hR 178 (by omega), rfl, rfl, rfl, hF 16 47 (by omega), hF 16 58 (by omega), rfl, rfl⟩))
  · rw [pr_2, if_pos ⟨rfl, rfl⟩]; exact hv
  · rw [pr_2, if_neg (by omega)]; exact n7 k hk
theorem hasc_01 {l : List Int} : hasc l = 0 ∨ hasc l = 1 := by
  unfold hasc
  split
  · right; rfl
  · left; rfl
set_option maxHeartbeats 1000000 in
theorem sp_K_colons (hL : KLn L o rm nd) (h : RK rm nd o σ g A) (hv : Kn (gB g) v s) (hN : aN A 2 ≤ 1000000) (hq : RK rm nd o (pr σ (rfo o 19) 5 ((aN A 2 + (hasc s).toNat : Nat) : Int)) g (sN A 2 (aN A 2 + (hasc s).toNat)) → Q (pr σ (rfo o 19) 5 ((aN A 2 + (hasc s).toNat : Nat) : Int))) : w_KReader_colons L v Q σ := by
  obtain ⟨i, b, rfl, i1, i2, i3, i4, i5⟩ := h.st hv
  obtain ⟨d1, d2⟩ := h.dy hL.2.1
  have lb := hL.1
  have n2 : σ.2 (rfo o 19) 5 = (aN A 2 : Int) := h.2.2.2.1.2.1
  have l19 : L (rfo o 19) = 6 := hL.2.2.2.2.2.2.2.2.2.2.2.2.2.2.2.2.2.2.2.2
  unfold w_KReader_colons
  refine WL_ind (fun z ρ => ρ = σ ∧ ∃ n : Nat, z.2 = (n : Int) ∧ n ≤ s.length ∧ z.1 = hasc (s.take n)) (fun z _ => ((s.length : Int) - z.2).toNat) ?_ (0, 0) σ ⟨rfl, 0, rfl, Nat.zero_le _, rfl⟩
  rintro ⟨z1, z2⟩ ρ ⟨rfl, n, hz2, hn, hz1⟩ K hI
  have hz2' : z2 = (n : Int) := hz2
  have hz1' : z1 = hasc (s.take n) := hz1
  subst hz2'
  try dsimp only
  refine ⟨d2, ?_⟩
  unfold w_KBook_length
  rw [show Int.toNat (i : Int) = i from rfl, i3]
  refine ⟨⟨by omega, by have := lb.2.2.2.1; omega⟩, ?_⟩
  dsimp only
  by_cases c : n < s.length
  · rw [if_pos (by omega)]
    refine WJ_dir ?_
    refine WJ_dir ?_
    have etk : s.take (n + 1) = s.take n ++ [s.getD n 0] := by
      rw [List.take_succ, List.getD_eq_getElem?_getD, List.getElem?_eq_getElem c]
      rfl
    have hstep : ∀ w : Int, w = hasc (s.take (n + 1)) → inR ((n : Int) + 1) ∧ K (w, (n : Int) + 1) ρ := fun w hw => ⟨⟨by omega, by omega⟩, hI _ _ ⟨rfl, n + 1, by show (n : Int) + 1 = _; omega, by omega, hw⟩ (by show ((s.length : Int) - ((n : Int) + 1)).toNat < ((s.length : Int) - (n : Int)).toNat; omega)⟩
    by_cases c2 : z1 = 0
    · rw [if_pos c2]
      refine ⟨d2, ?_⟩
      unfold w_KBook_at
      rw [show Int.toNat (i : Int) = i from rfl, i2, show (b : Int) + (n : Int) = ((b + n : Nat) : Int) by omega, show Int.toNat ((b + n : Nat) : Int) = b + n from rfl, i5 n c]
      refine ⟨⟨by omega, by have := lb.2.2.1; omega⟩, ⟨by omega, by omega⟩, ⟨by omega, by have := lb.2.1; omega⟩, ?_⟩
      dsimp only
      have hnot : ¬ (58 : Int) ∈ s.take n := fun z => by
        rw [hz1'] at c2
        unfold hasc at c2
        rw [if_pos z] at c2
        exact absurd c2 (by decide)
      by_cases c3 : s.getD n 0 = 58
      · rw [if_pos c3]
        refine hstep 1 ?_
        unfold hasc
        rw [etk, c3, if_pos (List.mem_append_right _ List.mem_cons_self)]
      · rw [if_neg c3]
        refine hstep 0 ?_
        unfold hasc
        rw [etk, if_neg (fun z => (List.mem_append.mp z).elim hnot (fun y => c3 (List.mem_singleton.mp y).symm))]
    · rw [if_neg c2]
      refine hstep 1 ?_
      have hin : (58 : Int) ∈ s.take n := Classical.byContradiction (fun z => c2 (by rw [hz1']; unfold hasc; rw [if_neg z]))
      unfold hasc
      rw [etk, if_pos (List.mem_append_left _ hin)]
  · rw [if_neg (by omega), d1, show Int.toNat (o : Int) = o from rfl, show Int.toNat 5 = 5 from rfl, n2]
    have hn' : s.take n = s := List.take_of_length_le (by omega)
    rw [hn'] at hz1'
    have h01 := hasc_01 (l := s)
    have ev : (aN A 2 : Int) + (if z1 = 0 then (0 : Int) else 1) = ((aN A 2 + (hasc s).toNat : Nat) : Int) := by
      rw [hz1']
      rcases h01 with y | y
      · rw [y, if_pos rfl]; rfl
      · rw [y, if_neg (by decide)]; rfl
    rw [ev]
    rw [d1] at d2
    refine ⟨d2, ⟨by omega, by omega⟩, ⟨by omega, by omega⟩, ⟨by omega, by omega⟩, ?_⟩
    exact hq (h.n2 hL rfl)
theorem sp_K_node (hL : KLn L o rm nd) (h : RK rm nd o σ g A) (hN : aN A 3 ≤ 1000000) (h0 : nd < aN A 3 + 1 → R 0 (pf (pf σ 16 26 ((aN A 3 + 1 : Nat) : Int)) 16 3 4)) (h1 : ¬ nd < aN A 3 + 1 → R 1 (pf σ 16 26 ((aN A 3 + 1 : Nat) : Int))) : w_KReader_node L R σ := by
  have n3 : σ.1 16 26 = (aN A 3 : Int) := h.2.2.2.1.2.2.1
  have z1 : σ.1 16 1 = (nd : Int) := h.1.2.2.2.2.1.2.2
  unfold w_KReader_node
  rw [n3, z1, show (aN A 3 : Int) + 1 = ((aN A 3 + 1 : Nat) : Int) by omega]
  refine ⟨⟨by omega, by omega⟩, WJ_dir ?_⟩
  refine WJ_dir ?_
  by_cases c : nd < aN A 3 + 1
  · rw [if_pos (by omega)]
    refine sp_K_fail (by rw [pf_nk (by decide)]; exact h.f3) ?_
    rw [if_pos rfl]
    exact ⟨Or.inl rfl, h0 c⟩
  · rw [if_neg (by omega)]
    exact ⟨Or.inr rfl, h1 c⟩
/-- whether a word stands there, in small or large letters -/
theorem kr_isNamed {e p i n sN' : Nat} {l : List Int} {y : Int} (hK : KT L σ (p + e)) (hc : chs σ (p + e)) (hS : SHT T (σ.2 176) e p) (hi : i ≤ n) (hn : n ≤ e) (hx : x = ((p + i : Nat) : Int)) (hy : y = ((p + n : Nat) : Int)) (hs : ti sN' = l) (h : R (b1 (decide ((sl T i (n - i)).map lowr = l))) σ) : w_KReader_isNamed L x y sN' R σ := by
  subst hx hy
  have hK2 := hK.2.2
  have l176 := hK.2.1
  have hl := ti_len sN'
  rw [hs] at hl
  have htn : tN sN' = (l.length : Int) := by rw [tN_i, hs]
  unfold w_KReader_isNamed
  rw [htn]
  refine ⟨⟨by omega, by omega⟩, ?_⟩
  by_cases c : n - i = l.length
  · rw [if_pos (by omega)]
    refine WL_ind (fun k ρ => ρ = σ ∧ ∃ j : Nat, k = (j : Int) ∧ j ≤ l.length ∧ ∀ q, q < j → lowr (T (i + q)) = l.getD q 0) (fun k _ => ((l.length : Int) - k).toNat) ?_ 0 σ ⟨rfl, 0, rfl, Nat.zero_le _, fun q hq => absurd hq (Nat.not_lt_zero q)⟩
    rintro k ρ ⟨rfl, j, rfl, j1, j2⟩ K hI
    refine WJ_dir ?_
    by_cases d : j < l.length
    · rw [if_pos (by omega), show ((p + i : Nat) : Int) + (j : Int) = ((p + (i + j) : Nat) : Int) by omega, show Int.toNat ((p + (i + j) : Nat) : Int) = p + (i + j) from rfl, hS (i + j) (by omega)]
      have hcc := hc (p + (i + j)) (by omega)
      rw [hS (i + j) (by omega)] at hcc
      refine ⟨⟨by omega, by omega⟩, ⟨by omega, by omega⟩, sp_K_lower ⟨by omega, by omega⟩ ⟨⟨by omega, by omega⟩, ?_⟩⟩
      have e1 : tC sN' (j : Int) = l.getD j 0 := by
        rw [tC_i rfl (by rw [hs]; exact d), List.getD_eq_getElem?_getD]
        subst hs
        rw [List.getElem?_eq_getElem d]
        rfl
      rw [e1]
      by_cases f : lowr (T (i + j)) = l.getD j 0
      · rw [if_pos f]
        refine ⟨⟨by omega, by omega⟩, hI _ _ ⟨rfl, j + 1, by omega, by omega, fun q hq => ?_⟩ (by omega)⟩
        by_cases cq : q = j
        · rw [cq]; exact f
        · exact j2 q (by omega)
      · rw [if_neg f, if_neg (by omega)]
        rw [decide_eq_false (fun z => f (by
          have := congrArg (fun l => l.getD j 0) z
          try dsimp only at this
          rw [← this, List.getD_eq_getElem?_getD, List.getElem?_map, sl_get (by omega)]
          rfl))] at h
        exact h
    · rw [if_neg (by omega), if_pos (by omega)]
      rw [decide_eq_true (List.ext_getElem? (fun q => by
        by_cases cq : q < l.length
        · have := j2 q (by omega)
          rw [List.getElem?_map, sl_get (by omega), List.getElem?_eq_getElem cq]
          rw [List.getD_eq_getElem?_getD, List.getElem?_eq_getElem cq] at this
          exact congrArg some this
        · rw [List.getElem?_eq_none (by rw [List.length_map, sl_ln]; omega), List.getElem?_eq_none (by omega)]))] at h
      exact h
  · rw [if_neg (by omega)]
    rw [decide_eq_false (fun z => c (by have := congrArg List.length z; rw [List.length_map, sl_ln] at this; exact this))] at h
    exact h
/-- letters put into the pool -/
theorem KZ.pools {d : List Int} (ho : o = 14 ∨ o = 15) (h : KZ rm nd o σ g) (hf : ∀ p k, (p = 13 ∧ (k = 1 ∨ k = 6)) ∨ (p = 16 ∧ (k = 0 ∨ k = 1 ∨ k = 2 ∨ k = 6)) → τ.1 p k = σ.1 p k) (hr : ∀ r, r = 176 ∨ (211 ≤ r ∧ r ≤ 215) ∨ r = 221 + 14 * (o - 14) → τ.2 r = σ.2 r) (h2 : τ.1 o 2 = (((gP g).length + d.length : Nat) : Int)) (hp : ∀ j, j < (gP g).length → τ.2 (rfo o 1) j = σ.2 (rfo o 1) j) (hp2 : ∀ j, j < d.length → τ.2 (rfo o 1) ((gP g).length + j) = d.getD j 0) : KZ rm nd o τ (gB g, gC g, gP g ++ d, gV g) := by
  obtain ⟨⟨h1, hb2, h3, h4⟩, h5, ⟨h6, h7, h8, h9⟩, ⟨h10, h11⟩, h12, h13⟩ := h
  have r1 := rf_1 ho
  have eb : ∀ s, bstr τ s = bstr σ s := fun s => by unfold bstr bst bln; rw [hr 212 (by omega), hr 213 (by omega), hr 214 (by omega)]
  refine ⟨⟨?_, by rw [hf 13 6 (by omega)]; exact hb2, by rw [hf 13 1 (by omega)]; exact h3, fun i hi => by rw [eb]; exact h4 i hi⟩, h5, ⟨by rw [hf 16 6 (by omega)]; exact h6, h7, by rw [hr 176 (by omega)]; exact h8, h9⟩, ⟨?_, fun i hi => ?_⟩, ?_, by rw [hr (rfo o 18) (by omega)]; exact h13⟩
  · unfold BK at h1 ⊢
    rw [hf 13 1 (by omega), hf 13 6 (by omega), hr 211 (by omega), hr 213 (by omega), hr 214 (by omega), hr 215 (by omega)]
    simp only [eb]
    exact h1
  · show τ.1 o 2 = ((gP g ++ d).length : Int)
    rw [h2, List.length_append]
  · have hi' : i < (gP g ++ d).length := hi
    rw [List.length_append] at hi'
    show τ.2 (rfo o 1) i = (gP g ++ d).getD i 0
    by_cases y : i < (gP g).length
    · rw [hp i y, getD_app_l y]
      exact h11 i y
    · obtain ⟨j, rfl⟩ : ∃ j, i = (gP g).length + j := ⟨i - (gP g).length, by omega⟩
      rw [hp2 j (by omega), List.getD_eq_getElem?_getD, List.getD_eq_getElem?_getD, List.getElem?_append_right (by omega), Nat.add_sub_cancel_left]
  · rw [hf 16 2 (by omega), hf 16 0 (by omega), hf 16 1 (by omega)]
    exact h12
/-- an element begins or ends -/
theorem KSt.ev {st : List Evt} {ne : Nat} {b : Bool} (h : KSt o σ bk pl st ne) (t16 : τ.1 o 16 = σ.1 o 16 + 1) (t17 : τ.1 o 17 = -1) (t20 : τ.1 o 20 = σ.1 o 20) (tr : ∀ j : Nat, τ.2 (rfo o 15) j = if (j : Int) = σ.1 o 16 then (if b = true then 0 else 1) else σ.2 (rfo o 15) j) : KSt o τ bk pl (st ++ [.inl (if b = true then -3 - (ne : Int) else -1)]) (if b = true then ne + 1 else ne) := by
  obtain ⟨G, ⟨h1, h1'⟩, h2, h3, h4, ⟨h5, h5'⟩, h6⟩ := h
  have hneg : ¬ (0 : Int) ≤ (if b = true then -3 - (ne : Int) else -1) := by
    split <;> omega
  refine ⟨G ++ [.inl b], ⟨?_, ?_⟩, ?_, ?_, fun l hl => ?_, ⟨?_, ?_⟩, Or.inl ⟨t17, fun l => ?_⟩⟩
  · rw [kfl_app, h1, Nat.zero_add, h1']
    cases b <;> rfl
  · rw [kns_app, h1']
    cases b <;> rfl
  · rw [kev_app]
    refine ⟨kev.dep kle.refl cle.refl G 0 (fun j _ hj => ?_) h2, ?_, trivial⟩
    · rw [tr, if_neg (by omega)]
    · rw [tr, if_pos (by omega)]
  · rw [t16, h3, kel_app]; rfl
  · rcases List.mem_append.mp hl with y | y
    · exact h4 l y
    · rw [List.mem_singleton] at y
      cases y
  · rw [t20, h5, ltr_app]
    show (ltr st : Int) = ((ltr st + (0 + if 0 ≤ (if b = true then -3 - (ne : Int) else -1) then 1 else 0) : Nat) : Int)
    rw [if_neg hneg]
    rfl
  · rw [kNs_s, h5', t17, kel_app]
    show (if 0 ≤ (if b = true then -3 - (ne : Int) else -1) then _ else (kel G + 1, false)) = _
    rw [if_neg hneg]
    rfl
  · rw [List.getLast?_append]
    simp
/-- a target and what follows it -/
theorem KSt.tgt {st : List Evt} {ne : Nat} {nm d : Str} {w : Int} (h : KSt o σ bk pl st ne) (hw : Kn bk w nm) (hu : σ.1 o 2 = (pl.length : Int)) (t16 : τ.1 o 16 = σ.1 o 16 + 4) (t17 : τ.1 o 17 = -1) (t20 : τ.1 o 20 = σ.1 o 20) (tr : ∀ j : Nat, τ.2 (rfo o 15) j = if (j : Int) = σ.1 o 16 then 3 else if (j : Int) = σ.1 o 16 + 1 then w else if (j : Int) = σ.1 o 16 + 2 then σ.1 o 2 else if (j : Int) = σ.1 o 16 + 3 then (d.length : Int) else σ.2 (rfo o 15) j) : KSt o τ bk (pl ++ d) (st ++ [.inr (nm, d)]) ne := by
  obtain ⟨G, ⟨h1, h1'⟩, h2, h3, h4, ⟨h5, h5'⟩, h6⟩ := h
  have hcle : cle pl (pl ++ d) := ⟨d, rfl⟩
  refine ⟨G ++ [.inr (.inr (nm, d))], ⟨?_, ?_⟩, ?_, ?_, fun l hl => ?_, ⟨?_, ?_⟩, Or.inl ⟨t17, fun l => ?_⟩⟩
  · rw [kfl_app, h1]; rfl
  · rw [kns_app, h1']; rfl
  · rw [kev_app]
    refine ⟨kev.dep kle.refl hcle G 0 (fun j _ hj => ?_) h2, ?_, ?_, ?_, ?_, trivial⟩
    · rw [tr, if_neg (by omega), if_neg (by omega), if_neg (by omega), if_neg (by omega)]
    · rw [tr, if_pos (by omega)]
    · rw [tr, if_neg (by omega), if_pos (by omega)]; exact hw
    · rw [tr, if_neg (by omega), if_neg (by omega), if_pos (by omega)]
      refine Kpc.mk' hu (by rw [List.length_append]; exact Nat.le_refl _) (fun j hj => ?_)
      rw [List.getD_eq_getElem?_getD, List.getD_eq_getElem?_getD, List.getElem?_append_right (by omega), Nat.add_sub_cancel_left]
    · rw [tr, if_neg (by omega), if_neg (by omega), if_neg (by omega), if_pos (by omega)]
  · rw [t16, h3, kel_app]; rfl
  · rcases List.mem_append.mp hl with y | y
    · exact h4 l y
    · rw [List.mem_singleton] at y
      cases y
  · rw [t20, h5, ltr_app]; rfl
  · rw [kNs_s, h5', t17, kel_app]; rfl
  · rw [List.getLast?_append]
    simp
end Kpi
