/-! ===== items of the reference: texts that are gone through ===== -/
section Kfr
variable {L : Nat → Nat} {rm nd o : Nat} {σ τ : IS} {g g' : KG} {a a' A : AS} {Q : IS → Prop} {R : Int → IS → Prop} {x : Int}
theorem KFr.psh {cs tx : List Int} {fr : List Frm} {ow no : Nat} (h : KFr σ cs fr) (hx : Kpc cs x tx) (t14 : τ.1 16 14 = σ.1 16 14 + 1) (t15 : τ.1 16 15 = σ.1 16 15 + 1) (t16 : τ.1 16 16 = x) (t17 : τ.1 16 17 = x + (tx.length : Int)) (r177 : ∀ j : Nat, τ.2 177 j = if (j : Int) = σ.1 16 14 - 1 then σ.1 16 16 else σ.2 177 j) (r178 : ∀ j : Nat, τ.2 178 j = if (j : Int) = σ.1 16 14 then x + (tx.length : Int) else σ.2 178 j) (r179 : ∀ j : Nat, τ.2 179 j = if (j : Int) = σ.1 16 14 then (ow : Int) else σ.2 179 j) (r180 : ∀ j : Nat, τ.2 180 j = if (j : Int) = σ.1 16 14 then (no : Int) else σ.2 180 j) (r181 : ∀ j : Nat, τ.2 181 j = if (j : Int) = σ.1 16 14 then σ.1 16 15 else σ.2 181 j) : KFr τ cs ((tx, ow + 1, no) :: fr) := by
  obtain ⟨h1, h2, ⟨h3, h4⟩, h5, h6, h7⟩ := h
  have hs0 := h6 (fr.length - 1) (by omega)
  unfold KFr
  rw [List.length_cons, show fr.length + 1 - 1 = fr.length by omega, lvl_top, t14, t15, t16, t17]
  refine ⟨by omega, by omega, ⟨hx, rfl⟩, by rw [r178, if_pos (by omega)], fun i hi => ?_, fun i hi => ?_⟩
  · rw [r179, r180, r181]
    by_cases c : i = fr.length
    · subst c
      rw [lvl_top, if_pos (by omega), if_pos (by omega), if_pos (by omega)]
      refine ⟨rfl, rfl, ⟨by omega, by omega⟩, fun j hj => ?_⟩
      rw [r181, if_neg (by omega)]
      exact (h6 j hj).2.2.1.2
    · rw [lvl_cons (by omega), if_neg (by omega), if_neg (by omega), if_neg (by omega)]
      obtain ⟨k1, k2, k3, k4⟩ := h6 i (by omega)
      refine ⟨k1, k2, ⟨k3.1, by omega⟩, fun j hj => ?_⟩
      rw [r181, if_neg (by omega)]
      exact k4 j hj
  · rw [lvl_cons (by omega), r177, r178, if_neg (show ¬ (i : Int) = σ.1 16 14 by omega)]
    by_cases c : i = fr.length - 1
    · rw [if_pos (by omega), c]
      exact ⟨h3, h5.trans h4⟩
    · rw [if_neg (by omega)]
      exact h7 i (by omega)
theorem KFr.pop' {cs : List Int} {f : Frm} {fr : List Frm} (h : KFr σ cs (f :: fr)) (hf : 0 < fr.length) (t14 : τ.1 16 14 = σ.1 16 14 - 1) (t15 : τ.1 16 15 = σ.1 16 15) (t16 : τ.1 16 16 = σ.2 177 (fr.length - 1)) (t17 : τ.1 16 17 = σ.2 178 (fr.length - 1)) (hr : ∀ r, 177 ≤ r → r ≤ 181 → τ.2 r = σ.2 r) : KFr τ cs fr := by
  obtain ⟨h1, h2, ⟨h3, h4⟩, h5, h6, h7⟩ := h
  rw [List.length_cons] at h1 h6 h7
  unfold KFr
  rw [t14, t15, t16, t17, hr 177 (by omega) (by omega), hr 178 (by omega) (by omega), hr 179 (by omega) (by omega), hr 180 (by omega) (by omega), hr 181 (by omega) (by omega)]
  have h8 := h7 (fr.length - 1) (by omega)
  rw [lvl_cons (by omega)] at h8
  refine ⟨by omega, hf, ⟨h8.1, h8.2⟩, rfl, fun i hi => ?_, fun i hi => ?_⟩
  · have := h6 i (by omega)
    rw [lvl_cons hi] at this
    exact this
  · have := h7 i (by omega)
    rw [lvl_cons (by omega)] at this
    exact this
theorem KOp.psh {bk : List Str} {F : Frm} {fr : List Frm} {el : List Elm} {os : List Nat} (h : KOp σ bk fr el os) (hF : F.2.2 = os.length) (h64 : τ.1 16 64 = σ.1 16 64) (h66 : τ.1 16 66 = σ.1 16 66) (hr : ∀ r, 166 ≤ r → r ≤ 171 → τ.2 r = σ.2 r) (h181 : ∀ j, j < fr.length → τ.2 181 j = σ.2 181 j) : KOp τ bk (F :: fr) el os := by
  obtain ⟨h1, h2, h3⟩ := h
  unfold KOp
  rw [h64, h66, hr 166 (by omega) (by omega), hr 167 (by omega) (by omega), hr 168 (by omega) (by omega), hr 169 (by omega) (by omega), hr 170 (by omega) (by omega), hr 171 (by omega) (by omega)]
  refine ⟨h1, fun k hk => ?_, h3⟩
  obtain ⟨a1, a2, a3, j, j1, j2, j3, j4⟩ := h2 k hk
  refine ⟨a1, a2, a3, j, by rw [List.length_cons]; omega, by rw [h181 j j1]; exact j2, by rw [lvl_cons j1]; exact j3, fun i i1 i2 => ?_⟩
  rw [List.length_cons] at i2
  by_cases c : i = fr.length
  · subst c
    rw [lvl_top, hF]
    exact hk
  · rw [lvl_cons (by omega)]
    exact j4 i i1 (by omega)
theorem KOp.pop' {bk : List Str} {F : Frm} {fr : List Frm} {el : List Elm} {os : List Nat} (h : KOp σ bk (F :: fr) el os) (hF : os.length ≤ F.2.2) (h64 : τ.1 16 64 = σ.1 16 64) (h66 : τ.1 16 66 = σ.1 16 66) (hr : ∀ r, 166 ≤ r → r ≤ 171 → τ.2 r = σ.2 r) (h181 : τ.2 181 = σ.2 181) : KOp τ bk fr el os := by
  obtain ⟨h1, h2, h3⟩ := h
  unfold KOp
  rw [h64, h66, hr 166 (by omega) (by omega), hr 167 (by omega) (by omega), hr 168 (by omega) (by omega), hr 169 (by omega) (by omega), hr 170 (by omega) (by omega), hr 171 (by omega) (by omega), h181]
  refine ⟨h1, fun k hk => ?_, h3⟩
  obtain ⟨a1, a2, a3, j, j1, j2, j3, j4⟩ := h2 k hk
  rw [List.length_cons] at j1
  have hj : j < fr.length := by
    refine Classical.byContradiction (fun z => ?_)
    have : j = fr.length := by omega
    subst this
    rw [lvl_top] at j3
    omega
  rw [lvl_cons hj] at j3
  refine ⟨a1, a2, a3, j, hj, j2, j3, fun i i1 i2 => ?_⟩
  have := j4 i i1 (by rw [List.length_cons]; omega)
  rw [lvl_cons i2] at this
  exact this
theorem KEn.bs {bk : List Str} {cs : List Int} {en : List Ent} {b b' : List Nat} (h : KEn σ bk cs en b) (h32 : τ.1 16 32 = σ.1 16 32) (hr : ∀ r, 182 ≤ r → r ≤ 185 → τ.2 r = σ.2 r) (h6 : ∀ i, i < en.length → τ.2 186 i = if (i + 1) ∈ b' then 1 else 0) : KEn τ bk cs en b' := by
  unfold KEn at h ⊢
  rw [h32, hr 182 (by omega) (by omega), hr 183 (by omega) (by omega), hr 184 (by omega) (by omega), hr 185 (by omega) (by omega)]
  exact ⟨h.1, fun i hi => ⟨(h.2 i hi).1, (h.2 i hi).2.1, (h.2 i hi).2.2.1, (h.2 i hi).2.2.2.1, h6 i hi⟩⟩
/-- a text is gone into -/
theorem RK.psh {i k : Nat} {q : Nat × Nat} {t : List Frm} (hL : KLn L o rm nd) (h : RK rm nd o σ g A) (hi : i < (aE A).length) (hF : aF A = (cur A, q) :: t) (hk : k ≤ (cur A).length) (t14 : τ.1 16 14 = σ.1 16 14 + 1) (t15 : τ.1 16 15 = σ.1 16 15 + 1) (t16 : τ.1 16 16 = σ.2 184 i) (t17 : τ.1 16 17 = σ.2 184 i + σ.2 185 i) (t18 : τ.1 16 18 = if σ.1 16 14 = 1 then σ.1 16 16 else σ.1 16 18) (tF : ∀ p k', ¬ (p = 16 ∧ 14 ≤ k' ∧ k' ≤ 18) → τ.1 p k' = σ.1 p k') (r177 : ∀ j : Nat, τ.2 177 j = if (j : Int) = σ.1 16 14 - 1 then σ.1 16 16 + (k : Int) else σ.2 177 j) (r178 : ∀ j : Nat, τ.2 178 j = if (j : Int) = σ.1 16 14 then σ.2 184 i + σ.2 185 i else σ.2 178 j) (r179 : ∀ j : Nat, τ.2 179 j = if (j : Int) = σ.1 16 14 then (i : Int) else σ.2 179 j) (r180 : ∀ j : Nat, τ.2 180 j = if (j : Int) = σ.1 16 14 then σ.1 16 64 else σ.2 180 j) (r181 : ∀ j : Nat, τ.2 181 j = if (j : Int) = σ.1 16 14 then σ.1 16 15 else σ.2 181 j) (r186 : ∀ j : Nat, τ.2 186 j = if j = i then 1 else σ.2 186 j) (tR : ∀ r, ¬ ((177 ≤ r ∧ r ≤ 181) ∨ r = 186) → τ.2 r = σ.2 r) :
    RK rm nd o τ g (sN (sF A ((((aE A).getD i ([], false, [])).2.2, i + 1, (aO A).length) :: ((cur A).drop k, q) :: t)) 7 (if t = [] then aN A 8 - (cur A).length else aN A 7)) := by
  have ho := hL.2.1
  have hg := h.go hL hk
  obtain ⟨p, -, -, -, p1, p2, -⟩ := h.at_ hL
  have hpl := h.pl
  have hfr := h.2.1
  have e14 : σ.1 16 14 = ((t.length + 1 : Nat) : Int) := by rw [hfr.1, hF]; rfl
  have hen := h.2.2.1
  have hN := h.2.2.2.1
  have hop := h.2.2.2.2.2.2.2.2.2.1
  have h64 : σ.1 16 64 = ((aO A).length : Int) := hop.1
  have h178 : t = [] → σ.2 178 0 = σ.1 16 17 := fun z => by
    have := hfr.2.2.2.1
    rw [hF, z] at this
    exact this
  rw [adv_F hF] at hg
  have hgf : KFr (pf σ 16 16 (σ.1 16 16 + (k : Int))) (gC g) (((cur A).drop k, q) :: t) := hg.2.1
  have hgo : KOp (pf σ 16 16 (σ.1 16 16 + (k : Int))) (gB g) (((cur A).drop k, q) :: t) (aL A) (aO A) := hg.2.2.2.2.2.2.2.2.2.1
  have h0 := h
  have hF2 : ∀ p k', ¬ (p = 16 ∧ 14 ≤ k' ∧ k' ≤ 18) → τ.1 p k' = σ.1 p k' := tF
  clear hg
  have hF' := hF
  have hF := hF2
  have hR := tR
  obtain ⟨e1, e2⟩ := hen
  obtain ⟨m1, m2, m3, m4, m5⟩ := e2 i hi
  refine (RK.mk' ho h kle.refl cle.refl cle.refl (h.1.dep ho (fun p k x => hF p k (by omega)) (fun r x => hR r (by omega))) (Or.inr ?_) (Or.inr ?_) (Or.inr ?_) (Or.inl ⟨hF 16 20 (by omega), hF 16 24 (by omega), rfl⟩) (Or.inl ⟨hF 16 40 (by omega), hF 16 47 (by omega), hF 16 58 (by omega), fun r x => hR r (by omega), rfl⟩) (Or.inl ⟨hF 16 56 (by omega), hF 16 58 (by omega), fun r x y => hR r (by omega), rfl⟩) (Or.inl ⟨hF 16 34 (by omega), hR 187 (by omega), rfl⟩) (Or.inl ⟨hF o 7 (by omega), fun k x y => hR _ (by have := rf_3 ho x y; omega), rfl⟩) (Or.inr ?_) (Or.inl ⟨hF o 14 (by omega), fun k x y => hR _ (by have := rf_8 ho x y; omega), rfl, rfl⟩) (Or.inl ⟨fun k x => hF o k (by omega), hR _ (by have := rf_1 ho; omega), rfl, rfl, rfl⟩) (hF 16 3 (by omega)) (Or.inr ?_))
  · refine hgf.psh m3 ?_ ?_ t16 (by rw [t17, m4]) ?_ ?_ ?_ ?_ ?_
    · rw [pf_nk (by decide)]; exact t14
    · rw [pf_nk (by decide)]; exact t15
    · intro j; rw [pf_nk (by decide), pf_eq]; exact r177 j
    · intro j; rw [pf_nk (by decide), ← m4]; exact r178 j
    · intro j; rw [pf_nk (by decide)]; exact r179 j
    · intro j; rw [pf_nk (by decide), ← h64]; exact r180 j
    · intro j; rw [pf_nk (by decide), pf_nk (by decide)]; exact r181 j
  · refine KEn.bs (b := bsy A) ⟨e1, e2⟩ (hF 16 32 (by omega)) (fun r x y => hR r (by omega)) (fun j hj => ?_)
    show τ.2 186 j = if (j + 1) ∈ (i + 1) :: (((cur A).drop k, q) :: t).map (fun f => f.2.1) then 1 else 0
    have eb : (((cur A).drop k, q) :: t).map (fun f => f.2.1) = bsy A := by
      unfold bsy
      rw [hF']
      rfl
    rw [eb, r186]
    by_cases c : j = i
    · rw [if_pos c, c, if_pos List.mem_cons_self]
    · rw [if_neg c, (e2 j hj).2.2.2.2]
      by_cases d : (j + 1) ∈ bsy A
      · rw [if_pos d, if_pos (List.mem_cons_of_mem _ d)]
      · rw [if_neg d, if_neg (fun z => (List.mem_cons.mp z).elim (fun y => c (by omega)) d)]
  · obtain ⟨n1, n2, n3, n4, n5, n6, n7⟩ := hN
    have r1 := rf_1 ho
    unfold KNu
    rw [hF 16 25 (by omega), hF 16 26 (by omega), hF 16 19 (by omega), hF 16 21 (by omega), hF 16 22 (by omega), hR (rfo o 19) (by omega)]
    exact ⟨n1, n2, n3, n4, n5, n6, n7⟩
  · refine hgo.psh rfl ?_ ?_ (fun r x y => hR r (by omega)) (fun j hj => ?_)
    · rw [pf_nk (by decide)]; exact hF 16 64 (by omega)
    · rw [pf_nk (by decide)]; exact hF 16 66 (by omega)
    · rw [List.length_cons] at hj
      rw [r181, if_neg (by omega)]
      rfl
  · refine ⟨?_, fun _ => ?_, (hF 16 47 (by omega)).trans hpl.2.2.1, (hF 16 58 (by omega)).trans hpl.2.2.2⟩
    · rw [r178, if_neg (by omega)]
      exact hpl.1
    · show τ.1 16 18 = ((if t = [] then aN A 8 - (cur A).length else aN A 7 : Nat) : Int)
      rw [t18, e14]
      by_cases c : t = []
      · have := h178 c
        have := hpl.1
        rw [if_pos c, if_pos (by rw [c]; rfl)]
        omega
      · have hlt : 0 < t.length := List.length_pos_iff.mpr c
        rw [if_neg c, if_neg (by omega)]
        exact hpl.2.1 (by rw [hF', List.length_cons]; omega)
set_option maxHeartbeats 1000000 in
theorem sp_K_goThrough {i k : Nat} {v w : Int} {q : Nat × Nat} {t : List Frm} (hL : KLn L o rm nd) (h : RK rm nd o σ g A) (hGO : GO (aE A) (aF A)) (he : (aE A).length ≤ 8300) (hi : i < (aE A).length) (hv : v = (i : Int)) (hF : aF A = (cur A, q) :: t) (hk : k ≤ (cur A).length) (hw : w = σ.1 16 16 + (k : Int)) (hs : σ.1 16 15 ≤ 1000000) (hq : ∀ τ, RK rm nd o τ g (sN (sF A ((((aE A).getD i ([], false, [])).2.2, i + 1, (aO A).length) :: ((cur A).drop k, q) :: t)) 7 (if t = [] then aN A 8 - (cur A).length else aN A 7)) → τ.1 16 4 = σ.1 16 4 → τ.1 16 15 = σ.1 16 15 + 1 → Q τ) : w_KReader_goThrough L v w Q σ := by
  subst hv hw
  have ho := hL.2.1
  have hlen := hGO.len
  obtain ⟨e1, e2⟩ := h.2.2.1
  obtain ⟨m1, m2, ⟨pe, q1, q2, -⟩, m4, m5⟩ := e2 i hi
  have hz := h.1.2.2.1.2.1
  have e14 : σ.1 16 14 = ((t.length + 1 : Nat) : Int) := by rw [h.2.1.1, hF]; rfl
  have s0 := (h.2.1.2.2.2.2.1 0 (by rw [hF, List.length_cons]; omega)).2.2.1
  rw [hF, List.length_cons] at hlen
  have l4 := hL.2.2.2.2.2.2.1 184 (by omega) (by omega)
  have l5 := hL.2.2.2.2.2.2.1 185 (by omega) (by omega)
  have l6 := hL.2.2.2.2.2.2.1 186 (by omega) (by omega)
  have l77 := hL.2.2.2.2.2.1 177 (by omega) (by omega)
  have l78 := hL.2.2.2.2.2.1 178 (by omega) (by omega)
  have l79 := hL.2.2.2.2.2.1 179 (by omega) (by omega)
  have l80 := hL.2.2.2.2.2.1 180 (by omega) (by omega)
  have l81 := hL.2.2.2.2.2.1 181 (by omega) (by omega)
  unfold w_KReader_goThrough w_KReader_push
  rw [show Int.toNat (i : Int) = i from rfl]
  refine ⟨⟨by omega, by omega⟩, ⟨by omega, by omega⟩, ⟨by omega, by omega⟩, ⟨by omega, by omega⟩, ⟨by omega, by omega⟩, WJ_dir ?_⟩
  have f14 : (pr (pf (pf σ 16 18 (if σ.1 16 14 = 1 then σ.1 16 16 else σ.1 16 18)) 16 16 (σ.1 16 16 + (k : Int))) 186 i 1).1 16 14 = ((t.length + 1 : Nat) : Int) := by rw [pr_1, pf_nk (by decide), pf_nk (by decide)]; exact e14
  have f16 : (pr (pf (pf σ 16 18 (if σ.1 16 14 = 1 then σ.1 16 16 else σ.1 16 18)) 16 16 (σ.1 16 16 + (k : Int))) 186 i 1).1 16 16 = σ.1 16 16 + (k : Int) := by rw [pr_1, pf_eq]
  have f15 : (pr (pf (pf σ 16 18 (if σ.1 16 14 = 1 then σ.1 16 16 else σ.1 16 18)) 16 16 (σ.1 16 16 + (k : Int))) 186 i 1).1 16 15 = σ.1 16 15 := by rw [pr_1, pf_nk (by decide), pf_nk (by decide)]
  have f64 : (pr (pf (pf σ 16 18 (if σ.1 16 14 = 1 then σ.1 16 16 else σ.1 16 18)) 16 16 (σ.1 16 16 + (k : Int))) 186 i 1).1 16 64 = σ.1 16 64 := by rw [pr_1, pf_nk (by decide), pf_nk (by decide)]
  have f18 : (pr (pf (pf σ 16 18 (if σ.1 16 14 = 1 then σ.1 16 16 else σ.1 16 18)) 16 16 (σ.1 16 16 + (k : Int))) 186 i 1).1 16 18 = if σ.1 16 14 = 1 then σ.1 16 16 else σ.1 16 18 := by rw [pr_1, pf_nk (by decide), pf_eq]
  have fF : ∀ p k', ¬ (p = 16 ∧ 14 ≤ k' ∧ k' ≤ 18) → (pr (pf (pf σ 16 18 (if σ.1 16 14 = 1 then σ.1 16 16 else σ.1 16 18)) 16 16 (σ.1 16 16 + (k : Int))) 186 i 1).1 p k' = σ.1 p k' := fun p k' z => by rw [pr_1, pf_1, if_neg (by omega), pf_1, if_neg (by omega)]
  have fR : ∀ r, r ≠ 186 → (pr (pf (pf σ 16 18 (if σ.1 16 14 = 1 then σ.1 16 16 else σ.1 16 18)) 16 16 (σ.1 16 16 + (k : Int))) 186 i 1).2 r = σ.2 r := fun r z => by funext j; rw [pr_2, if_neg (fun y => z y.1)]; rfl
  have f186 : ∀ j : Nat, (pr (pf (pf σ 16 18 (if σ.1 16 14 = 1 then σ.1 16 16 else σ.1 16 18)) 16 16 (σ.1 16 16 + (k : Int))) 186 i 1).2 186 j = if j = i then 1 else σ.2 186 j := fun j => by
    rw [pr_2]
    by_cases c : j = i
    · rw [if_pos ⟨rfl, c⟩, if_pos c]
    · rw [if_neg (fun y => c y.2), if_neg c]; rfl
  generalize pr (pf (pf σ 16 18 (if σ.1 16 14 = 1 then σ.1 16 16 else σ.1 16 18)) 16 16 (σ.1 16 16 + (k : Int))) 186 i 1 = s1 at f14 f15 f16 f64 f18 fF fR f186 ⊢
  rw [f14, f16, if_pos (by omega), show ((t.length + 1 : Nat) : Int) - 1 = (t.length : Int) by omega, show Int.toNat (t.length : Int) = t.length from rfl]
  refine ⟨⟨by omega, by omega⟩, ⟨by omega, by omega⟩, ?_⟩
  dsimp only
  rw [pr_1, f14, f15, f64, show Int.toNat ((t.length + 1 : Nat) : Int) = t.length + 1 from rfl]
  refine ⟨⟨by omega, by omega⟩, ⟨by omega, by omega⟩, ⟨by omega, by omega⟩, ⟨by omega, by omega⟩, ⟨by omega, by omega⟩, ⟨by omega, by omega⟩, ?_⟩
  refine hq _ (h.psh hL hi hF hk ?_ ?_ ?_ ?_ ?_ (fun p k' z => ?_) (fun j => ?_) (fun j => ?_) (fun j => ?_) (fun j => ?_) (fun j => ?_) (fun j => ?_) (fun r z => ?_)) ?_ ?_
  · rw [pf_nk (by decide), pf_nk (by decide), pf_eq, e14]
  · rw [pf_nk (by decide), pf_nk (by decide), pf_nk (by decide), pf_eq]
  · rw [pf_nk (by decide), pf_eq]
  · rw [pf_eq]
  · rw [pf_nk (by decide), pf_nk (by decide), pf_nk (by decide), pf_nk (by decide), pr_1, pr_1, pr_1, pr_1, pr_1, f18]
  · rw [pf_1, if_neg (by omega), pf_1, if_neg (by omega), pf_1, if_neg (by omega), pf_1, if_neg (by omega), pr_1, pr_1, pr_1, pr_1, pr_1]
    exact fF p k' z
  · rw [pf_2, pf_2, pf_2, pf_2, pr_2, if_neg (by omega), pr_2, if_neg (by omega), pr_2, if_neg (by omega), pr_2, if_neg (by omega), pr_2, e14]
    by_cases c : j = t.length
    · rw [if_pos ⟨rfl, c⟩, if_pos (by omega)]
    · rw [if_neg (fun y => c y.2), if_neg (by omega), fR 177 (by decide)]
  · rw [pf_2, pf_2, pf_2, pf_2, pr_2, if_neg (by omega), pr_2, if_neg (by omega), pr_2, if_neg (by omega), pr_2, e14]
    by_cases c : j = t.length + 1
    · rw [if_pos ⟨rfl, c⟩, if_pos (by omega)]
    · rw [if_neg (fun y => c y.2), if_neg (by omega), pr_2, if_neg (by omega), fR 178 (by decide)]
  · rw [pf_2, pf_2, pf_2, pf_2, pr_2, if_neg (by omega), pr_2, if_neg (by omega), pr_2, e14]
    by_cases c : j = t.length + 1
    · rw [if_pos ⟨rfl, c⟩, if_pos (by omega)]
    · rw [if_neg (fun y => c y.2), if_neg (by omega), pr_2, if_neg (by omega), pr_2, if_neg (by omega), fR 179 (by decide)]
  · rw [pf_2, pf_2, pf_2, pf_2, pr_2, if_neg (by omega), pr_2, e14]
    by_cases c : j = t.length + 1
    · rw [if_pos ⟨rfl, c⟩, if_pos (by omega)]
    · rw [if_neg (fun y => c y.2), if_neg (by omega), pr_2, if_neg (by omega), pr_2, if_neg (by omega), pr_2, if_neg (by omega), fR 180 (by decide)]
  · rw [pf_2, pf_2, pf_2, pf_2, pr_2, e14]
    by_cases c : j = t.length + 1
    · rw [if_pos ⟨rfl, c⟩, if_pos (by omega)]
    · rw [if_neg (fun y => c y.2), if_neg (by omega), pr_2, if_neg (by omega), pr_2, if_neg (by omega), pr_2, if_neg (by omega), pr_2, if_neg (by omega), fR 181 (by decide)]
  · rw [pf_2, pf_2, pf_2, pf_2, pr_2, if_neg (by omega), pr_2, if_neg (by omega), pr_2, if_neg (by omega), pr_2, if_neg (by omega), pr_2, if_neg (by omega)]
    exact f186 j
  · funext j
    rw [pf_2, pf_2, pf_2, pf_2, pr_2, if_neg (by omega), pr_2, if_neg (by omega), pr_2, if_neg (by omega), pr_2, if_neg (by omega), pr_2, if_neg (by omega), fR r (by omega)]
  · rw [pf_nk (by decide), pf_nk (by decide), pf_nk (by decide), pf_nk (by decide), pr_1, pr_1, pr_1, pr_1, pr_1, fF 16 4 (by omega)]
  · rw [pf_nk (by decide), pf_nk (by decide), pf_nk (by decide), pf_eq]
end Kfr
