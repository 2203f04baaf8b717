/-! ===== the trees of models (pure): a tree from its text ===== -/
/-- t' is t, but that g has now h -/
def RO (t t' : List KNd) (g : Nat) (h : Int) : Prop := t'.length = t.length ∧ ∀ p, p < t.length → kK t' p = kK t p ∧ kO t' p = (if g = p then h else kO t p) ∧ kM t' p = kM t p ∧ kC t' p = kC t p ∧ kS t' p = kS t p ∧ kA t' p = kA t p
/-- a tree that stands, and what it means -/
def TFk (t : List KNd) (G : Nat → KGv) (W : MVl) (NS : List Str) : Prop := (∀ p, p < t.length → CN t G p) ∧ 0 < t.length ∧ gvl (G 0) = W ∧ PAk t G [] ∧ NMk t NS ∧ glo (G 0) = 0 ∧ ghi (G 0) = NS.length ∧ gdp (G 0) = 0
section Kbm
variable {t t' : List KNd} {G G' : Nat → KGv} {ns : List Str} {g g1 : Nat} {gl : List Nat} {s s' : Int} {o o' : Option MVl} {fs : List MFr} {due : Bool} {la gr kd h ch c : Int} {nm : Str} {v : MVl} {T : Nat → Int} {e : Nat}
theorem fo_none (h : fo s G [] = some v) : False := by cases h
/-- what stands between parts -/
theorem BI.sep (hB : BI t G ns g gl s o fs false la) (hc : c = 124 ∨ c = 44) (hs : s = 0 ∨ s = c) (hl : t'.length = t.length) (hr : ∀ p, p < t.length → kK t' p = (if c = 124 ∧ g = p then 2 else kK t p) ∧ kO t' p = kO t p ∧ kM t' p = kM t p ∧ kC t' p = kC t p ∧ kS t' p = kS t p ∧ kA t' p = kA t p) : BI t' G ns g gl c o fs true la := by
  obtain ⟨b1, ⟨⟨k1, k2, k3, k4, k5, k6, k7, k8, k9, k10, k11⟩, k⟩, b3, b4, b5, b6, b7⟩ := id hB
  rw [List.append_nil] at k4 k5 k6 k9
  have hgk : kK t' g = if c = 124 then 2 else 1 := by
    rw [(hr g k1).1, k2]
    rcases hc with z | z
    · rw [if_pos ⟨z, rfl⟩, if_pos z]
    · rw [if_neg (fun y => by have := y.1; omega), if_neg (by omega), if_neg (by omega)]
  have hgz : ∀ p, p < t.length → (kK t' p = 0 ↔ kK t p = 0) := fun p hp => by
    rw [(hr p hp).1]
    by_cases cc : c = 124 ∧ g = p
    · rw [if_pos cc, ← cc.2, k2]
      split <;> exact ⟨fun z => absurd z (by decide), fun z => absurd z (by decide)⟩
    · rw [if_neg cc]
  have hlc : ∀ p, p ≤ t.length → lcn (kK t') p = lcn (kK t) p := by
    intro p
    induction p with
    | zero => intro _; rfl
    | succ p ih =>
      intro hp
      show lcn (kK t') p + (if kK t' p = 0 then 1 else 0) = lcn (kK t) p + (if kK t p = 0 then 1 else 0)
      rw [ih (by omega)]
      by_cases cc : kK t p = 0
      · rw [if_pos cc, if_pos ((hgz p (by omega)).mpr cc)]
      · rw [if_neg cc, if_neg (fun z => cc ((hgz p (by omega)).mp z))]
  refine ⟨fun p hp hpn => ?_, ⟨⟨by omega, hgk, by rw [(hr g k1).2.1]; exact k3, ?_, by rw [List.append_nil]; exact k5, ?_, ?_, k8, fun z => by omega, k10, by rw [(hr g k1).2.2.2.2.2]; exact k11⟩, ?_⟩, b3, fun _ z => by omega, fun p hp => ?_, ⟨fun p hp hpk => ?_, ?_⟩, b7⟩
  · have hp' : p < t.length := by omega
    have hpg : p ≠ g := fun z => hpn (by rw [z]; exact List.mem_cons_self)
    have hcn := b1 p hp' hpn
    refine hcn.ext (by omega) (by rw [(hr p hp').1, if_neg (fun z => hpg z.2.symm)]) (hr p hp').2.1 (hr p hp').2.2.2.1 rfl (fun d hd => ?_)
    have hd' := (hcn.2.2.1 d hd).2.2.1
    exact ⟨(hr d hd').2.2.2.2.1, (hr d hd').2.2.2.2.2, rfl⟩
  · rw [List.append_nil, (hr g k1).2.2.2.1]
    exact chn_ext k4 (fun d hd => (hr d (k6 d hd).2.2.1).2.2.2.2.1)
  · rw [List.append_nil]
    intro d hd
    obtain ⟨d1, d2, d3, d4⟩ := k6 d hd
    rw [(hr d d3).2.2.2.2.2]
    exact ⟨d1, d2, by omega, d4⟩
  · rw [← k7]
    rcases hs with z | z
    · exact fo_one (k9 z)
    · rw [z]
  · refine OG.ext (g0 := g) k (Nat.le_refl _) (by omega) (fun p hp => ?_) (fun p hp => ?_)
    · have := hr p (by omega)
      exact ⟨by rw [this.1, if_neg (by omega)], this.2.1, this.2.2.2.1, rfl⟩
    · have := hr p (by omega)
      exact ⟨this.2.2.2.2.1, this.2.2.2.2.2, rfl, rfl⟩
  · rw [(hr p (by omega)).2.2.2.2.2]; exact b5 p (by omega)
  · have hp' : p < t.length := by omega
    rw [hlc p (by omega), (hr p hp').2.2.2.1, (hr p hp').2.2.1]
    exact b6.1 p hp' ((hgz p hp').mp hpk)
  · rw [hl, hlc _ (Nat.le_refl _)]; exact b6.2
/-- a group that is closed -/
theorem BI.cn (hB : BI t G ns g gl s (some v) fs due la) (hd : gl.length ≤ 60) (hr : RO t t' g h) (hGg : G' g = (vof h v, glo (G g), ns.length, gdp (G g), gch (G g))) (hGc : ∀ x ∈ gch (G g), G' x = G x) : CN t' G' g := by
  obtain ⟨b1, ⟨⟨k1, k2, k3, k4, k5, k6, k7, k8, k9, k10, k11⟩, k⟩, b3, b4, b5, b6, b7⟩ := id hB
  rw [List.append_nil] at k4 k5 k6 k9
  have hk : kK t' g = if s = 124 then 2 else 1 := by rw [(hr.2 g k1).1]; exact k2
  have hne : gch (G g) ≠ [] := fun z => by rw [z] at k7; cases k7
  refine ⟨fun z => ?_, fun _ => ⟨by rw [hGg]; exact hne, ?_, ?_, s, hk, ?_⟩, ?_, by rw [hGg]; exact k5, by rw [hGg]; show gdp (G g) ≤ 60; omega⟩
  · rw [hk] at z
    split at z <;> exact absurd z (by decide)
  · rw [hGg, (hr.2 g k1).2.2.2.1]
    exact chn_ext k4 (fun d hd => (hr.2 d (k6 d hd).2.2.1).2.2.2.2.1)
  · rw [hGg]
    have k8' : ivl G (glo (G g)) (gch (G g)) ns.length := k8
    exact ivl_ext k8' hGc
  · rw [hGg]
    show (fo s G' (gch (G g))).map (vof (kO t' g)) = some (vof h v)
    rw [fo_ext hGc, k7, (hr.2 g k1).2.1, if_pos rfl]
    rfl
  · rw [hGg]
    intro d hd
    obtain ⟨d1, d2, d3, d4⟩ := k6 d hd
    rw [(hr.2 d d3).2.2.2.2.2, hGc d hd]
    exact ⟨d1, d2, by rw [hr.1]; exact d3, d4⟩
theorem RO.nms (hr : RO t t' g h) (b6 : NMk t ns) : NMk t' ns := by
  have hlc : ∀ p, p ≤ t.length → lcn (kK t') p = lcn (kK t) p := fun p hp => lcn_ext (fun q hq => (hr.2 q (by omega)).1)
  refine ⟨fun p hp hpk => ?_, ?_⟩
  · have hp' : p < t.length := by rw [← hr.1]; exact hp
    rw [(hr.2 p hp').1] at hpk
    rw [hlc p (by omega), (hr.2 p hp').2.2.2.1, (hr.2 p hp').2.2.1]
    exact b6.1 p hp' hpk
  · rw [hr.1, hlc _ (Nat.le_refl _)]; exact b6.2
/-- a group within a group is closed -/
theorem BI.cl (hB : BI t G ns g (g1 :: gl) s (some v) ((s', o') :: fs) false la) (hd : gl.length + 1 ≤ 60) (hr : RO t t' g h) : ∃ G', BI t' G' ns g1 gl s' (some (vj s' o' (vof h v))) fs false (g : Int) := by
  obtain ⟨b1, ⟨⟨k1, k2, k3, k4, k5, k6, k7, k8, k9, k10, k11⟩, ⟨j1, j2, j3, j4, j5, j6, j7, j8, j9, j10, j11⟩, k⟩, b3, b4, b5, b6, b7⟩ := id hB
  rw [List.append_nil] at k4 k5 k6 k9
  have hg1g : g1 < g := (j6 g (List.mem_append_right _ (List.mem_singleton.mpr rfl))).2.1
  have hlt1 : ∀ c ∈ gch (G g1), c < g := fun c hc => (List.pairwise_append.mp j5).2.2 c hc g (List.mem_singleton.mpr rfl)
  let G' : Nat → KGv := fun p => if p = g then (vof h v, glo (G g), ns.length, gdp (G g), gch (G g)) else if p = g1 then (gvl (G g1), glo (G g1), ghi (G g1), gdp (G g1), gch (G g1) ++ [g]) else G p
  have gg : G' g = (vof h v, glo (G g), ns.length, gdp (G g), gch (G g)) := if_pos rfl
  have gg1 : G' g1 = (gvl (G g1), glo (G g1), ghi (G g1), gdp (G g1), gch (G g1) ++ [g]) := by
    show (if g1 = g then _ else if g1 = g1 then _ else _) = _
    rw [if_neg (by omega), if_pos rfl]
  have go_ : ∀ p, p ≠ g → p ≠ g1 → G' p = G p := fun p h1 h2 => by
    show (if p = g then _ else if p = g1 then _ else _) = _
    rw [if_neg h1, if_neg h2]
  have hGc : ∀ x ∈ gch (G g), G' x = G x := fun x hx => by have := (k6 x hx).2.1; exact go_ x (by omega) (by omega)
  have hGc1 : ∀ x ∈ gch (G g1), G' x = G x := fun x hx => by
    have := (j6 x (List.mem_append_left _ hx)).2.1
    have := hlt1 x hx
    exact go_ x (by omega) (by omega)
  have hcn := hB.cn (G' := G') hd hr gg hGc
  obtain ⟨r1, r2⟩ := id hr
  refine ⟨G', fun p hp hpn => ?_, ⟨⟨by omega, ?_, ?_, ?_, ?_, ?_, ?_, ?_, ?_, ?_, ?_⟩, ?_⟩, Or.inr ⟨gch (G g1), g, by rw [gg1]; rfl, rfl⟩, fun z => (by cases z), fun p hp => ?_, hr.nms b6, ?_⟩
  · by_cases c : p = g
    · rw [c]; exact hcn
    · have hp' : p < t.length := by omega
      have hpn' : p ∉ g :: g1 :: gl := fun z => (List.mem_cons.mp z).elim c hpn
      have hpg1 : p ≠ g1 := fun z => hpn (by rw [z]; exact List.mem_cons_self)
      have hc := b1 p hp' hpn'
      obtain ⟨a1, a2, a3, a4, a5, a6⟩ := r2 p hp'
      refine hc.ext (by omega) a1 (by rw [a2, if_neg (fun z => c z.symm)]) a4 (go_ p c hpg1) (fun d hd => ?_)
      obtain ⟨d1, d2, d3, d4⟩ := hc.2.2.1 d hd
      refine ⟨(r2 d d3).2.2.2.2.1, (r2 d d3).2.2.2.2.2, go_ d (fun z => ?_) (fun z => ?_)⟩
      · rw [z, k11] at d1
        have : (g1 : Int) = (p : Int) := d1
        omega
      · rw [z, j11] at d1
        cases gl with
        | nil => have : (-1 : Int) = (p : Int) := d1; omega
        | cons x r =>
          have : (x : Int) = (p : Int) := d1
          exact hpn (by rw [show p = x by omega]; exact List.mem_cons_of_mem _ List.mem_cons_self)
  · rw [(r2 g1 j1).1]; exact j2
  · rw [(r2 g1 j1).2.1, if_neg (by omega)]; exact j3
  · rw [List.append_nil, gg1, (r2 g1 j1).2.2.2.1]
    exact chn_ext j4 (fun d hd => (r2 d (j6 d hd).2.2.1).2.2.2.2.1)
  · rw [List.append_nil, gg1]; exact j5
  · rw [List.append_nil, gg1]
    intro d hd
    obtain ⟨d1, d2, d3, d4⟩ := j6 d hd
    rw [(r2 d d3).2.2.2.2.2]
    refine ⟨d1, d2, by omega, ?_⟩
    show gdp (G' d) = gdp (G g1) + 1
    rw [← d4]
    rcases List.mem_append.mp hd with z | z
    · rw [hGc1 d z]
    · rw [List.mem_singleton.mp z, gg]; rfl
  · rw [gg1]
    show fo s' G' (gch (G g1) ++ [g]) = _
    rw [fo_snoc, fo_ext hGc1, j7, gg]
    rfl
  · rw [gg1]
    show ivl G' (glo (G g1)) (gch (G g1) ++ [g]) ns.length
    have j8' : ivl G (glo (G g1)) (gch (G g1)) (glo (G g)) := j8
    exact ivl_snoc (ivl_ext j8' hGc1) (by rw [gg]; rfl) (by rw [gg]; rfl)
  · rw [List.append_nil, gg1]; exact j9
  · rw [gg1]; exact j10
  · rw [(r2 g1 j1).2.2.2.2.2]; exact j11
  · refine OG.ext (g0 := g1) k (Nat.le_refl _) (by omega) (fun p hp => ?_) (fun p hp => ?_)
    · obtain ⟨a1, a2, a3, a4, a5, a6⟩ := r2 p (by omega)
      exact ⟨a1, by rw [a2, if_neg (by omega)], a4, go_ p (by omega) (by omega)⟩
    · obtain ⟨a1, a2, a3, a4, a5, a6⟩ := r2 p (by omega)
      refine ⟨a5, a6, ?_⟩
      by_cases c : p = g1
      · rw [c, gg1]; exact ⟨rfl, rfl⟩
      · rw [go_ p (by omega) c]; exact ⟨rfl, rfl⟩
  · have hp' : p < t.length := by omega
    rw [(r2 p hp').2.2.2.2.2]
    rcases b5 p hp' with z | ⟨q, z1, z2, z3⟩
    · exact Or.inl z
    · refine Or.inr ⟨q, z1, z2, ?_⟩
      rcases z3 with z | z
      · left
        by_cases c1 : q = g
        · rw [c1, gg]; rw [c1] at z; exact z
        · by_cases c2 : q = g1
          · rw [c2, gg1]; rw [c2] at z; exact List.mem_append_left _ z
          · rw [go_ q c1 c2]; exact z
      · rcases List.mem_cons.mp z with y | y
        · left
          rw [y, k11] at z1
          have : q = g1 := by have : (g1 : Int) = (q : Int) := z1; omega
          rw [this, gg1, y]
          exact List.mem_append_right _ (List.mem_singleton.mpr rfl)
        · exact Or.inr y
  · by_cases c1 : 0 = g
    · rw [c1, gg]; rw [c1] at b7; exact b7
    · by_cases c2 : 0 = g1
      · rw [c2, gg1]; rw [c2] at b7; exact b7
      · rw [go_ 0 c1 c2]; exact b7
/-- the outermost group is closed -/
theorem BI.fin (hB : BI t G ns g [] s (some v) [] false la) (hr : RO t t' g h) : ∃ G', TFk t' G' (vof h v) ns := by
  obtain ⟨b1, ⟨⟨k1, k2, k3, k4, k5, k6, k7, k8, k9, k10, k11⟩, k⟩, b3, b4, b5, b6, b7⟩ := id hB
  rw [List.append_nil] at k4 k5 k6 k9
  have hg0 : g = 0 := by
    rcases b5 g k1 with z | ⟨q, z1, -⟩
    · exact z.1
    · rw [z1] at k11
      have : (q : Int) = -1 := k11
      omega
  subst hg0
  let G' : Nat → KGv := fun p => if p = 0 then (vof h v, glo (G 0), ns.length, gdp (G 0), gch (G 0)) else G p
  have gg : G' 0 = (vof h v, glo (G 0), ns.length, gdp (G 0), gch (G 0)) := if_pos rfl
  have go_ : ∀ p, p ≠ 0 → G' p = G p := fun p h1 => if_neg h1
  have hGc : ∀ x ∈ gch (G 0), G' x = G x := fun x hx => by have := (k6 x hx).2.1; exact go_ x (by omega)
  have hcn := hB.cn (G' := G') (by show 0 ≤ 60; omega) hr gg hGc
  obtain ⟨r1, r2⟩ := id hr
  refine ⟨G', fun p hp => ?_, by omega, by rw [gg]; rfl, fun p hp => ?_, hr.nms b6, by rw [gg]; exact b7, by rw [gg]; rfl, by rw [gg]; exact k10⟩
  · by_cases c : p = 0
    · rw [c]; exact hcn
    · have hp' : p < t.length := by omega
      have hc := b1 p hp' (fun z => c (List.mem_singleton.mp z))
      obtain ⟨a1, a2, a3, a4, a5, a6⟩ := r2 p hp'
      refine hc.ext (by omega) a1 (by rw [a2, if_neg (fun z => c z.symm)]) a4 (go_ p c) (fun d hd => ?_)
      obtain ⟨d1, d2, d3, d4⟩ := hc.2.2.1 d hd
      exact ⟨(r2 d d3).2.2.2.2.1, (r2 d d3).2.2.2.2.2, go_ d (by omega)⟩
  · have hp' : p < t.length := by omega
    rw [(r2 p hp').2.2.2.2.2]
    rcases b5 p hp' with z | ⟨q, z1, z2, z3⟩
    · exact Or.inl z
    · rcases z3 with z | z
      · refine Or.inr ⟨q, z1, z2, Or.inl ?_⟩
        by_cases c1 : q = 0
        · rw [c1, gg]; rw [c1] at z; exact z
        · rw [go_ q c1]; exact z
      · have := List.mem_singleton.mp z
        omega
/-- a name, up to an end that does not cut it -/
theorem nmg_cut {e' i j : Nat} (h : nmg T e true (some i) = some j) (h1 : j ≤ e') (h2 : e' ≤ e) : nmg T e' true (some i) = some j := by
  have hl := nmg_lt h
  have h' : (if isSt (lk T e i) = true then some (sk isNm T e (i + 1)) else none) = some j := h
  show (if isSt (lk T e' i) = true then some (sk isNm T e' (i + 1)) else none) = some j
  rw [lk_b (by omega)] at h'
  rw [lk_b (by omega)]
  by_cases c : isSt (T i) = true
  · rw [if_pos c] at h' ⊢
    have h3 := Option.some.inj h'
    rw [← h3] at h1 ⊢
    congr 1
    have key : ∀ n x, x + n = e → sk isNm T e x ≤ e' → sk isNm T e' x = sk isNm T e x := by
      intro n
      induction n with
      | zero => intro x hx hs; rw [sk_end (e := e) (by omega)] at hs ⊢; rw [sk_end (e := e') (by omega)]
      | succ n ih =>
        intro x hx hs
        by_cases cn : isNm (T x) = true
        · have a1 := sk_go (p := isNm) (T := T) (e := e) (i := x) (by omega) cn
          rw [a1] at hs ⊢
          have := sk_gt (p := isNm) (T := T) (e := e) (i := x + 1)
          rw [sk_go (e := e') (by omega) cn]
          exact ih (x + 1) (by omega) hs
        · rw [sk_stop (by simpa using cn), sk_stop (by simpa using cn)]
    exact key (e - (i + 1)) (i + 1) (by omega) h1
  · rw [if_neg c] at h'; cases h'
theorem isSp_st {x : Int} (h : isSp x = true) : isSt x = false := by
  unfold isSp at h
  rw [Bool.or_eq_true, Bool.or_eq_true, Bool.or_eq_true, beq_iff_eq, beq_iff_eq, beq_iff_eq, beq_iff_eq] at h
  rcases h with z | z | z | z <;> rw [z] <;> decide
/-- blanks build nothing -/
theorem bld_sk {e' : Nat} : ∀ (n m k : Nat) {lf : Nat}, k + n = sk isSp T e k → sk isSp T e k < e' → e' ≤ e → bld T e' (m + n) k gr la lf t = bld T e' m (sk isSp T e k) gr la lf t
  | 0, m, k, lf, hk, _, _ => by rw [← hk]; rfl
  | n + 1, m, k, lf, hk, h1, h2 => by
    have hke : k < e := by omega
    have hsp : isSp (T k) = true := by
      refine Classical.byContradiction (fun c => ?_)
      rw [sk_stop (by simpa using c)] at hk
      omega
    rw [sk_go hke hsp] at hk h1 ⊢
    have hst := isSp_st hsp
    have hnone : nmg T e' true (some k) = none := by
      show (if isSt (lk T e' k) = true then some (sk isNm T e' (k + 1)) else none) = none
      rw [lk_b (by omega), hst]
      rfl
    have hx : ∀ z : Int, isSp z = false → T k ≠ z := fun z hz y => by rw [y, hz] at hsp; cases hsp
    show (if e' ≤ k then t else if T k = 40 then _ else if T k = 41 then _ else if T k = 124 then _ else if T k = 63 ∨ T k = 42 ∨ T k = 43 then _ else match nmg T e' true (some k) with
      | none => bld T e' (m + n) (k + 1) gr la lf t
      | some j => _) = _
    rw [if_neg (by omega), if_neg (hx 40 (by decide)), if_neg (hx 41 (by decide)), if_neg (hx 124 (by decide)), if_neg (by rintro (z | z | z); exact hx 63 (by decide) z; exact hx 42 (by decide) z; exact hx 43 (by decide) z), hnone]
    exact bld_sk n m (k + 1) (by omega) h1 h2
end Kbm
