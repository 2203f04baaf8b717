/-! ===== the reference: the tree of a model is built, whole ===== -/
/-- the rows while a tree is built -/
def BDt (rm nd o : Nat) (σ : IS) (g : KG) (n0 : Nat) (ρ : IS) (g2 : KG) (acc : List Str) (t : List KNd) : Prop := KZ rm nd o ρ g2 ∧ gB g2 = kpL (gB g) acc ∧ g2.2 = g.2 ∧ KTr ρ (gB g2) n0 t ∧ ρ.1 16 47 = ((n0 + t.length : Nat) : Int) ∧ (∀ pp kk, ¬ ((pp = 13 ∧ (kk = 1 ∨ kk = 6)) ∨ (pp = 16 ∧ kk = 47)) → ρ.1 pp kk = σ.1 pp kk) ∧ (∀ q, ¬ (193 ≤ q ∧ q ≤ 198) → ¬ (211 ≤ q ∧ q ≤ 215) → ρ.2 q = σ.2 q) ∧ ∀ q j, 193 ≤ q → q ≤ 198 → j < n0 → ρ.2 q j = σ.2 q j
/-- where the text is, and the tree -/
def BMk (T : Nat → Int) (e : Nat) (r : Nat × Nat × Nat) (i : Nat) (t : List KNd) (gl : List Nat) (la : Int) (st : List Int) (due pend : Bool) (n d : Nat) : Prop := mdk T e (e + 2) st due (if pend = true then oft T e i else i) n d = some r ∧ gl.length = st.length ∧ (pend = true → due = false ∧ ∃ q : Nat, la = (q : Int) ∧ q < t.length) ∧ BS t gl la
section Kbz
variable {L : Nat → Nat} {rm nd o : Nat} {σ ρ τ : IS} {g g' g2 : KG} {Q : IS → Prop} {R : Int → IS → Prop} {T : Nat → Int} {p e : Nat} {x y : Int} {s : Str} {l acc : List Str} {t t' : List KNd} {gl : List Nat} {la gr kd h ch : Int} {nm : Str} {bk bk' : List Str} {n0 : Nat}
theorem bnm_s {e' n k : Nat} : bnm T e' (n + 1) k = if e' ≤ k then [] else match nmg T e' true (some k) with
    | none => bnm T e' n (k + 1)
    | some j => sl T k (j - k) :: bnm T e' n j := rfl
/-- one row of the tree's rows changed at a node -/
theorem KTr.at1 {i q : Nat} {v : Int} (hT : KTr σ bk n0 t) (hi : i < t.length) (hl : t'.length = t.length) (hr : ∀ r j, τ.2 r j = if r = q ∧ j = n0 + i then v else σ.2 r j) (hs : ∀ j, j < t.length → j ≠ i → (t'.getD j kdD) = (t.getD j kdD)) (hi2 : τ.2 193 (n0 + i) = kK t' i ∧ τ.2 194 (n0 + i) = kO t' i ∧ (kK t' i = 0 → Kn bk (τ.2 195 (n0 + i)) (kM t' i) ∧ τ.2 196 (n0 + i) = kC t' i) ∧ (kK t' i ≠ 0 → τ.2 196 (n0 + i) = ksh n0 (kC t' i)) ∧ τ.2 197 (n0 + i) = ksh n0 (kS t' i) ∧ τ.2 198 (n0 + i) = ksh n0 (kA t' i)) : KTr τ bk n0 t' := by
  intro j hj
  rw [hl] at hj
  by_cases c : j = i
  · rw [c]; exact hi2
  · rw [hs j hj c, hr, hr, hr, hr, hr, hr, if_neg (by omega), if_neg (by omega), if_neg (by omega), if_neg (by omega), if_neg (by omega), if_neg (by omega)]
    exact hT j hj
theorem modN {i j : Nat} {f : KNd → KNd} (hj : j < t.length) (h : j ≠ i) : (t.modify i f).getD j kdD = t.getD j kdD := by
  rw [getD_mod hj, if_neg (fun z => h z.symm)]
set_option maxHeartbeats 8000000 in
theorem sp_K_build {c : Nat} {r : Nat × Nat × Nat} {a1 a2 : Int} (hL : KLn L o rm nd) (h : KZ rm nd o σ g) (hK : KT L σ (p + e)) (hS : SHT T (σ.2 176) e p) (hce : c < e) (h40 : T c = 40) (hm : mdk T e (e + 2) [0] true (c + 1) 0 1 = some r) (h47 : σ.1 16 47 = (n0 : Int)) (hn : n0 + (bld T r.1 (r.1 + 1) c (-1) (-1) 0 []).length ≤ 50000) (ha1 : a1 = ((p + c : Nat) : Int)) (ha2 : a2 = ((p + r.1 : Nat) : Int)) (hcap : kcL (gB g) (bnm T r.1 (r.1 + 1) c)) (hq : ∀ τ g2, BDt rm nd o σ g n0 τ g2 (bnm T r.1 (r.1 + 1) c) (bld T r.1 (r.1 + 1) c (-1) (-1) 0 []) → Q τ) : w_KReader_build L a1 a2 Q σ := by
  subst ha1 ha2
  have hK2 := hK.2.2
  have ho := hL.2.1
  have r1 := rf_1 ho
  have l176 := hL.2.2.2.1
  have hL9 := hL.2.2.2.2.2.2.2.2.2.1
  have l193 := hL9 193 (by omega) (by omega)
  have l194 := hL9 194 (by omega) (by omega)
  have l195 := hL9 195 (by omega) (by omega)
  have l196 := hL9 196 (by omega) (by omega)
  have l198 := hL9 198 (by omega) (by omega)
  have hre : r.1 ≤ e := (mdk_le _ _ _ _ _ _ _ (by omega) hm).2.1
  have hcr : c + 1 < r.1 := by
    have := (mdk_len _ _ _ _ _ _ _ (by omega) hm).1 (by decide)
    have e1 : ([0] : List Int).length = 1 := rfl
    omega
  unfold w_KReader_build
  generalize hTT : bld T r.1 (r.1 + 1) c (-1) (-1) 0 [] = TT at *
  generalize hNN : bnm T r.1 (r.1 + 1) c = NN at *
  refine WL_ind2 (fun nn s3 ρ => (nn = r.1 + 1 - c ∧ s3 = (-1, -1, 0, ((p + c : Nat) : Int)) ∧ ρ = σ) ∨ ∃ (i : Nat) (t : List KNd) (gl : List Nat) (la : Int) (lf : Nat) (st : List Int) (due pend : Bool) (n d m : Nat) (acc : List Str) (g2 : KG), nn = r.1 + 1 - i ∧ c < i ∧ i ≤ r.1 ∧ s3 = (ksh n0 (ghd gl), ksh n0 la, (lf : Int), ((p + i : Nat) : Int)) ∧ BMk T e r i t gl la st due pend n d ∧ r.1 < m + i ∧ TT = bld T r.1 m i (ghd gl) la lf t ∧ NN = acc ++ bnm T r.1 m i ∧ lf ≤ i ∧ BDt rm nd o σ g n0 ρ g2 acc t) ?_ (r.1 + 1 - c) _ σ (Or.inl ⟨rfl, rfl, rfl⟩)
  rintro nn s3 ρ hI K hI'
  try dsimp only
  -- a new node: what is left to be said
  rcases hI with ⟨rfl, rfl, rfl⟩ | ⟨i, t, gl, la, lf, st, due, pend, n, d, m, acc, g2, rfl, hci, hir, rfl, ⟨hmk, hgl, hpd, hBS⟩, hmi, hT, hN, hlf, hD⟩
  · try dsimp only
    have hTc : ρ.2 176 (p + c) = 40 := by rw [hS c hce]; exact h40
    rw [if_pos (by omega), show Int.toNat ((p + c : Nat) : Int) = p + c from rfl, hTc]
    refine ⟨⟨by omega, by omega⟩, ?_⟩
    refine WJ_dir ?_
    rw [if_pos rfl]
    have hT1 : TT = bld T r.1 r.1 (c + 1) (([] : List KNd).length : Int) (-1) 0 (knw 1 [] (-1) (-1) (-1) []) := by
      rw [← hTT, bld_s, if_neg (by omega), if_pos h40]
    have hN1 : NN = bnm T r.1 r.1 (c + 1) := by
      rw [← hNN, bnm_s, if_neg (by omega)]
      have : nmg T r.1 true (some c) = none := by
        show (if isSt (lk T r.1 c) = true then some (sk isNm T r.1 (c + 1)) else none) = none
        rw [lk_b (by omega), h40]
        rfl
      rw [this]
    have hlen1 : 1 ≤ TT.length := by
      have := bld_len (T := T) (e' := r.1) r.1 (c + 1) (([] : List KNd).length : Int) (-1) 0 (knw 1 [] (-1) (-1) (-1) [])
      rw [← hT1] at this
      have e1 : (knw 1 [] (-1) (-1) (-1) []).length = 1 := rfl
      omega
    refine sp_K_newNode (n0 := n0) (len := 0) (gr := -1) (la := -1) hL9 (by rw [h47]; rfl) (by omega) (Or.inr rfl) rfl rfl (Or.inl rfl) (Or.inl rfl) (fun τ f1 f2 f3 f4 f5 v3 v4 v6 v7 v8 => ?_)
    try dsimp only
    refine ⟨⟨by omega, by omega⟩, ?_⟩
    have hrd : RD [] (knw 1 [] (-1) (-1) (-1) []) 1 0 [] (-1) (ghd []) (-1) := knw_rd (t := []) (Or.inl rfl) (Or.inl rfl)
    have hBS0 : BS [] [] (-1) := ⟨fun g hg => (by cases hg), trivial, Or.inl rfl⟩
    refine hI' (r.1 + 1 - (c + 1)) _ _ (Or.inr ⟨c + 1, knw 1 [] (-1) (-1) (-1) [], [0], -1, 0, [0], true, false, 0, 1, r.1, [], g, rfl, by omega, by omega, ?_, ⟨hm, rfl, fun z => (by cases z), hBS0.grp hrd⟩, by omega, hT1, hN1, by omega, ?_⟩) (by omega)
    · show (((n0 + 0 : Nat) : Int), (-1 : Int), (0 : Int), ((p + c : Nat) : Int) + 1) = (ksh n0 ((0 : Nat) : Int), (-1 : Int), ((0 : Nat) : Int), ((p + (c + 1) : Nat) : Int))
      rw [ksh_nn, show ((p + c : Nat) : Int) + 1 = ((p + (c + 1) : Nat) : Int) by omega]
      rfl
    · refine ⟨h.dep ho (fun pp kk z => f1 pp kk (by omega)) (fun q z => f3 q (by omega)), rfl, rfl, ?_, ?_, fun pp kk z => f1 pp kk (by omega), fun q z1 _ => f3 q z1, fun q j z1 z2 z3 => f4 q j z1 z2 z3⟩
      · exact KTr.new (σ := ρ) (bk := gB g) (t := []) (fun j hj => absurd hj (Nat.not_lt_zero j)) kle.refl (Or.inl rfl) (Or.inl rfl) (fun r j _ _ hj => absurd hj (Nat.not_lt_zero j)) v3 v4 (fun z => absurd z (by decide)) (fun _ => v6) v7 v8
      · rw [f2]; rfl
  try dsimp only
  obtain ⟨hZ, e1, e2, hTr, h47', F, RR, Rlow⟩ := id hD
  have hKρ : KT L ρ (p + e) := by unfold KT; rw [F 16 17 (by omega)]; exact hK
  have h176 : ρ.2 176 = σ.2 176 := RR 176 (by omega) (by omega)
  have hSρ : SHT T (ρ.2 176) e p := by rw [h176]; exact hS
  obtain ⟨m, rfl⟩ : ∃ m', m = m' + 1 := ⟨m - 1, by omega⟩
  have htl : t.length ≤ TT.length := by rw [hT]; exact bld_len _ _ _ _ _ _
  rw [bld_s] at hT
  rw [bnm_s] at hN
  by_cases cI' : ¬ i < r.1
  · have hie : i = r.1 := by omega
    rw [if_pos (by omega)] at hT hN
    rw [if_neg (by omega)]
    rw [List.append_nil] at hN
    rw [hN, hT] at hq
    exact hq ρ g2 hD
  have cI : i < r.1 := by omega
  clear cI'
  rw [if_neg (by omega)] at hT hN
  have hTi : ρ.2 176 (p + i) = T i := by rw [h176]; exact hS i (by omega)
  rw [if_pos (by omega), show Int.toNat ((p + i : Nat) : Int) = p + i from rfl, hTi]
  refine ⟨⟨by omega, by omega⟩, ?_⟩
  refine WJ_dir ?_
  try dsimp only
  -- going on by one place
  have nxt : ∀ (ρ' : IS) (t' : List KNd) (gl' : List Nat) (la' : Int) (lf' : Nat) (st' : List Int) (due' pend' : Bool) (n' d' : Nat) (acc' : List Str) (g2' : KG) (A B : Int), BMk T e r (i + 1) t' gl' la' st' due' pend' n' d' → TT = bld T r.1 m (i + 1) (ghd gl') la' lf' t' → NN = acc' ++ bnm T r.1 m (i + 1) → lf' ≤ i + 1 → BDt rm nd o σ g n0 ρ' g2' acc' t' → A = ksh n0 (ghd gl') → B = ksh n0 la' → inR (((p + i : Nat) : Int) + 1) ∧ K (A, B, (lf' : Int), ((p + i : Nat) : Int) + 1) ρ' := fun ρ' t' gl' la' lf' st' due' pend' n' d' acc' g2' A B k1 k2 k3 k4 k5 k6 k7 => by
    refine ⟨⟨by omega, by omega⟩, hI' (r.1 + 1 - (i + 1)) _ _ (Or.inr ⟨i + 1, t', gl', la', lf', st', due', pend', n', d', m, acc', g2', rfl, by omega, by omega, ?_, k1, by omega, k2, k3, k4, k5⟩) (by omega)⟩
    rw [k6, k7, show ((p + i : Nat) : Int) + 1 = ((p + (i + 1) : Nat) : Int) by omega]
  have hnoN : isSt (T i) = false → nmg T r.1 true (some i) = none := fun z => by
    show (if isSt (lk T r.1 i) = true then some (sk isNm T r.1 (i + 1)) else none) = none
    rw [lk_b cI, z]
    rfl
  have hlk : lk T e i = T i := lk_b (by omega)
  have dyo : dyD (ρ.1 16 2) := by
    have := hZ.2.2.2.2.1.1
    rw [this]
    rcases ho with z | z <;> rw [z] <;> decide
  by_cases hO : T i = 63 ∨ T i = 42 ∨ T i = 43
  · have hst : isSt (T i) = false := by rcases hO with z | z | z <;> rw [z] <;> decide
    have hsp : isSp (T i) = false := by rcases hO with z | z | z <;> rw [z] <;> decide
    have hnb : nb (T i) = T i := by rcases hO with z | z | z <;> rw [z] <;> decide
    have hoft : oft T e i = i + 1 := by
      unfold oft
      rw [hlk, if_pos hO]
    have hpend : pend = true := by
      cases hpp : pend with
      | true => rfl
      | false =>
        rw [hpp] at hmk
        have hmk : mdk T e (e + 2) st due i n d = some r := hmk
        exfalso
        cases st with
        | nil =>
          have : some (i, n, d) = some r := hmk
          rw [← Option.some.inj this] at cI
          exact absurd cI (Nat.lt_irrefl _)
        | cons s0 st0 =>
          rw [mdk_s, sk_stop hsp, hlk] at hmk
          cases due with
          | true =>
            rw [if_pos rfl, if_neg (by omega)] at hmk
            have : nmg T e true (some i) = none := by
              show (if isSt (lk T e i) = true then some (sk isNm T e (i + 1)) else none) = none
              rw [hlk, hst]; rfl
            rw [this] at hmk
            cases hmk
          | false =>
            rw [if_neg (by decide), if_neg (by omega), if_neg (by omega)] at hmk
            cases hmk
    rw [hpend, if_pos rfl, hoft] at hmk
    obtain ⟨hdue, q, hlq, hqt⟩ := hpd hpend
    rw [hnoN hst] at hN
    rw [if_neg (by omega), if_neg (by omega), if_neg (by omega), if_pos hO, hlq, show Int.toNat (q : Int) = q from rfl] at hT
    rw [if_neg (by omega), if_neg (by omega), if_neg (by omega), if_neg (by omega), hnb, hlq, ksh_nn, show Int.toNat ((n0 + q : Nat) : Int) = n0 + q from rfl]
    refine ⟨⟨by omega, by omega⟩, ?_⟩
    have hko := kof_rd (t := t) (h := T i) hqt
    refine nxt (pr ρ 194 (n0 + q) (T i)) (t.modify q (fun x => (x.1, T i, x.2.2))) gl (q : Int) lf st due false n d acc g2 _ _ ⟨hmk, hgl, fun z => (by cases z), ?_⟩ hT hN (by omega) ⟨hZ.dep ho (fun pp kk z => by rw [pr_1]) (fun w z => prn (by omega)), e1, e2, ?_, by rw [pr_1, hko.1]; exact h47', fun pp kk z => by rw [pr_1]; exact F pp kk z, fun w z1 z2 => by rw [prn (by omega)]; exact RR w z1 z2, fun w j z1 z2 z3 => by rw [pr_2, if_neg (by omega)]; exact Rlow w j z1 z2 z3⟩ rfl (by rw [ksh_nn])
    · rw [hlq] at hBS
      exact hBS.oft hqt
    · obtain ⟨q1, q2, q3, q4, q5, q6⟩ := hko.2 q hqt
      obtain ⟨w1, w2, w3, w4, w5, w6⟩ := hTr q hqt
      refine hTr.at1 (i := q) (q := 194) (v := T i) hqt hko.1 (fun a b => pr_2) (fun j hj hjq => modN hj hjq) ?_
      have pn : ∀ w, w ≠ 194 → (pr ρ 194 (n0 + q) (T i)).2 w (n0 + q) = ρ.2 w (n0 + q) := fun w hw => by rw [prn hw]
      rw [q1, q2, q3, q4, q5, q6, if_pos rfl, pn 193 (by decide), pn 195 (by decide), pn 196 (by decide), pn 197 (by decide), pn 198 (by decide), prr, if_pos rfl]
      exact ⟨w1, rfl, w3, w4, w5, w6⟩
  have hO' : ¬ T i = 63 ∧ (¬ T i = 42 ∧ ¬ T i = 43) := ⟨fun z => hO (Or.inl z), fun z => hO (Or.inr (Or.inl z)), fun z => hO (Or.inr (Or.inr z))⟩
  have hm' : mdk T e (e + 2) st due i n d = some r := by
    cases hpp : pend with
    | false => rw [hpp] at hmk; exact hmk
    | true =>
      rw [hpp, if_pos rfl] at hmk
      have hoft : oft T e i = i := by
        unfold oft
        rw [hlk, if_neg hO]
      rw [hoft] at hmk
      exact hmk
  clear hmk hpd
  cases st with
  | nil =>
    have : some (i, n, d) = some r := hm'
    rw [← Option.some.inj this] at cI
    exact absurd cI (Nat.lt_irrefl _)
  | cons s0 st0 =>
  cases gl with
  | nil => rw [List.length_cons] at hgl; cases hgl
  | cons g0 gl0 =>
  have hg0 := hBS.1 g0 List.mem_cons_self
  have hgh : ghd (g0 :: gl0) = (g0 : Int) := rfl
  by_cases hsp : isSp (T i) = true
  · have hx : ∀ z : Int, isSp z = false → T i ≠ z := fun z hz y => by rw [y, hz] at hsp; cases hsp
    have hst := isSp_st hsp
    rw [hnoN hst] at hN hT
    rw [if_neg (hx 40 (by decide)), if_neg (hx 41 (by decide)), if_neg (hx 124 (by decide)), if_neg hO] at hT
    rw [if_neg (hx 40 (by decide)), if_neg (hx 41 (by decide)), if_neg (hx 124 (by decide)), if_pos hO']
    refine sp_K_isStart ?_
    rw [hst, if_pos (by decide)]
    rw [mdk_sp (by omega) hsp] at hm'
    exact nxt ρ t (g0 :: gl0) la lf (s0 :: st0) due false n d acc g2 _ _ ⟨hm', hgl, fun z => (by cases z), hBS⟩ hT hN (by omega) hD rfl rfl
  have hspf : isSp (T i) = false := by simpa using hsp
  rw [mdk_s, sk_stop hspf, hlk] at hm'
  have hgr0 : ghd (g0 :: gl0) = -1 ∨ ∃ i : Nat, ghd (g0 :: gl0) = (i : Int) ∧ i < t.length ∧ kK t i ≠ 0 := Or.inr ⟨g0, rfl, hg0.1, hg0.2⟩
  cases due with
  | true =>
    rw [if_pos rfl] at hm'
    by_cases c4 : T i = 40
    · rw [if_pos c4] at hm' hT
      rw [if_pos c4]
      rw [hnoN (by rw [c4]; decide)] at hN
      have hrd : RD t (knw 1 [] (-1) (ghd (g0 :: gl0)) la t) 1 0 [] (-1) (ghd (g0 :: gl0)) la := knw_rd hBS.2.2 (ghd_or hBS)
      have hlen1 : t.length + 1 ≤ TT.length := by
        have := bld_len (T := T) (e' := r.1) m (i + 1) (t.length : Int) (-1) lf (knw 1 [] (-1) (ghd (g0 :: gl0)) la t)
        rw [← hT, hrd.1] at this
        exact this
      refine sp_K_newNode (n0 := n0) (len := t.length) (gr := ghd (g0 :: gl0)) (la := la) hL9 h47' (by omega) (Or.inr rfl) rfl rfl hBS.2.2 (ghd_or hBS) (fun τ f1 f2 f3 f4 f5 v3 v4 v6 v7 v8 => ?_)
      try dsimp only
      refine nxt τ (knw 1 [] (-1) (ghd (g0 :: gl0)) la t) (t.length :: g0 :: gl0) (-1) lf (0 :: s0 :: st0) true false n (if d < st0.length + 2 then st0.length + 2 else d) acc g2 _ _ ⟨?_, by rw [List.length_cons, hgl]; rfl, fun z => (by cases z), hBS.grp hrd⟩ hT hN (by omega) ⟨hZ.dep ho (fun pp kk z => f1 pp kk (by omega)) (fun w z => f3 w (by omega)), e1, e2, ?_, ?_, fun pp kk z => by rw [f1 pp kk (by omega)]; exact F pp kk z, fun w z1 z2 => by rw [f3 w z1]; exact RR w z1 z2, fun w j z1 z2 z3 => by rw [f4 w j z1 z2 z3]; exact Rlow w j z1 z2 z3⟩ ?_ rfl
      · show mdk T e (e + 2) (0 :: s0 :: st0) true (i + 1) n (if d < st0.length + 2 then st0.length + 2 else d) = some r
        rw [← hm']
        exact mdk_fuel _ _ _ _ _ _ _ (by omega) (by omega) (by omega)
      · exact hTr.new kle.refl hBS.2.2 hgr0 f5 v3 v4 (fun z => absurd z (by decide)) (fun _ => v6) v7 v8
      · rw [f2, hrd.1]; omega
      · show ((n0 + t.length : Nat) : Int) = ksh n0 (t.length : Int)
        rw [ksh_nn]
    · rw [if_neg c4] at hm'
      cases hnm : nmg T e true (some i) with
      | none => rw [hnm] at hm'; cases hm'
      | some j =>
        rw [hnm] at hm'
        have hm' : mdk T e (e + 1) (s0 :: st0) false (oft T e j) (n + 1) d = some r := hm'
        have hnl := nmg_lt hnm
        have hol := oft_le (T := T) hnl.2.2
        have hlen := (mdk_len _ _ _ _ _ _ _ hol.2 hm').2
        have hst : isSt (T i) = true := by rw [← hlk]; exact nmg_at hnm
        have hx : ∀ z : Int, isSt z = false → T i ≠ z := fun z hz => isSt_ne hst hz
        rw [nmg_cut hnm (by omega) hre] at hN hT
        rw [if_neg c4, if_neg (hx 41 (by decide)), if_neg (hx 124 (by decide)), if_neg hO] at hT
        have hT : TT = bld T r.1 m j (ghd (g0 :: gl0)) (t.length : Int) (lf + 1) (knw 0 (sl T i (j - i)) (lf : Int) (ghd (g0 :: gl0)) la t) := hT
        have hN : NN = acc ++ sl T i (j - i) :: bnm T r.1 m j := hN
        rw [if_neg c4, if_neg (hx 41 (by decide)), if_neg (hx 124 (by decide)), if_pos hO']
        refine sp_K_isStart ?_
        rw [hst, if_neg (by decide)]
        refine kr_name hKρ hSρ (some i) rfl (fun w hw => by cases hw; omega) ?_
        rw [hnm, show enc (mvo p (some j)) = ((p + j : Nat) : Int) from rfl]
        have hrd : RD t (knw 0 (sl T i (j - i)) (lf : Int) (ghd (g0 :: gl0)) la t) 0 0 (sl T i (j - i)) (lf : Int) (ghd (g0 :: gl0)) la := knw_rd hBS.2.2 (ghd_or hBS)
        have hlen1 : t.length + 1 ≤ TT.length := by
          have := bld_len (T := T) (e' := r.1) m j (ghd (g0 :: gl0)) (t.length : Int) (lf + 1) (knw 0 (sl T i (j - i)) (lf : Int) (ghd (g0 :: gl0)) la t)
          rw [← hT, hrd.1] at this
          exact this
        generalize hsn : sl T i (j - i) = s at *
        have hcs : kcS (gB g2) s := by
          rw [hN] at hcap
          have := (kcL_app.mp hcap).2
          rw [← e1] at this
          exact this.1
        refine sp_K_newNode (n0 := n0) (len := t.length) (gr := ghd (g0 :: gl0)) (la := la) hL9 h47' (by omega) (Or.inl rfl) rfl rfl hBS.2.2 (ghd_or hBS) (fun τ f1 f2 f3 f4 f5 v3 v4 v6 v7 v8 => ?_)
        try dsimp only
        have hZ1 : KZ rm nd o τ g2 := hZ.dep ho (fun pp kk z => f1 pp kk (by omega)) (fun w z => f3 w (by omega))
        have esl : sl (τ.2 176) (p + i) (j - i) = s := by rw [f3 176 (by omega), ← hsn]; exact sh_sl hSρ (by omega)
        rw [show ((p + j : Nat) : Int) - ((p + i : Nat) : Int) = ((j - i : Nat) : Int) by omega]
        refine ⟨⟨by omega, by omega⟩, ⟨by rw [f1 16 2 (by omega)]; exact dyo, sp_K_bkZ (p := p + i) (n := j - i) hL hZ1 (Or.inl (by decide)) ⟨by omega, by omega⟩ rfl rfl esl hcs (fun v22 τ2 w1 w2 w3 => ?_)⟩⟩
        try dsimp only
        have wR : ∀ q, ¬ (211 ≤ q ∧ q ≤ 215) → τ2.2 q = τ.2 q := fun q z => funext (fun k => w3.2 q k (by omega))
        rw [show Int.toNat ((n0 + t.length : Nat) : Int) = n0 + t.length from rfl, show ((p + j : Nat) : Int) - 1 + 1 = ((p + j : Nat) : Int) by omega]
        refine ⟨⟨by omega, by omega⟩, ⟨by omega, by omega⟩, ⟨by omega, by omega⟩, ⟨by omega, by omega⟩, ⟨by omega, by omega⟩, hI' (r.1 + 1 - j) _ _ (Or.inr ⟨j, knw 0 s (lf : Int) (ghd (g0 :: gl0)) la t, g0 :: gl0, (t.length : Int), lf + 1, s0 :: st0, false, true, n + 1, d, m, acc ++ [s], (kpS (gB g2) s, g2.2), rfl, by omega, by omega, ?_, ⟨?_, hgl, fun _ => ⟨rfl, t.length, rfl, by rw [hrd.1]; omega⟩, hBS.nam hrd⟩, by omega, hT, by rw [hN, List.append_assoc]; rfl, by omega, ⟨?_, ?_, e2, ?_, ?_, fun pp kk z => ?_, fun w z1 z2 => ?_, fun w k z1 z2 z3 => ?_⟩⟩) (by omega)⟩
        · rw [ksh_nn]; rfl
        · rw [if_pos rfl, ← hm']
          exact mdk_fuel _ _ _ _ _ _ _ (by omega) (by omega) (by omega)
        · exact w2.dep ho (fun pp kk z => by rw [pr_1, pr_1]) (fun w z => by rw [prn (by omega), prn (by omega)])
        · show kpS (gB g2) s = kpL (gB g) (acc ++ [s])
          rw [kpL_app, ← e1]
          rfl
        · refine hTr.new (bk' := kpS (gB g2) s) kpS_pre hBS.2.2 hgr0 (fun w k z1 z2 z3 => ?_) ?_ ?_ (fun _ => ⟨?_, ?_⟩) (fun z => absurd rfl z) ?_ ?_
          · rw [pr_2, if_neg (by omega), pr_2, if_neg (by omega), wR w (by omega)]
            exact f5 w k z1 z2 z3
          · rw [prn (by decide), prn (by decide), wR 193 (by omega)]; exact v3
          · rw [prn (by decide), prn (by decide), wR 194 (by omega)]; exact v4
          · rw [prn (by decide), prr, if_pos rfl]; exact w1
          · rw [prr, if_pos rfl]
          · rw [prn (by decide), prn (by decide), wR 197 (by omega)]; exact v7
          · rw [prn (by decide), prn (by decide), wR 198 (by omega)]; exact v8
        · rw [pr_1, pr_1, w3.1 16 47 (by omega), f2, hrd.1]; omega
        · rw [pr_1, pr_1, w3.1 pp kk (by omega), f1 pp kk (by omega)]; exact F pp kk z
        · rw [prn (by omega), prn (by omega), wR w z2, f3 w z1]; exact RR w z1 z2
        · rw [pr_2, if_neg (by omega), pr_2, if_neg (by omega), wR w (by omega), f4 w k z1 z2 z3]; exact Rlow w k z1 z2 z3
  | false =>
    rw [if_neg (by decide)] at hm'
    by_cases c41 : T i = 41
    · rw [if_pos c41] at hm'
      rw [hnoN (by rw [c41]; decide)] at hN
      rw [if_neg (by omega), if_pos c41] at hT
      rw [if_neg (by omega), if_pos c41, hgh, ksh_nn, show Int.toNat ((n0 + g0 : Nat) : Int) = n0 + g0 from rfl]
      have hA : kA t g0 = ghd gl0 := hBS.2.1.1
      have h198 : ρ.2 198 (n0 + g0) = ksh n0 (ghd gl0) := by rw [← hA]; exact (hTr g0 hg0.1).2.2.2.2.2
      rw [h198]
      have hT : TT = bld T r.1 m (i + 1) (kA t g0) (g0 : Int) lf t := hT
      rw [hA] at hT
      have hol := oft_le (T := T) (e := e) (k := i + 1) (by omega)
      refine ⟨⟨by omega, by omega⟩, nxt ρ t gl0 (g0 : Int) lf st0 false true n d acc g2 _ _ ⟨?_, by rw [List.length_cons, List.length_cons] at hgl; omega, fun _ => ⟨rfl, g0, rfl, hg0.1⟩, hBS.cls⟩ hT hN (by omega) hD rfl (by rw [ksh_nn])⟩
      rw [if_pos rfl, ← hm']
      cases st0 with
      | nil => rfl
      | cons s1 st1 => exact mdk_fuel _ _ _ _ _ _ _ (by omega) (by omega) (by omega)
    · rw [if_neg c41] at hm'
      by_cases c5 : (T i = 124 ∨ T i = 44) ∧ (s0 = 0 ∨ s0 = T i)
      · rw [if_pos c5] at hm'
        have hm2 : mdk T e (e + 2) (T i :: st0) true (i + 1) n d = some r := by
          rw [← hm']
          exact mdk_fuel _ _ _ _ _ _ _ (by omega) (by omega) (by omega)
        rw [hnoN (by rcases c5.1 with z | z <;> rw [z] <;> decide)] at hN hT
        by_cases c124 : T i = 124
        · rw [if_neg (by omega), if_neg c41, if_pos c124, hgh, show Int.toNat (g0 : Int) = g0 from rfl] at hT
          rw [if_neg (by omega), if_neg c41, if_pos c124, hgh, ksh_nn, show Int.toNat ((n0 + g0 : Nat) : Int) = n0 + g0 from rfl]
          have hkc := kch_rd (t := t) hg0.1
          refine ⟨⟨by omega, by omega⟩, nxt (pr ρ 193 (n0 + g0) 2) (t.modify g0 (fun x => (2, x.2))) (g0 :: gl0) la lf (T i :: st0) true false n d acc g2 _ _ ⟨hm2, hgl, fun z => (by cases z), hBS.alt hg0.1⟩ hT hN (by omega) ⟨hZ.dep ho (fun pp kk z => by rw [pr_1]) (fun w z => prn (by omega)), e1, e2, ?_, by rw [pr_1, hkc.1]; exact h47', fun pp kk z => by rw [pr_1]; exact F pp kk z, fun w z1 z2 => by rw [prn (by omega)]; exact RR w z1 z2, fun w j z1 z2 z3 => by rw [pr_2, if_neg (by omega)]; exact Rlow w j z1 z2 z3⟩ (by rw [hgh, ksh_nn]) rfl⟩
          obtain ⟨q1, q2, q3, q4, q5, q6⟩ := hkc.2 g0 hg0.1
          obtain ⟨w1, w2, w3, w4, w5, w6⟩ := hTr g0 hg0.1
          refine hTr.at1 (i := g0) (q := 193) (v := 2) hg0.1 hkc.1 (fun a b => pr_2) (fun j hj hjq => modN hj hjq) ?_
          have pn : ∀ w, w ≠ 193 → (pr ρ 193 (n0 + g0) 2).2 w (n0 + g0) = ρ.2 w (n0 + g0) := fun w hw => by rw [prn hw]
          rw [q1, q2, q3, q4, q5, q6, if_pos rfl, pn 194 (by decide), pn 195 (by decide), pn 196 (by decide), pn 197 (by decide), pn 198 (by decide), prr, if_pos rfl]
          exact ⟨rfl, w2, fun z => absurd z (by decide), fun _ => w4 hg0.2, w5, w6⟩
        · have c44 : T i = 44 := by have := c5.1; omega
          rw [if_neg (by omega), if_neg c41, if_neg c124, if_neg hO] at hT
          rw [if_neg (by omega), if_neg c41, if_neg c124, if_pos hO']
          refine sp_K_isStart ?_
          have hst : isSt (T i) = false := by rw [c44]; decide
          rw [hst, if_pos (by decide)]
          exact nxt ρ t (g0 :: gl0) la lf (T i :: st0) true false n d acc g2 _ _ ⟨hm2, hgl, fun z => (by cases z), hBS⟩ hT hN (by omega) hD rfl rfl
      · rw [if_neg c5] at hm'
        cases hm'
end Kbz
