/-! ===== the class counts violations of namespaces ===== -/
/-- what these counts may change -/
def MZx (L : Nat → Nat) (σ τ : IS) : Prop := (∀ o k, ¬ (o = 1 ∧ (k = 13 ∨ k = 14 ∨ k = 16)) → ¬ (o = 10 ∧ k = 7) → τ.1 o k = σ.1 o k) ∧ (∀ r, ¬ (102 ≤ r ∧ r ≤ 106) → ¬ (155 ≤ r ∧ r ≤ 160) → τ.2 r = σ.2 r) ∧ sgr σ τ ∧ SI L τ
section Mca
variable {L : Nat → Nat} {σ τ υ : IS} {el : List Elm} {at_ : List Att} {E : Str → Str} {Q : IS → Prop}
theorem MZx.trans (h1 : MZx L σ τ) (h2 : MZx L τ υ) : MZx L σ υ := ⟨fun o k a b => (h2.1 o k a b).trans (h1.1 o k a b), fun r a b => (h2.2.1 r a b).trans (h1.2.1 r a b), h1.2.2.1.trans h2.2.2.1, h2.2.2.2⟩
theorem MZx.mk' (hS : SI L σ) (hf : ∀ o k, ¬ (o = 1 ∧ k = 16) → ¬ (o = 10 ∧ k = 7) → τ.1 o k = σ.1 o k) (hr : ∀ r, ¬ (155 ≤ r ∧ r ≤ 160) → τ.2 r = σ.2 r) : MZx L σ τ := by
  have h2 := SI_of hS (σ' := τ) (hf 1 14 (by omega) (by omega)) (by rw [hf 1 3 (by omega) (by omega)]; have := hS.1; omega) (fun r y1 y2 => hr r (by omega)) (fun i _ => by rw [hr 101 (by omega)])
  exact ⟨fun o k a b => hf o k (by omega) b, fun r a b => hr r b, h2.2, h2.1⟩
theorem SPx.mz (h : SPx L σ τ) : MZx L σ τ := ⟨fun o k a b => h.1 o k (by omega), fun r a b => h.2.1 r a (by omega) (by omega), h.2.2.1, h.2.2.2⟩
theorem MNx.mz (h : MNx σ τ) (hS : SI L σ) : MZx L σ τ := MZx.mk' hS (fun o k _ _ => h.1 o k) (fun r a => h.2 r (by omega) (by omega))
theorem NCx.mz (h : NCx σ τ) (hS : SI L σ) : MZx L σ τ := MZx.mk' hS (fun o k _ _ => by rw [h.1]) (fun r a => h.2 r (by omega))
theorem NDx.mz (h : NDx σ τ) (hS : SI L σ) : MZx L σ τ := MZx.mk' hS (fun o k _ b => h.1 o k b) (fun r a => h.2 r (by omega) (by omega))
theorem NDx.mep (h : NDx σ τ) (hE : MEp σ E) : MEp τ E := fun w hw => by
  rw [h.2 158 (by decide) (by decide), h.wstE]
  exact h.jnI.mpr (hE w (by rw [← h.jwE]; exact hw))
theorem NCx.out {x : Elm} (h : NCx σ τ) (ho : OUT σ at_ x E) : OUT τ at_ x E := fun i hi p hp => by
  rw [h.2 159 (by decide)]
  exact h.jnI.mpr (ho i hi p hp)
theorem NDx.out {x : Elm} (h : NDx σ τ) (ho : OUT σ at_ x E) : OUT τ at_ x E := fun i hi p hp => by
  rw [h.2 159 (by decide) (by decide)]
  exact h.jnI.mpr (ho i hi p hp)
theorem evl_c {c : Int} {r : List Evt} : evl (.inl c :: r) = evl r + 1 := rfl
theorem evl_r {q : Str × Str} {r : List Evt} : evl (.inr q :: r) = evl r + 5 := rfl
set_option maxHeartbeats 2000000 in
/-- the loop -/
theorem mc_loop {N : Nat} {st : List Evt} {σ0 : IS} {mk : Int} {cl : Nat} (hL : MLm L el at_) (hN : N = evl st) (hN6 : N ≤ L 136 ∧ N < 1000000) (hjv : jev σ 0 st N) (hst : stR (el.map (fun x => x.2.1)) st ([], 0) = some ([], el.length)) (hp : ∀ i, i < el.length → (el.getD i elD).2.1 = -1 ∨ (0 ≤ (el.getD i elD).2.1 ∧ (el.getD i elD).2.1 < (i : Int))) (hgs : (segs el).map Prod.fst = List.range at_.length) (hds : ∀ x ∈ el, DST at_ x) (hbd : el.length ≤ 16384 ∧ at_.length ≤ 16384) (h615 : σ.1 6 15 = (N : Int)) (hmz : MZx L σ σ0) (htr : MTr L σ0 el at_) (hme : MEp σ0 env0) (hz8 : ∀ w, jw σ0 ≤ w → w < L 155 → σ0.2 158 w = 0) (hcl : cl ≤ 1000000) (hct : ∀ k, σ0.2 160 k = if k = 5 then (cl : Int) else 0) (hrl : RLm σ0 mk []) (h16 : σ0.1 1 16 = mk)
    (hq : ∀ τ, MZx L σ τ → jw τ = jw σ0 → MTr L τ el at_ → MEp τ env0 → (∀ w, jw σ0 ≤ w → w < L 155 → τ.2 158 w = 0) → (τ.2 156 = σ0.2 156 ∧ τ.2 157 = σ0.2 157) → (∀ k, τ.2 160 k = (((if k = 5 then cl else 0) + sn (spE el at_ k) el.length : Nat) : Int)) → RLm τ mk (dvA el at_ el.length) → τ.1 1 16 = mk → Q τ) : WL (fun (K5 : Int × Int → IS → Prop) (s7 : Int × Int) (σ8 : IS) => if s7.2 < (σ8.1 6 15) then inL L 136 s7.2 ∧ WJ (fun (s12 : Int × Int) (σ13 : IS) => inR (s12.2 + 1) ∧ K5 (s12.1, (s12.2 + 1)) σ13) (fun J10 => if (σ8.2 136 (Int.toNat s7.2)) = (-2) then inR (s7.2 + 4) ∧ J10 (s7.1, (s7.2 + 4)) σ8 else if (σ8.2 136 (Int.toNat s7.2)) = (-1) ∧ (¬ s7.1 = (-1)) then w_Meanings_leave L s7.1 (fun σ16 => inL L 129 s7.1 ∧ J10 ((σ16.2 129 (Int.toNat s7.1)), s7.2) σ16) σ8 else if (-3) < (σ8.2 136 (Int.toNat s7.2)) then J10 (s7.1, s7.2) σ8 else inR ((-3) - (σ8.2 136 (Int.toNat s7.2))) ∧ w_Meanings_enter L ((-3) - (σ8.2 136 (Int.toNat s7.2))) (fun σ20 => w_Meanings_countNames L ((-3) - (σ8.2 136 (Int.toNat s7.2))) (fun σ22 => w_Meanings_countDeclarations L ((-3) - (σ8.2 136 (Int.toNat s7.2))) mk (fun σ24 => J10 (((-3) - (σ8.2 136 (Int.toNat s7.2))), s7.2) σ24) σ22) σ20) σ8) else Q σ8) ((-1), 0) σ0 := by
  obtain ⟨hsl, ⟨l6, l7, l8⟩, ⟨m1, m2, m3, m4, m5⟩, ⟨n1, n2, n3, n4⟩, l160, hC⟩ := id hL
  have hallM : ∀ x ∈ el, x.2.2.2.1 ≤ 16384 := fun x hx => by have := hC x hx; omega
  have hspl : ∀ k m, m ≤ el.length → sn (spE el at_ k) m ≤ 32769 * m := fun k m hm => by
    rw [sn_ext (g := fun i => if i < el.length then spE el at_ k i else 0) (fun i hi => by rw [if_pos (by omega)])]
    exact sn_le (fun i => by
      by_cases y : i < el.length
      · rw [if_pos y]; exact spE_le hallM y
      · rw [if_neg y]; omega) m
  refine WL_ind (fun (z : Int × Int) τ => ∃ (rest : List Evt) (sk' : List Nat) (m i : Nat), z = (opn sk', (i : Int)) ∧ (jev σ i rest N ∧ i + evl rest = N) ∧ stR (el.map (fun x => x.2.1)) rest (sk', m) = some ([], el.length) ∧ (och el sk' ∧ m ≤ el.length ∧ ∀ e ∈ sk', e < m) ∧ MZx L σ τ ∧ jw τ = jw σ0 ∧ MTr L τ el at_ ∧ MEp τ (EN el at_ (opn sk')) ∧ (∀ e ∈ sk', OUT τ at_ (el.getD e elD) (EN el at_ (el.getD e elD).2.1)) ∧ (∀ w, jw σ0 ≤ w → w < L 155 → τ.2 158 w = 0) ∧ (τ.2 156 = σ0.2 156 ∧ τ.2 157 = σ0.2 157) ∧ (∀ k, τ.2 160 k = (((if k = 5 then cl else 0) + sn (spE el at_ k) m : Nat) : Int)) ∧ RLm τ mk (dvA el at_ m) ∧ τ.1 1 16 = mk) (fun z _ => (N - z.2).toNat) ?_ _ σ0 ⟨st, [], 0, 0, rfl, ⟨hjv, by omega⟩, hst, ⟨trivial, Nat.zero_le _, fun e he => (by cases he)⟩, hmz, rfl, htr, by rw [show opn [] = -1 from rfl, EN_neg]; exact hme, fun e he => (by cases he), hz8, ⟨rfl, rfl⟩, fun k => by rw [hct k]; split <;> simp [sm], hrl, h16⟩
  rintro _ τ ⟨rest, sk', m, i, rfl, ⟨hj1, hj2⟩, hsr, ⟨ho1, ho2, ho3⟩, q1, q2, q3, q4, q5, q6, q7, q8, q9, q10⟩ K hK
  dsimp only at hK ⊢
  rw [q1.1 6 15 (by omega) (by omega), h615]
  have e136 : τ.2 136 = σ.2 136 := q1.2.1 136 (by omega) (by omega)
  cases rest with
  | nil =>
    have hi : i = N := by have h' : i + 0 = N := hj2; omega
    have hs' : some (sk', m) = some (([] : List Nat), el.length) := hsr
    have h1 : sk' = [] := congrArg Prod.fst (Option.some.inj hs')
    have h2 : m = el.length := congrArg Prod.snd (Option.some.inj hs')
    rw [if_neg (by omega)]
    rw [h1, show opn [] = -1 from rfl, EN_neg] at q4
    rw [h2] at q8 q9
    exact hq τ q1 q2 q3 q4 q6 q7 q8 q9 q10
  | cons v r =>
    cases v with
    | inr q =>
      obtain ⟨t, s⟩ := q
      rw [evl_r] at hj2
      have hj' : σ.2 136 i = -2 ∧ (Jt σ (σ.2 136 (i + 1)) t ∧ σ.2 136 (i + 2) = (t.length : Int)) ∧ (Jt σ (σ.2 136 (i + 3)) s ∧ σ.2 136 (i + 4) = (s.length : Int)) ∧ jev σ (i + 5) r N := hj1
      rw [if_pos (by omega), show Int.toNat (i : Int) = i from rfl, e136, hj'.1]
      refine ⟨⟨by omega, by omega⟩, WJ_dir ?_⟩
      rw [if_pos rfl]
      exact ⟨⟨by omega, by omega⟩, ⟨by omega, by omega⟩, hK _ _ ⟨r, sk', m, i + 5, by rw [show ((i + 5 : Nat) : Int) = (i : Int) + 4 + 1 by omega], ⟨hj'.2.2.2, by omega⟩, hsr, ⟨ho1, ho2, ho3⟩, q1, q2, q3, q4, q5, q6, q7, q8, q9, q10⟩ (by dsimp only; omega)⟩
    | inl c =>
      rw [evl_c] at hj2
      have hj' : σ.2 136 i = c ∧ jev σ (i + 1) r N := hj1
      rw [stR_c] at hsr
      rw [if_pos (by omega), show Int.toNat (i : Int) = i from rfl, e136, hj'.1]
      refine ⟨⟨by omega, by omega⟩, WJ_dir ?_⟩
      by_cases c1 : c = -1
      · -- an element ends
        rw [if_pos c1] at hsr
        cases sk' with
        | nil => cases hsr
        | cons e t =>
          dsimp only at hsr
          obtain ⟨o1, o2, o3, o4⟩ := ho1
          have hop : opn (e :: t) = (e : Int) := rfl
          rw [hop] at q4 ⊢
          rw [if_neg (by omega), if_pos ⟨c1, by omega⟩]
          refine sp_Meanings_leave (E := EN el at_ (el.getD e elD).2.1) hL q3 o1 (by rw [← EN_s hp o1]; exact q4) (q5 e List.mem_cons_self) (by rw [q2]; exact q6) (fun τ' r1 r2 r3 r4 => ?_)
          rw [show Int.toNat (e : Int) = e from rfl]
          have e129 : τ'.2 129 e = opn t := by
            rw [r1.2 129 (by decide) (by decide), (q3.2.2.1 e o1).2.1]
            exact o2
          rw [e129]
          refine ⟨⟨by omega, by omega⟩, ⟨by omega, by omega⟩, hK _ _ ⟨r, t, m, i + 1, by rw [show ((i + 1 : Nat) : Int) = (i : Int) + 1 by omega], ⟨hj'.2, by omega⟩, hsr, ⟨o4, ho2, fun x hx => ho3 x (List.mem_cons_of_mem _ hx)⟩, q1.trans (r1.mz q3.1), by rw [r1.jwE]; exact q2, r1.tr q3, by rw [← o2]; exact r2, fun x hx => ?_, by rw [← q2]; exact r3, ⟨by rw [r1.2 156 (by decide) (by decide)]; exact q7.1, by rw [r1.2 157 (by decide) (by decide)]; exact q7.2⟩, fun k => by rw [r1.2 160 (by decide) (by decide)]; exact q8 k, ?_, by rw [r1.1]; exact q10⟩ (by dsimp only; omega)⟩
          · intro j hj3 p hp3
            rw [r4]
            exact r1.jnI.mpr (q5 x (List.mem_cons_of_mem _ hx) j hj3 p hp3)
          · obtain ⟨g1, g2, g3⟩ := q9
            refine ⟨by rw [r1.1]; exact g1, fun w hw => ?_, fun w => by rw [r1.2 155 (by decide) (by decide)]; exact g3 w⟩
            rw [r1.2 155 (by decide) (by decide), r1.wstE]
            exact g2 w (by rw [← r1.jwE]; exact hw)
      · rw [if_neg c1] at hsr
        by_cases c2 : c < 0
        · -- an element begins
          rw [if_pos c2] at hsr
          by_cases c3 : c = -3 - (m : Int) ∧ m < (el.map (fun x => x.2.1)).length ∧ (el.map (fun x => x.2.1)).getD m 0 = opn sk'
          · rw [if_pos c3] at hsr
            obtain ⟨d1, d2, d3⟩ := c3
            rw [List.length_map] at d2
            have d3' : (el.getD m elD).2.1 = opn sk' := by
              rw [List.getD_eq_getElem?_getD, List.getElem?_map, List.getElem?_eq_getElem d2] at d3
              rw [List.getD_eq_getElem?_getD, List.getElem?_eq_getElem d2]
              exact d3
            have hmx : el.getD m elD ∈ el := by rw [List.getD_eq_getElem?_getD, List.getElem?_eq_getElem d2]; exact List.getElem_mem d2
            rw [if_neg (by omega), if_neg (by omega), if_neg (by omega), show -3 - c = (m : Int) by omega]
            refine ⟨⟨by omega, by omega⟩, ?_⟩
            rw [← d3'] at q4
            refine sp_Meanings_enter (E := EN el at_ (el.getD m elD).2.1) hL q3 d2 (hds _ hmx) q4 (by rw [q2]; exact q6) (fun τ1 r1 r2 r3 r4 r5 => ?_)
            rw [← EN_s hp d2] at r2
            have tr1 := r1.tr q3
            have hb : ∀ k, k < 6 → 0 ≤ τ.2 160 k ∧ τ.2 160 k ≤ 700000000 := fun k _ => by
              rw [q8 k]
              have := hspl k m ho2
              split <;> omega
            have z160 : τ1.2 160 = τ.2 160 := r1.2 160 (by decide) (by decide)
            refine sp_Meanings_countNames (E := EN el at_ (m : Int)) hL tr1 d2 r2 (fun k hk => by rw [z160]; have := hb k hk; omega) (fun τ2 s1 s2 => ?_)
            have tr2 := s1.tr tr1
            have hs23 : τ2.2 160 3 = τ.2 160 3 := by
              rw [s2 3, z160]
              have : snE (EN el at_ (m : Int)) at_ (el.getD m elD) 3 (el.getD m elD).2.2.2.1 = 0 := by unfold snE; rw [if_neg (by decide), if_neg (by decide), if_neg (by decide), if_neg (by decide)]
              rw [this]
              simp
            have hR2 : RLm τ2 mk (dvA el at_ m) := by
              obtain ⟨g1, g2, g3⟩ := q9
              refine ⟨by rw [s1.1, r1.1]; exact g1, fun w hw => ?_, fun w => by rw [s1.2 155 (by decide), r1.2 155 (by decide) (by decide)]; exact g3 w⟩
              rw [s1.2 155 (by decide), r1.2 155 (by decide) (by decide), s1.wstE, r1.wstE]
              exact g2 w (by rw [← r1.jwE, ← s1.jwE]; exact hw)
            refine sp_Meanings_countDeclarations hL tr2 d2 (by rw [hs23]; have := hb 3 (by omega); omega) hR2 (fun τ3 u1 u2 u3 => ?_)
            have hall := ((r1.mz q3.1).trans (s1.mz tr1.1)).trans (u1.mz tr2.1)
            have j3 : jw τ3 = jw τ := by rw [u1.jwE, s1.jwE, r1.jwE]
            refine ⟨⟨by omega, by omega⟩, hK _ _ ⟨r, m :: sk', m + 1, i + 1, by rw [show ((i + 1 : Nat) : Int) = (i : Int) + 1 by omega]; rfl, ⟨hj'.2, by omega⟩, hsr, ⟨⟨d2, d3', ho3, ho1⟩, by omega, fun x hx => ?_⟩, q1.trans hall, by rw [j3]; exact q2, u1.tr tr2, u1.mep (s1.mep r2), fun x hx => ?_, fun w h1 h2 => ?_, ⟨?_, ?_⟩, fun k => ?_, u3, ?_⟩ (by dsimp only; omega)⟩
            · rcases List.mem_cons.mp hx with y | y
              · omega
              · have := ho3 x y; omega
            · refine u1.out (s1.out ?_)
              rcases List.mem_cons.mp hx with y | y
              · rw [y]; exact r3
              · intro j hj3 p hp3
                have hxl := ho3 x y
                rw [r5 _ (fun hh => by
                  have := seg_sep hgs hxl d2 hj3 (show 0 < (el.getD m elD).2.2.2.1 by omega)
                  omega)]
                exact r1.jnI.mpr (q5 x y j hj3 p hp3)
            · rw [u1.2 158 (by decide) (by decide), s1.2 158 (by decide)]
              exact r4 w (by rw [q2]; exact h1) h2
            · rw [u1.2 156 (by decide) (by decide), s1.2 156 (by decide), r1.2 156 (by decide) (by decide)]; exact q7.1
            · rw [u1.2 157 (by decide) (by decide), s1.2 157 (by decide), r1.2 157 (by decide) (by decide)]; exact q7.2
            · have hsp : spE el at_ k m = snE (EN el at_ (m : Int)) at_ (el.getD m elD) k (el.getD m elD).2.2.2.1 + (if k = 3 then sn (fun i => nm3 (at_.getD ((el.getD m elD).2.2.1 + i) atD)) (el.getD m elD).2.2.2.1 else 0) := rfl
              rw [u2 k, s2 k, z160, q8 k, sn_s, hsp]
              by_cases y : k = 3
              · rw [if_pos y, if_pos y]; omega
              · rw [if_neg y, if_neg y]; omega
            · rw [u1.1 1 16 (by omega), s1.1, r1.1]; exact q10
          · rw [if_neg c3] at hsr
            cases hsr
        · rw [if_neg c2] at hsr
          rw [if_neg (by omega), if_neg (by omega), if_pos (by omega)]
          exact ⟨⟨by omega, by omega⟩, hK _ _ ⟨r, sk', m, i + 1, by rw [show ((i + 1 : Nat) : Int) = (i : Int) + 1 by omega], ⟨hj'.2, by omega⟩, hsr, ⟨ho1, ho2, ho3⟩, q1, q2, q3, q4, q5, q6, q7, q8, q9, q10⟩ (by dsimp only; omega)⟩
theorem SPo_of {x : Int} {s : Str} {P NM : List Str} {σ1 : IS} (h : SPI L σ1 NM P τ) (hx : Jn τ x s) (hs : s ∈ P) : SPo τ x s := by
  obtain ⟨w, a, b, c⟩ := hx
  exact ⟨w, a, b, c, h.2.2.2.2.1 w b ((h.2.2.2.1 w b).mpr (by rw [c]; exact hs))⟩
theorem sp_Meanings_countAll {st : List Evt} {os : List Nat} {NM : List Str} {cl : Nat} (hL : MLm L el at_) (hN6 : evl st ≤ L 136 ∧ evl st < 1000000) (hst : stR (el.map (fun x => x.2.1)) st ([], 0) = some ([], el.length)) (hp : ∀ i, i < el.length → (el.getD i elD).2.1 = -1 ∨ (0 ≤ (el.getD i elD).2.1 ∧ (el.getD i elD).2.1 < (i : Int))) (hgs : (segs el).map Prod.fst = List.range at_.length) (hds : ∀ x ∈ el, DST at_ x) (hbd : el.length ≤ 16384 ∧ at_.length ≤ 16384) (hS : SI L σ) (hE : JEl σ el os) (hB : JAt σ at_) (hJ : JSt σ st) (hcw : 19 ≤ jw σ ∧ ∀ i, i < 19 → wst σ i = ti (1064 + i)) (hz6 : ∀ v, v < L 155 → σ.2 156 v = 0) (hz8 : ∀ w, w < L 155 → σ.2 158 w = if w = 6 then 8 else 0) (hcap : jw σ + 2 * (dst NM).length ≤ L 102) (hn1 : ∀ x ∈ el, x.1 ∈ NM) (hn2 : ∀ x ∈ at_, x.1 ∈ NM) (hcl : cl ≤ 1000000) (hs : 0 ≤ σ.1 1 16 ∧ σ.1 1 16 ≤ 2000000000) (hm : ∀ w, σ.2 155 w ≤ σ.1 1 16)
    (hq : ∀ τ, MZx L σ τ → MTr L τ el at_ → MEp τ env0 → (∀ w, jw τ ≤ w → w < L 155 → τ.2 156 w = 0 ∧ τ.2 158 w = 0) → (∀ k, τ.2 160 k = (((if k = 5 then cl else 0) + sn (spE el at_ k) el.length : Nat) : Int)) → τ.1 10 7 = b1 (rlv (dvA el at_ el.length)) → τ.1 1 16 = σ.1 1 16 + 1 → (∀ w, τ.2 155 w ≤ τ.1 1 16) → jw τ ≤ jw σ + 2 * (dst NM).length → Q τ) : w_Meanings_countAll L (cl : Int) Q σ := by
  obtain ⟨hsl, ⟨l6, l7, l8⟩, ⟨m1, m2, m3, m4, m5⟩, ⟨n1, n2, n3, n4⟩, l160, hC⟩ := id hL
  have e155 : L 102 = L 155 := hsl.2.2.2.1
  unfold w_Meanings_countAll
  rw [show Int.toNat 5 = 5 from rfl]
  refine ⟨⟨by omega, by omega⟩, ?_⟩
  generalize hσ1 : pf (pr (fa σ 160 0) 160 5 (cl : Int)) 10 7 0 = σ1
  have f1 : ∀ o k, ¬ (o = 10 ∧ k = 7) → σ1.1 o k = σ.1 o k := fun o k h => by rw [← hσ1, pf_1, if_neg h]; rfl
  have f107 : σ1.1 10 7 = 0 := by rw [← hσ1, pf_eq]
  have r1 : ∀ r, r ≠ 160 → σ1.2 r = σ.2 r := fun r h => by
    rw [← hσ1]
    funext j
    rw [pf_2, pr_2, if_neg (fun z => h z.1), fa_2, if_neg h]
  have r160 : ∀ k, σ1.2 160 k = if k = 5 then (cl : Int) else 0 := fun k => by
    rw [← hσ1, pf_2, pr_2]
    by_cases y : k = 5
    · rw [if_pos ⟨rfl, y⟩, if_pos y]
    · rw [if_neg (fun z => y z.2), if_neg y, fa_2, if_pos rfl]
  have z1 : MZx L σ σ1 := MZx.mk' hS (fun o k _ b => f1 o k b) (fun r a => r1 r (by omega))
  have j1 : jw σ1 = jw σ := by unfold jw; rw [f1 1 14 (by omega)]
  have w1 : ∀ w, wst σ1 w = wst σ w := fun w => by unfold wst wfr wsz; rw [r1 101 (by decide), r1 102 (by decide), r1 103 (by decide)]
  have hE1 : JEl σ1 el os := hE.dep z1.2.2.1 ⟨fun o k q => z1.1 o k (by simp [fEl] at q; omega) (by simp [fEl] at q; omega), fun r q => z1.2.1 r (by simp [rEl] at q; omega) (by simp [rEl] at q; omega)⟩
  have hB1 : JAt σ1 at_ := hB.dep z1.2.2.1 ⟨fun o k q => z1.1 o k (by simp [fAt] at q; omega) (by simp [fAt] at q; omega), fun r q => z1.2.1 r (by simp [rAt] at q; omega) (by simp [rAt] at q; omega)⟩
  have hw0 : wst σ 0 = [] := by rw [hcw.2 0 (by omega)]; exact ti_1064
  refine sp_Meanings_splitAll (NM := NM) hsl ⟨l6, l7⟩ z1.2.2.2 (by rw [j1]; omega) (by rw [w1]; exact hw0) (by rw [j1]; exact hcap) hE1 hB1 hn1 hn2 (fun v hv => by rw [r1 156 (by decide)]; exact hz6 v hv) ⟨m1, n1, m5, n4⟩ (fun τ P hP hi1 hi2 => ?_)
  have g := hP.1.2.2.1
  unfold w_Store_newMark
  have f16 : τ.1 1 16 = σ.1 1 16 := by rw [hP.1.1 1 16 (by omega), f1 1 16 (by omega)]
  rw [f16]
  refine ⟨⟨by omega, by omega⟩, ?_⟩
  generalize hτ1 : pf τ 1 16 (σ.1 1 16 + 1) = τ1
  have a1 : ∀ o k, ¬ (o = 1 ∧ k = 16) → τ1.1 o k = τ.1 o k := fun o k h => by rw [← hτ1, pf_1, if_neg h]
  have a16 : τ1.1 1 16 = σ.1 1 16 + 1 := by rw [← hτ1, pf_eq]
  have a2 : τ1.2 = τ.2 := by rw [← hτ1]; rfl
  have z2 : MZx L τ τ1 := MZx.mk' hP.1.2.2.2 (fun o k a _ => a1 o k a) (fun r _ => by rw [a2])
  have j2 : jw τ1 = jw τ := by unfold jw; rw [a1 1 14 (by omega)]
  have w2 : ∀ w, wst τ1 w = wst τ w := fun w => by unfold wst wfr wsz; rw [a2]
  have jn2 : ∀ {x : Int} {s : Str}, Jn τ x s → Jn τ1 x s := fun h => h.gr z2.2.2.1
  have sp2 : ∀ {x : Int} {s : Str}, SPo τ x s → SPo τ1 x s := fun ⟨w, b1', b2, b3, b4⟩ => ⟨w, b1', by rw [j2]; exact b2, by rw [w2]; exact b3, b4.gr b2 z2.2.2.1 (by rw [a2]) (by rw [a2])⟩
  have hall : MZx L σ τ1 := (z1.trans hP.1.mz).trans z2
  have hg19 : jw σ ≤ jw τ := by have := g.1; omega
  have hcst : ∀ i, i < 19 → wst τ1 i = ti (1064 + i) := fun i hi => by rw [w2, g.2.2.1 i (by omega), w1]; exact hcw.2 i hi
  have hCW : CWd τ1 := ⟨by omega, by rw [hcst 0 (by omega)]; exact ti_1064, hcst 6 (by omega), hcst 7 (by omega), hcst 8 (by omega), hcst 9 (by omega)⟩
  have e158 : ∀ w, τ1.2 158 w = σ.2 158 w := fun w => by rw [a2, hP.1.2.1 158 (by omega) (by decide) (by decide), r1 158 (by decide)]
  have htr : MTr L τ1 el at_ := by
    refine ⟨z2.2.2.2, hCW, fun i hi => ?_, fun i hi => ?_⟩
    · have h146 : τ.2 146 = σ1.2 146 := hP.1.2.1 146 (by omega) (by decide) (by decide)
      rw [a2, h146, hP.1.2.1 129 (by omega) (by decide) (by decide), hP.1.2.1 130 (by omega) (by decide) (by decide), hP.1.2.1 131 (by omega) (by decide) (by decide)]
      obtain ⟨k1, k2, k3, k4, -⟩ := hE1.2.2 i hi
      exact ⟨sp2 (SPo_of hP (k1.gr g) (hi1 i hi)), k2, k3, k4⟩
    · rw [a2, hP.1.2.1 161 (by omega) (by decide) (by decide), hP.1.2.1 134 (by omega) (by decide) (by decide)]
      obtain ⟨k1, k2, -⟩ := hB1.2 i hi
      exact ⟨sp2 (SPo_of hP (k1.gr g) (hi2 i hi)), jn2 (k2.gr g)⟩
  have hjl := z2.2.2.2.jw_le
  refine mc_loop (σ := σ) (st := st) (N := evl st) (cl := cl) hL rfl hN6 hJ.2.2 hst hp hgs hds hbd hJ.1 hall htr (fun w hw => ?_) (fun w hw1 hw2 => ?_) hcl (fun k => ?_) ⟨?_, fun w hw => ?_, fun w => ?_⟩ a16 (fun ρ p1 p2 p3 p4 p5 p6 p7 p8 p9 => ?_)
  · rw [e158, hz8 w (by omega)]
    unfold env0
    by_cases y : w = 6
    · rw [if_pos y, y, if_pos (show wst τ1 6 = sXm from hCW.2.2.1)]
      exact ⟨8, rfl, by omega, hCW.2.2.2.2.1⟩
    · rw [if_neg y, if_neg (fun z => y (z2.2.2.2.2.2.2 w 6 (by omega) (by omega) (by rw [z]; exact hCW.2.2.1.symm)))]
      exact ⟨0, rfl, by omega, hCW.2.1⟩
  · rw [e158, hz8 w hw2, if_neg (by omega)]
  · rw [a2, hP.1.2.1 160 (by omega) (by decide) (by decide)]
    exact r160 k
  · rw [a1 10 7 (by omega), hP.1.1 10 7 (by omega)]
    exact f107
  · rw [a2, hP.1.2.1 155 (by omega) (by decide) (by decide), r1 155 (by decide)]
    have := hm w
    exact ⟨fun y => by omega, fun y => by cases y.2⟩
  · rw [a2, hP.1.2.1 155 (by omega) (by decide) (by decide), r1 155 (by decide)]
    have := hm w
    omega
  · have hdl : (dst P).length ≤ (dst NM).length := by
      have := dst_le (l := NM) (l' := P) (m := []) (fun y hy _ => Or.inl (hP.2.1 y hy))
      rw [List.length_nil, Nat.add_zero] at this
      exact this
    refine hq ρ p1 p3 p4 (fun w hw1 hw2 => ⟨?_, p5 w (by omega) hw2⟩) p7 p8.1 p9 (fun w => by rw [p9]; exact p8.2.2 w) ?_
    · rw [p6.1, a2]
      exact hP.2.2.2.2.2.1 w (by omega) hw2
    · have := hP.2.2.2.2.2.2
      omega
end Mca
