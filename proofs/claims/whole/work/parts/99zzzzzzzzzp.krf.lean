/-! ===== the reference: refusal, canonical ===== -/
section Krf
variable {L : Nat → Nat} {rm nd : Nat} {σ τ υ : IS} {a : AS} {d : DOC} {R : Int → IS → Prop} {Q : Int → IS → Prop} {bk : List Str} {pl : List Int}
theorem cnR22 {ad : List ADc} {at_ : List Att} {seen : List Str} : cnR ad at_ seen 22 = 0 := by
  unfold cnR
  refine sm_0f (fun i => ?_) _
  unfold wrd
  split
  · rfl
  · unfold wrt
    have hk : ∀ ty, kw ty ≠ 22 := fun ty => by unfold kw; split <;> decide
    rw [if_neg (fun z => hk _ z.2)]
theorem cn22 (hG : GOK rm nd a) (hU : GU a) (h6 : G6 a) : cnV a 22 = aN a 1 := by
  cases hR : aR a with
  | none =>
    have h1 : aN a 1 = 0 := by
      by_cases c : aN a 1 = 0
      · exact c
      · have := h6 (hU c)
        rw [hR] at this
        cases this
    rw [h1]
    unfold cnV
    rw [hR]
    rfl
  | some s =>
    rw [cnV_vv hG.O hR, vv_z (by omega), cnR22, if_pos rfl, if_neg (by decide), if_neg (by decide)]
    omega
/-- what is known of a document, as a whole -/
def DGd (rm nd : Nat) (d : DOC) : Prop := ∀ a, d = .inr a → GOK rm nd a ∧ GX a ∧ GY a ∧ GU a ∧ G6 a ∧ (kNs (aS a)).1 ≤ 119990
/-- the rows of the reference that its writer uses -/
def KLw (L : Nat → Nat) : Prop := (L 244 = 262144 ∧ L 176 = 262144) ∧ (L 245 = 32768 ∧ L 247 = 32768) ∧ L 246 = 16384
theorem kev_tg {ρ : Nat → Int} : ∀ {G : List KEv} {m i : Nat} {t s : Str}, kev ρ bk pl G i → Sum.inr (t, s) ∈ kfl G m → t ∈ bk
  | [], m, i, t, s, _, h => by cases h
  | .inl true :: r, m, i, t, s, hk, h => by
    have h' : Sum.inr (t, s) ∈ (.inl (-3 - (m : Int)) :: kfl r (m + 1) : List Evt) := h
    rcases List.mem_cons.mp h' with z | z
    · cases z
    · exact kev_tg hk.2 z
  | .inl false :: r, m, i, t, s, hk, h => by
    have h' : Sum.inr (t, s) ∈ (.inl (-1) :: kfl r m : List Evt) := h
    rcases List.mem_cons.mp h' with z | z
    · cases z
    · exact kev_tg hk.2 z
  | .inr (.inl l) :: r, m, i, t, s, hk, h => by
    have h' : Sum.inr (t, s) ∈ (l.map (fun c => .inl c) ++ kfl r m : List Evt) := h
    rcases List.mem_append.mp h' with z | z
    · obtain ⟨c, -, hc⟩ := List.mem_map.mp z
      cases hc
    · exact kev_tg hk.2.2.2 z
  | .inr (.inr q) :: r, m, i, t, s, hk, h => by
    have h' : Sum.inr (t, s) ∈ (.inr q :: kfl r m : List Evt) := h
    rcases List.mem_cons.mp h' with z | z
    · cases z
      exact List.mem_of_getElem? hk.2.1.2
    · exact kev_tg hk.2.2.2.2 z
/-- the document that is kept, with its strings and its pool -/
def KDk (σ : IS) (bk : List Str) (pl : List Int) (a : AS) : Prop := KBk σ bk ∧ KEl 14 σ bk (aL a) ∧ KAt 14 σ bk pl (aA a) (aB a) ∧ KSt 14 σ bk pl (aS a) (aL a).length ∧ (σ.1 14 2 = (pl.length : Int) ∧ ∀ i, i < pl.length → σ.2 (rfo 14 1) i = pl.getD i 0) ∧ pl.length ≤ aN a 0 ∧ (∀ k, k < 23 → σ.2 (rfo 14 18) k = (cnV a k : Int)) ∧ R19 14 σ (cnS a) ∧ σ.1 14 21 = (aN a 0 : Int) ∧ (∀ m, m ≤ 23 → sn (cnV a) m ≤ 2000000000) ∧ ∀ s ∈ pfN (aL a) (aL a).length, s ∈ bk
/-- the document that the reference holds may be looked at -/
theorem KDk.kd (hLn : KLn L 14 rm nd) (h : KDk σ bk pl a) (hG : GOK rm nd a) : KD4 L 14 σ bk pl (aA a) (aL a) (aB a) ∧ KSt 14 σ bk pl (aS a) (aL a).length ∧ KNW bk (aL a) (aB a) (aS a) := by
  obtain ⟨h1, h2, h3, h4, ⟨h5, h5'⟩, h6, h7, h8, h9, h10, h11⟩ := h
  have hG' := hG
  obtain ⟨gi, gf, gv, gs, gd, gw, gn⟩ := hG'
  obtain ⟨lb, lo, ⟨lr, ln⟩, lrest⟩ := hLn
  have hLn' : KLn L 14 rm nd := ⟨lb, lo, ⟨lr, ln⟩, lrest⟩
  obtain ⟨lp1, lp2⟩ : rm ≤ L (rfo 14 1) ∧ L (rfo 14 1) ≤ 262144 := by obtain ⟨-, -, -, -, -, -, -, -, -, -, -, -, -, x, -⟩ := lrest; exact x
  obtain ⟨l8, l8', l8''⟩ : (∀ k, 8 ≤ k → k ≤ 13 → L (rfo 14 k) = L (rfo 14 8)) ∧ 16500 ≤ L (rfo 14 8) ∧ L (rfo 14 8) ≤ 32768 := by obtain ⟨-, -, -, -, -, -, -, -, -, -, -, -, -, -, x, -⟩ := lrest; exact x
  have hLn0 : KLn L 14 0 0 := by
    obtain ⟨q1, q2, q3, q4, q5, q6, q7, q8, q9, q10, q11, q12, q13, q14, q15, q16⟩ := lrest
    exact ⟨lb, lo, ⟨Nat.zero_le _, Nat.zero_le _⟩, q1, q2, q3, q4, q5, q6, q7, q8, q9, q10, q11, q12, q13, ⟨Nat.zero_le _, q14.2⟩, q15, q16⟩
  obtain ⟨⟨-, -, ⟨-, hc, -, -⟩, -, ⟨hn1, hn2⟩, -⟩, -⟩ := gi
  have hgn : ∀ e, e < (aL a).length → (aL a).getD e elD ∈ aL a := fun e he => by rw [List.getD_eq_getElem?_getD, List.getElem?_eq_getElem he]; exact List.getElem_mem he
  have hat : ∀ e, e < (aL a).length → ((aL a).getD e elD).2.2.1 + ((aL a).getD e elD).2.2.2.1 ≤ (aB a).length := fun e he => (gn.2 _ (List.mem_map.mpr ⟨_, hgn e he, rfl⟩)).1
  refine ⟨⟨hLn0, h1, h2, h3, ?_, fun i hi => ⟨hat i hi, gn.dst (hgn i hi)⟩, by omega, by omega, by omega, h5'⟩, h4, ?_⟩
  · intro i hi
    exact gv.2 i (e5 ((aL a).getD i elD)) (by rw [List.getElem?_map, List.getElem?_eq_getElem hi, List.getD_eq_getElem?_getD, List.getElem?_eq_getElem hi]; rfl)
  · refine ⟨fun e he => List.mem_of_getElem? (h2.2 e he).1.2, fun e he t ht => ?_, fun t s hm => ?_, h11⟩
    · unfold ats at ht
      obtain ⟨i, i1, rfl⟩ := List.mem_map.mp ht
      have i2 := List.mem_range.mp i1
      have := hat e he
      obtain ⟨m1, -, -, -, m5, m6⟩ := h3.2 (((aL a).getD e elD).2.2.1 + i) (by omega)
      refine ⟨List.mem_of_getElem? m1.2, fun s hs => ?_⟩
      unfold plk at hs
      split at hs
      · rename_i hok
        rcases m5 with ⟨-, k2⟩ | ⟨k1, -⟩
        · rcases List.mem_cons.mp hs with z | z
          · rw [z]; exact List.mem_of_getElem? k2.2
          · rw [List.mem_singleton.mp z]; exact List.mem_of_getElem? m6.2
        · exact absurd hok k1
      · cases hs
    · obtain ⟨G, ⟨g1, -⟩, g2, -⟩ := h4
      rw [← g1] at hm
      exact kev_tg g2 hm
theorem KDm.kd (hLn : KLn L 14 rm nd) (h : KDm σ a) (hG : GOK rm nd a) : ∃ bk pl, KD4 L 14 σ bk pl (aA a) (aL a) (aB a) ∧ KSt 14 σ bk pl (aS a) (aL a).length ∧ KNW bk (aL a) (aB a) (aS a) := by
  obtain ⟨bk, pl, h1⟩ := h
  exact ⟨bk, pl, KDk.kd hLn h1 hG⟩
/-- what refusing may change -/
def RFk (σ τ : IS) : Prop := (∀ p k, p ≠ 17 → τ.1 p k = σ.1 p k) ∧ ∀ r, ¬ (245 ≤ r ∧ r ≤ 247) → τ.2 r = σ.2 r
theorem RFk.refl : RFk σ σ := ⟨fun _ _ _ => rfl, fun _ _ => rfl⟩
theorem RFk.dm (h : RFk σ τ) (hd : KDm σ a) : KDm τ a := by
  obtain ⟨bk, pl, h1, h2, h3, h4, ⟨h5, h5'⟩, h6, h7, h8, h9, h10, h11⟩ := hd
  have hr : ∀ k, k ≤ 19 → τ.2 (rfo 14 k) = σ.2 (rfo 14 k) := fun k hk => h.2 _ (rfo_wk 14 (Or.inl rfl) k hk).2.2
  refine ⟨bk, pl, h1.dep ⟨h.1 13 1 (by decide), h.1 13 6 (by decide)⟩ (fun r _ _ => h.2 r (by omega)), h2.dep kle.refl (h.1 14 7 (by decide)) (fun k _ _ => hr k (by omega)), h3.dep kle.refl cle.refl (h.1 14 14 (by decide)) (fun k _ _ => hr k (by omega)), h4.dep kle.refl (fun k _ => h.1 14 k (by decide)) (hr 15 (by omega)), ⟨by rw [h.1 14 2 (by decide)]; exact h5, by rw [hr 1 (by omega)]; exact h5'⟩, h6, by rw [hr 18 (by omega)]; exact h7, fun k hk => by rw [hr 19 (by omega)]; exact h8 k hk, by rw [h.1 14 21 (by decide)]; exact h9, h10, h11⟩
theorem RFk.dc (h : RFk σ τ) (hd : KDc σ d) : KDc τ d := by
  unfold KDc at hd ⊢
  cases d with
  | inl fp =>
    dsimp only at hd ⊢
    rw [h.1 12 6 (by decide), h.1 12 12 (by decide), h.1 12 13 (by decide)]
    exact hd
  | inr a =>
    dsimp only at hd ⊢
    rw [h.1 12 6 (by decide), h.1 12 12 (by decide), h.1 12 13 (by decide)]
    exact ⟨hd.1, h.dm hd.2⟩
/-- whether the value of an attribute is an absolute name, or empty -/
theorem sp_K_isAbsolute {i : Nat} {x : Int} (hD : KD4 L 14 σ bk pl (aA a) (aL a) (aB a)) (hi : i < (aB a).length) (hx : x = (i : Int)) (hq : R (b1 (decide ((aB a).getD i atD).2.1.isEmpty || isAbs ((aB a).getD i atD).2.1)) σ) : w_K_isAbsolute L x R σ := by
  subst hx
  obtain ⟨hLn, hb, hE, hA, hp, hd, hal, hel, hpl, hpool⟩ := hD
  obtain ⟨l8, l8', l8''⟩ : (∀ k, 8 ≤ k → k ≤ 13 → L (rfo 14 k) = L (rfo 14 8)) ∧ 16500 ≤ L (rfo 14 8) ∧ L (rfo 14 8) ≤ 32768 := by obtain ⟨-, -, -, -, -, -, -, -, -, -, -, -, -, -, -, -, -, x, -⟩ := hLn; exact x
  obtain ⟨lp1, lp2⟩ : 0 ≤ L (rfo 14 1) ∧ L (rfo 14 1) ≤ 262144 := by obtain ⟨-, -, -, -, -, -, -, -, -, -, -, -, -, -, -, -, x, -⟩ := hLn; exact x
  obtain ⟨-, m2, m3, -⟩ := hA.2 i hi
  generalize hval : ((aB a).getD i atD).2.1 = val at *
  obtain ⟨p, p1, p2, p3⟩ := m2.at_
  unfold w_K_isAbsolute
  rw [show Int.toNat (i : Int) = i from rfl, m3, p1]
  refine ⟨⟨by omega, by rw [l8 10 (by omega) (by omega)]; omega⟩, ⟨by omega, by rw [l8 9 (by omega) (by omega)]; omega⟩, ?_⟩
  cases val with
  | nil =>
    rw [if_pos (show (([] : Str).length : Int) = 0 from rfl)]
    exact hq
  | cons c0 v =>
    rw [if_neg (by rw [List.length_cons]; omega)]
    have hq' : R (b1 (isLt c0 && absL v)) σ := by
      have e : (decide ((c0 :: v : Str).isEmpty = true) || isAbs (c0 :: v)) = (isLt c0 && absL v) := rfl
      rw [e] at hq
      exact hq
    have hpv : ∀ n, n < (c0 :: v : Str).length → σ.2 (rfo 14 1) (p + n) = (c0 :: v : Str).getD n 0 := fun n hn => by rw [hpool (p + n) (by omega)]; exact p3 n hn
    have hpn : ∀ n : Nat, Int.toNat ((p : Int) + (n : Int)) = p + n := fun n => by omega
    refine WL_ind (fun z ρ => ρ = σ ∧ ∃ n : Nat, z = (n : Int) ∧ 1 ≤ n ∧ n ≤ (c0 :: v : Str).length ∧ absL v = absL ((c0 :: v : Str).drop n)) (fun z _ => (((c0 :: v : Str).length : Int) - z).toNat) ?_ 1 σ ⟨rfl, 1, rfl, Nat.le_refl _, by rw [List.length_cons]; omega, rfl⟩
    rintro z ρ ⟨rfl, n, rfl, n0, n1, n2⟩ K hK
    try dsimp only
    refine WJ_dir ?_
    try dsimp only
    have e0 : ρ.2 (rfo 14 1) (Int.toNat (p : Int)) = c0 := by rw [show Int.toNat (p : Int) = p + 0 from rfl]; exact hpv 0 (by rw [List.length_cons]; omega)
    have fin : (n < (c0 :: v : Str).length → (absL ((c0 :: v : Str).drop n) = decide ((c0 :: v : Str).getD n 0 = 58))) → (¬ n < (c0 :: v : Str).length → absL ((c0 :: v : Str).drop n) = false) → inL L (rfo 14 1) (p : Int) ∧ w_K_isLetter L (ρ.2 (rfo 14 1) (Int.toNat (p : Int))) (fun v11 σ10 => ((¬ v11 = 0 → ((n : Int) < (((c0 :: v : Str).length : Nat) : Int) → (inR ((p : Int) + (n : Int)) ∧ inL L (rfo 14 1) ((p : Int) + (n : Int)))))) ∧ R (if v11 = 0 then (0 : Int) else (if (n : Int) < (((c0 :: v : Str).length : Nat) : Int) then (if (σ10.2 (rfo 14 1) (Int.toNat ((p : Int) + (n : Int)))) = 58 then (1 : Int) else (0 : Int)) else (0 : Int))) σ10) ρ := fun f1 f2 => by
      refine ⟨⟨by omega, by rw [List.length_cons] at p2; omega⟩, ?_⟩
      rw [e0]
      refine sp_K_isLetter ⟨fun _ hn => ⟨⟨by omega, by omega⟩, ⟨by omega, by omega⟩⟩, ?_⟩
      rw [n2] at hq'
      cases hlt : isLt c0 with
      | false =>
        rw [hlt, Bool.false_and] at hq'
        rw [if_pos (by decide)]
        exact hq'
      | true =>
        rw [hlt, Bool.true_and] at hq'
        rw [if_neg (by decide)]
        by_cases cn : n < (c0 :: v : Str).length
        · rw [if_pos (by omega), hpn, hpv n cn]
          rw [f1 cn] at hq'
          by_cases c58 : (c0 :: v : Str).getD n 0 = 58
          · rw [if_pos c58]; rw [decide_eq_true c58] at hq'; exact hq'
          · rw [if_neg c58]; rw [decide_eq_false c58] at hq'; exact hq'
        · rw [if_neg (by omega)]
          rw [f2 cn] at hq'
          exact hq'
    by_cases cn : n < (c0 :: v : Str).length
    · rw [if_pos (by omega)]
      have hr1 : inR ((p : Int) + (n : Int)) := ⟨by omega, by omega⟩
      have hr2 : inL L (rfo 14 1) ((p : Int) + (n : Int)) := ⟨by omega, by omega⟩
      refine ⟨hr1, hr2, ?_⟩
      rw [hpn, hpv n cn]
      have hdr := drop_getD (s := (c0 :: v : Str)) cn
      generalize hc : (c0 :: v : Str).getD n 0 = c at *
      have habs : absL ((c0 :: v : Str).drop n) = if c = 58 then true else if isLt c = true ∨ isDg c = true ∨ c = 43 ∨ c = 45 ∨ c = 46 then absL ((c0 :: v : Str).drop (n + 1)) else false := by rw [hdr]; rfl
      have goon : c ≠ 58 → (isLt c = true ∨ isDg c = true ∨ c = 43 ∨ c = 45 ∨ c = 46) → inR ((n : Int) + 1) ∧ K ((n : Int) + 1) ρ := fun h58 hh => ⟨⟨by omega, by omega⟩, hK _ _ ⟨rfl, n + 1, by omega, by omega, by omega, by rw [n2, habs, if_neg h58, if_pos hh]⟩ (by omega)⟩
      refine sp_K_isLetter (WJ_dir ?_)
      try dsimp only
      cases hlt : isLt c with
      | true =>
        rw [if_neg (by decide)]
        refine goon (fun z => ?_) (Or.inl hlt)
        rw [z] at hlt; exact absurd hlt (by decide)
      | false =>
        rw [if_pos (by decide)]
        refine ⟨hr1, hr2, ?_⟩
        rw [hpv n cn, hc]
        refine sp_K_isDigit ⟨fun _ => ⟨hr1, hr2, fun _ => ⟨hr1, hr2, fun _ => ⟨hr1, hr2⟩⟩⟩, ?_⟩
        rw [hpv n cn, hc]
        by_cases hh : isDg c = true ∨ c = 43 ∨ c = 45 ∨ c = 46
        · rw [if_pos (by
            rcases hh with z | z
            · left; rw [z]; decide
            · right; exact z)]
          refine goon (fun z => ?_) (Or.inr hh)
          rw [z] at hh
          exact absurd hh (by decide)
        · rw [if_neg (by
            rintro (z | z)
            · exact hh (Or.inl (by
                cases hdg : isDg c with
                | true => rfl
                | false => rw [hdg] at z; exact absurd (by decide) z))
            · exact hh (Or.inr z))]
          refine fin (fun _ => ?_) (fun z => absurd cn z)
          rw [habs]
          by_cases c58 : c = 58
          · rw [if_pos c58, decide_eq_true c58]
          · rw [if_neg c58, if_neg (fun z => by
              rcases z with z | z
              · rw [hlt] at z; cases z
              · exact hh z), decide_eq_false c58]
    · rw [if_neg (by omega)]
      refine fin (fun z => absurd z cn) (fun _ => ?_)
      rw [List.drop_eq_nil_of_le (by omega)]
      rfl
end Krf
section Krg
variable {L : Nat → Nat} {rm nd : Nat} {σ τ υ : IS} {a : AS} {d : DOC} {R : Int → IS → Prop} {Q : Int → IS → Prop} {bk : List Str} {pl : List Int} {el : List Elm} {at_ : List Att}
theorem sn_le1 {f : Nat → Nat} (h : ∀ i, f i ≤ 1) (n : Nat) : sn f n ≤ n := by
  have := sm_le (P := fun _ => true) h n
  show sm (fun _ => true) f n ≤ n
  omega
theorem spE_1c {k e : Nat} : spE el at_ k e ≤ 1 + (el.getD e elD).2.2.2.1 := by
  have n0 : ∀ s, nm0 s ≤ 1 := fun s => by unfold nm0; split <;> omega
  have n1 : ∀ E s, nm1 E s ≤ 1 := fun E s => by unfold nm1; split <;> omega
  have n2 : ∀ E f i, nm2 E at_ f i ≤ 1 := fun E f i => by unfold nm2; split <;> omega
  have n3 : ∀ t, nm3 t ≤ 1 := fun t => by
    unfold nm3
    split
    · omega
    · split <;> omega
  have n4 : ∀ s, nm4 s ≤ 1 := fun s => by unfold nm4; split <;> omega
  unfold spE snE
  by_cases c0 : k = 0
  · rw [if_pos c0, if_neg (by omega)]
    have h1 := n0 (el.getD e elD).1
    have h2 := sn_le1 (f := fun i => nm0 (at_.getD ((el.getD e elD).2.2.1 + i) atD).1) (fun i => n0 _) (el.getD e elD).2.2.2.1
    omega
  rw [if_neg c0]
  by_cases c1 : k = 1
  · rw [if_pos c1, if_neg (by omega)]
    have h1 := n1 (EN el at_ (e : Int)) (el.getD e elD).1
    have h2 := sn_le1 (f := fun i => nm1 (EN el at_ (e : Int)) (at_.getD ((el.getD e elD).2.2.1 + i) atD).1) (fun i => n1 _ _) (el.getD e elD).2.2.2.1
    omega
  rw [if_neg c1]
  by_cases c2 : k = 2
  · rw [if_pos c2, if_neg (by omega)]
    have h2 := sn_le1 (f := nm2 (EN el at_ (e : Int)) at_ (el.getD e elD).2.2.1) (fun i => n2 _ _ _) (el.getD e elD).2.2.2.1
    omega
  rw [if_neg c2]
  by_cases c4 : k = 4
  · rw [if_pos c4, if_neg (by omega)]
    have h1 := n4 (el.getD e elD).1
    omega
  rw [if_neg c4]
  by_cases c3 : k = 3
  · rw [if_pos c3]
    have h2 := sn_le1 (f := fun i => nm3 (at_.getD ((el.getD e elD).2.2.1 + i) atD)) (fun i => n3 _) (el.getD e elD).2.2.2.1
    omega
  · rw [if_neg c3]
    omega
theorem sn_spE {k : Nat} : ∀ m, m ≤ el.length → sn (spE el at_ k) m ≤ m + (segs (el.take m)).length
  | 0, _ => Nat.zero_le _
  | m + 1, h => by
    rw [sn_s, segs_take h, List.length_append]
    have h1 := sn_spE (k := k) m (by omega)
    have h2 := spE_1c (el := el) (at_ := at_) (k := k) (e := m)
    have h3 : (seg (el.getD m elD)).length = (el.getD m elD).2.2.2.1 := by
      unfold seg
      rw [List.length_map, List.length_range]
    omega
theorem cnS_bd (hG : GOK rm nd a) (hrm : rm ≤ 262144) (hnd : nd ≤ 16384) {k : Nat} : cnS a k ≤ 300000000 := by
  obtain ⟨gi, gf, gv, gs, gd, gw, gn⟩ := hG
  obtain ⟨⟨-, -, ⟨-, q2, -, -⟩, ⟨-, -, -, -, -, q6, -⟩, ⟨q7, q8⟩, -⟩, -⟩ := gi
  have h1 := sn_spE (el := aL a) (at_ := aB a) (k := k) (aL a).length (Nat.le_refl _)
  rw [List.take_length] at h1
  have h2 := congrArg List.length gs.1
  rw [List.length_map, List.length_range] at h2
  unfold cnS
  have h3 : (if k = 5 then aN a 2 else 0) ≤ aN a 2 := by split <;> omega
  omega
/-- the writer at work on the document: its size, and the bytes in the row where they are wanted -/
theorem sp_K_writeRow {v : Int} (hLn : KLn L 14 rm nd) (hLw : KLw L) (h : KDm σ a) (hg : DGd rm nd (.inr a)) (h0 : ¬ ∃ k, k < 6 ∧ 0 < cnS a k)
    (hq : ∀ τ, (∀ p k, p ≠ 17 → τ.1 p k = σ.1 p k) → (∀ r, ¬ (245 ≤ r ∧ r ≤ 247) → ¬ (r = 244 ∧ v = 0) → τ.2 r = σ.2 r) → (v = 0 → ∀ i, i < bz (cnW a) → i < 262144 → τ.2 244 i = nb (((cnW a).flatMap u8b).getD i 0)) → R (if 262152 < bz (cnW a) then (262152 : Int) else (bz (cnW a) : Int)) τ) : w_KWriter_writeRow L 14 v R σ := by
  obtain ⟨gG, gX, -, -, -, gK⟩ := hg a rfl
  obtain ⟨bk, pl, hD, hS, -⟩ := h.kd hLn gG
  unfold w_KWriter_writeRow
  have m3 : (if v = 0 then (0 : Int) else (3 : Int)) = 0 ∨ (if v = 0 then (0 : Int) else (3 : Int)) = 3 := by split <;> omega
  have mv : (if v = 0 then (0 : Int) else (3 : Int)) = 0 ↔ v = 0 := by split <;> omega
  generalize hm : (if v = 0 then (0 : Int) else (3 : Int)) = mo at *
  have hf : ∀ p k, p ≠ 17 → (pf (pf σ 17 1 ((14 : Nat) : Int)) 17 3 mo).1 p k = σ.1 p k := fun p k hp => by rw [pf_no hp, pf_no hp]
  have e3 : (pf (pf σ 17 1 ((14 : Nat) : Int)) 17 3 mo).1 17 3 = mo := pf_eq
  have hD1 : KD4 L 14 (pf (pf σ 17 1 ((14 : Nat) : Int)) 17 3 mo) bk pl (aA a) (aL a) (aB a) := by
    obtain ⟨h1, h2, h3, h4, h5, h6, h7, h8, h9, h10⟩ := hD
    exact ⟨h1, h2.dep ⟨hf 13 1 (by decide), hf 13 6 (by decide)⟩ (fun r _ _ => rfl), h3.dep kle.refl (hf 14 7 (by decide)) (fun k _ _ => rfl), h4.dep kle.refl cle.refl (hf 14 14 (by decide)) (fun k _ _ => rfl), h5, h6, h7, h8, h9, h10⟩
  have hS1 : KSt 14 (pf (pf σ 17 1 ((14 : Nat) : Int)) 17 3 mo) bk pl (aS a) (aL a).length := hS.dep kle.refl (fun k _ => hf 14 k (by decide)) rfl
  refine sp_K_write (l := []) (o := 14) hLw.1 hLw.2.1 hLw.2.2 (by rw [pf_nk (by decide), pf_eq]) hD1 hS1 gK (WDo_of gG gX h0) ⟨by rw [e3]; omega, by rw [e3]; omega, fun z => by rw [e3] at z; omega⟩ (fun z => by rw [e3] at z; omega) (fun z => by rw [e3] at z; omega) (fun z => by rw [e3] at z; omega) (fun τ t1 t2 => ?_)
  obtain ⟨-, t3, t4, -⟩ := t2
  have t33 : τ.1 17 3 = mo := t1.m3.trans e3
  rw [t3]
  refine hq τ (fun p k hp => (t1.1 p k hp (by rw [e3]; omega)).trans (hf p k hp)) (fun r h1 h2 => (t1.2.2 r (fun z => h2 ⟨z.1, ?_⟩) (by rw [e3]; omega) h1)) (fun hv i hi hi2 => t4 (by rw [t33]; exact mv.mpr hv) i hi hi2)
  have := z.2
  rw [e3] at this
  exact mv.mp this
noncomputable def rfs (d : DOC) : Int := match (anW d).2 with
  | some _ => 0
  | none => (anW d).1
theorem sp_K_refusal (hLn : KLn L 14 rm nd) (hLw : KLw L) (h : KDc σ d) (hg : DGd rm nd d) (hq : ∀ τ, RFk σ τ → Q (rfs d) τ) : w_K_refusal L Q σ := by
  unfold w_K_refusal
  cases d with
  | inl fp =>
    rw [h.1, if_pos rfl]
    exact hq σ RFk.refl
  | inr a =>
    obtain ⟨⟨h6, -, -⟩, hm⟩ := h
    have hga := hg a rfl
    obtain ⟨gG, gX, gY, gU, g6, gK⟩ := hga
    obtain ⟨lr, ln⟩ := hLn.2.2.1
    obtain ⟨bk, pl, hD, hS, -⟩ := hm.kd hLn gG
    have hm' := hm
    obtain ⟨bk', pl', -, -, k3, -, -, -, r18, r19, -, -, -⟩ := hm'
    have l18 : L (rfo 14 18) = 23 ∧ L (rfo 14 19) = 6 := by obtain ⟨-, -, -, -, -, -, -, -, -, -, -, -, -, -, -, -, -, -, -, x⟩ := hLn; exact x
    obtain ⟨l8, l8', l8''⟩ : (∀ k, 8 ≤ k → k ≤ 13 → L (rfo 14 k) = L (rfo 14 8)) ∧ 16500 ≤ L (rfo 14 8) ∧ L (rfo 14 8) ≤ 32768 := by obtain ⟨-, -, -, -, -, -, -, -, -, -, -, -, -, -, -, -, -, x, -⟩ := hLn; exact x
    rw [h6, if_neg (by decide)]
    refine WL_ind (fun (z : Int × Int) ρ => ρ = σ ∧ ∃ k : Nat, z = ((sn (cnS a) k : Int), (k : Int)) ∧ k ≤ 6) (fun z _ => (6 - z.2).toNat) ?_ (0, 0) σ ⟨rfl, 0, rfl, by omega⟩
    rintro z ρ ⟨rfl, k, rfl, hk⟩ K hK
    try dsimp only
    have hsb : ∀ j, j ≤ 6 → sn (cnS a) j ≤ 300000000 * j := fun j _ => sm_le (P := fun _ => true) (fun i => cnS_bd gG lr ln) j
    by_cases c : k < 6
    · rw [if_pos (by omega), show Int.toNat (k : Int) = k from rfl, r19 k c]
      have h1 := hsb k (by omega)
      have h2 := cnS_bd gG lr ln (k := k)
      refine ⟨⟨by omega, by omega⟩, ⟨by omega, by omega⟩, ⟨by omega, by omega⟩, hK _ _ ⟨rfl, k + 1, ?_, by omega⟩ (by dsimp only; omega)⟩
      rw [sn_s]
      congr 1
    · rw [if_neg (by omega)]
      have hk6 : k = 6 := by omega
      subst hk6
      have hiff : 0 < (sn (cnS a) 6 : Int) ↔ ∃ k, k < 6 ∧ 0 < cnS a k := by
        constructor
        · intro hp
          by_cases cc : ∃ k, k < 6 ∧ 0 < cnS a k
          · exact cc
          · exfalso
            have : sn (cnS a) 6 = 0 := by
              have hz : ∀ i, i < 6 → cnS a i = 0 := fun i hi => by
                by_cases z : cnS a i = 0
                · exact z
                · exact absurd ⟨i, hi, by omega⟩ cc
              rw [sn_s, sn_s, sn_s, sn_s, sn_s, sn_s, hz 0 (by omega), hz 1 (by omega), hz 2 (by omega), hz 3 (by omega), hz 4 (by omega), hz 5 (by omega)]
              rfl
            omega
        · rintro ⟨k, k1, k2⟩
          by_cases cc : 0 < sn (cnS a) 6
          · omega
          · have := sn_zero (f := cnS a) (n := 6) (by omega) k k1
            omega
      by_cases c0 : ∃ k, k < 6 ∧ 0 < cnS a k
      · rw [if_pos (hiff.mpr c0)]
        have e : rfs (.inr a) = -2 := by unfold rfs anW; dsimp only; rw [if_pos c0]
        rw [e] at hq
        exact hq ρ RFk.refl
      · rw [if_neg (fun z => c0 (hiff.mp z)), show Int.toNat 22 = 22 from rfl, r18 22 (by decide), cn22 gG gU g6]
        refine ⟨⟨by omega, by omega⟩, ?_⟩
        have hbad : ((0 < aN a 1 ∨ rlv (dvA (aL a) (aB a) (aL a).length) = true) → rfs (.inr a) = -3) := fun z => by unfold rfs anW; dsimp only; rw [if_neg c0, if_pos z]
        have hrl := rlv_iff (el := aL a) (at_ := aB a) gG.2.2.2.1.1
        have k14 : ρ.1 14 14 = ((aB a).length : Int) := k3.1
        have hB : (aB a).length ≤ 16384 := by
          obtain ⟨⟨⟨-, -, -, -, ⟨q7, q8⟩, -⟩, -⟩, -⟩ := gG
          omega
        refine WL_ind (fun (z : Int × Int) υ => υ = ρ ∧ ∃ (i : Nat) (g : Bool), z = (b1 g, (i : Int)) ∧ i ≤ (aB a).length ∧ (g = true ↔ aN a 1 = 0 ∧ ∀ j, j < i → ¬ ((dcl ((aB a).getD j atD).1).isSome = true ∧ ((aB a).getD j atD).2.1 ≠ [] ∧ isAbs ((aB a).getD j atD).2.1 = false)) ∧ (g = false → 0 < aN a 1 ∨ rlv (dvA (aL a) (aB a) (aL a).length) = true)) (fun z _ => (((aB a).length : Int) - z.2).toNat) ?_ _ ρ ⟨rfl, 0, decide (aN a 1 = 0), ?_, Nat.zero_le _, ?_, ?_⟩
        · rintro z υ ⟨rfl, i, g, rfl, i1, i2, i3⟩ K' hK'
          try dsimp only
          rw [k14]
          by_cases ci : i < (aB a).length ∧ g = true
          · rw [if_pos ⟨by omega, by rw [ci.2]; decide⟩]
            refine sp_K4_isDecl hD ci.1 rfl (WJ_dir (WJ_dir ?_))
            try dsimp only
            have nx : ∀ g' : Bool, (g' = true ↔ ¬ ((dcl ((aB a).getD i atD).1).isSome = true ∧ ((aB a).getD i atD).2.1 ≠ [] ∧ isAbs ((aB a).getD i atD).2.1 = false)) → inR ((i : Int) + 1) ∧ K' (b1 g', (i : Int) + 1) υ := fun g' hg' => by
              refine ⟨⟨by omega, by omega⟩, hK' _ _ ⟨rfl, i + 1, g', by rw [show ((i : Int) + 1) = ((i + 1 : Nat) : Int) by omega], by omega, ?_, fun z => ?_⟩ (by dsimp only; omega)⟩
              · rw [hg']
                have h7 := i2.mp ci.2
                constructor
                · intro z
                  refine ⟨h7.1, fun j hj => ?_⟩
                  by_cases cj : j = i
                  · rw [cj]; exact z
                  · exact h7.2 j (by omega)
                · intro z; exact z.2 i (by omega)
              · refine Or.inr (hrl.mpr ⟨i, ci.1, ?_⟩)
                by_cases cc : (dcl ((aB a).getD i atD).1).isSome = true ∧ ((aB a).getD i atD).2.1 ≠ [] ∧ isAbs ((aB a).getD i atD).2.1 = false
                · exact cc
                · rw [hg'.mpr cc] at z; cases z
            cases hdc : (dcl ((aB a).getD i atD).1).isSome with
            | false =>
              rw [if_pos (by decide)]
              exact nx true ⟨fun _ z => (by rw [hdc] at z; cases z.1), fun _ => rfl⟩
            | true =>
              rw [if_neg (by decide)]
              refine sp_K_isAbsolute hD ci.1 rfl ?_
              try dsimp only
              cases hab : (decide ((aB a).getD i atD).2.1.isEmpty || isAbs ((aB a).getD i atD).2.1) with
              | true =>
                rw [if_neg (by decide)]
                refine nx true ⟨fun _ z => ?_, fun _ => rfl⟩
                rw [z.2.2, Bool.or_false, decide_eq_true_eq] at hab
                exact z.2.1 (List.isEmpty_iff.mp hab)
              | false =>
                rw [if_pos (by decide)]
                refine nx false ⟨fun z => (by cases z), fun z => absurd ⟨hdc, fun y => ?_, ?_⟩ z⟩
                · rw [Bool.or_eq_false_iff] at hab
                  have := hab.1
                  rw [y] at this
                  exact absurd this (by decide)
                · rw [Bool.or_eq_false_iff] at hab
                  exact hab.2
          · rw [if_neg (fun z => ci ⟨by omega, by
              cases g with
              | true => rfl
              | false => exact absurd (by decide) z.2⟩)]
            refine WJ_dir ?_
            try dsimp only
            cases g with
            | false =>
              rw [if_pos (by decide)]
              have := hbad (i3 rfl)
              rw [this] at hq
              exact hq υ RFk.refl
            | true =>
              rw [if_neg (by decide)]
              have hi : i = (aB a).length := by
                by_cases cc : i < (aB a).length
                · exact absurd ⟨cc, rfl⟩ ci
                · omega
              obtain ⟨q1, q2⟩ := i2.mp rfl
              have hng : ¬ (0 < aN a 1 ∨ rlv (dvA (aL a) (aB a) (aL a).length) = true) := fun z => by
                rcases z with z | z
                · omega
                · obtain ⟨j, j1, j2⟩ := hrl.mp z
                  exact q2 j (by omega) j2
              refine sp_K_writeRow hLn hLw hm hg c0 (fun τ t1 t2 _ => ?_)
              have hRF : RFk υ τ := ⟨t1, fun r hr => t2 r hr (fun z => absurd z.2 (by decide))⟩
              by_cases cb : bz (cnW a) ≤ 262144
              · rw [if_neg (show ¬ (262152 : Nat) < bz (cnW a) by omega), if_neg (by omega)]
                have e : rfs (.inr a) = 0 := by
                  unfold rfs anW
                  dsimp only
                  rw [if_neg c0, if_neg hng, if_pos (show ((cnW a).flatMap u8b).length ≤ 262144 from cb)]
                rw [e] at hq
                exact hq τ hRF
              · rw [if_pos (by split <;> omega)]
                have e : rfs (.inr a) = -4 := by
                  unfold rfs anW
                  dsimp only
                  rw [if_neg c0, if_neg hng, if_neg (show ¬ ((cnW a).flatMap u8b).length ≤ 262144 from cb)]
                rw [e] at hq
                exact hq τ hRF
        · by_cases c1 : aN a 1 = 0
          · rw [if_pos (by omega), decide_eq_true c1]; rfl
          · rw [if_neg (by omega), decide_eq_false c1]; rfl
        · rw [decide_eq_true_eq]
          exact ⟨fun z => ⟨z, fun j hj => absurd hj (Nat.not_lt_zero _)⟩, fun z => z.1⟩
        · intro z
          rw [decide_eq_false_iff_not] at z
          exact Or.inl (by omega)
/-- what CANONICAL of the reference may change -/
def CNk (σ τ : IS) : Prop := (∀ p k, p ≠ 17 → ¬ (p = 12 ∧ (k = 9 ∨ k = 11)) → τ.1 p k = σ.1 p k) ∧ τ.1 12 11 = 0 ∧ ∀ r, ¬ (244 ≤ r ∧ r ≤ 247) → τ.2 r = σ.2 r
theorem CNk.dc (h : CNk σ τ) (hd : KDc σ d) : KDc τ d := by
  unfold KDc at hd ⊢
  have hdm : ∀ a, KDm σ a → KDm τ a := fun a hd => by
    obtain ⟨bk, pl, h1, h2, h3, h4, ⟨h5, h5'⟩, h6, h7, h8, h9, h10, h11⟩ := hd
    have hr : ∀ k, k ≤ 19 → τ.2 (rfo 14 k) = σ.2 (rfo 14 k) := fun k hk => by
      obtain ⟨z1, z2, z3⟩ := rfo_wk 14 (Or.inl rfl) k hk
      exact h.2.2 _ (by omega)
    have hf : ∀ p k, p ≠ 17 → p ≠ 12 → τ.1 p k = σ.1 p k := fun p k y1 y2 => h.1 p k y1 (fun z => y2 z.1)
    exact ⟨bk, pl, h1.dep ⟨hf 13 1 (by decide) (by decide), hf 13 6 (by decide) (by decide)⟩ (fun r _ _ => h.2.2 r (by omega)), h2.dep kle.refl (hf 14 7 (by decide) (by decide)) (fun k _ _ => hr k (by omega)), h3.dep kle.refl cle.refl (hf 14 14 (by decide) (by decide)) (fun k _ _ => hr k (by omega)), h4.dep kle.refl (fun k _ => hf 14 k (by decide) (by decide)) (hr 15 (by omega)), ⟨by rw [hf 14 2 (by decide) (by decide)]; exact h5, by rw [hr 1 (by omega)]; exact h5'⟩, h6, by rw [hr 18 (by omega)]; exact h7, fun k hk => by rw [hr 19 (by omega)]; exact h8 k hk, by rw [hf 14 21 (by decide) (by decide)]; exact h9, h10, h11⟩
  cases d with
  | inl fp =>
    dsimp only at hd ⊢
    rw [h.1 12 6 (by decide) (by omega), h.1 12 12 (by decide) (by omega), h.1 12 13 (by decide) (by omega)]
    exact hd
  | inr a =>
    dsimp only at hd ⊢
    rw [h.1 12 6 (by decide) (by omega), h.1 12 12 (by decide) (by omega), h.1 12 13 (by decide) (by omega)]
    exact ⟨hd.1, hdm a hd.2⟩
/-- CANONICAL of the reference -/
theorem sp_K_canonical {P : List Int} (hLn : KLn L 14 rm nd) (hLw : KLw L) (h : KDc σ d) (hg : DGd rm nd d) (hP : KPr σ P) (hq : ∀ τ, CNk σ τ → KDc τ d → KPr τ ((anW d).2.getD P) → Q (anW d).1 τ) : w_K_canonical L Q σ := by
  have h0 : KDc (pf σ 12 11 0) d := h.up (fun p k z => by rw [pf_1, if_neg z]) rfl
  unfold w_K_canonical
  refine sp_K_refusal hLn hLw h0 hg (fun τ t1 => WJ_dir ?_)
  try dsimp only
  have hC : CNk σ τ := ⟨fun p k y1 y2 => (t1.1 p k y1).trans (by rw [pf_1, if_neg (fun z => y2 ⟨z.1, Or.inr z.2⟩)]), (t1.1 12 11 (by decide)).trans pf_eq, fun r hr => t1.2 r (by omega)⟩
  have hKP : KPr τ P := by
    obtain ⟨p1, p2, p3⟩ := hP
    refine ⟨by rw [t1.1 12 9 (by decide), pf_nk (by decide)]; exact p1, p2, fun i hi => ?_⟩
    rw [t1.2 244 (by omega)]
    exact p3 i hi
  cases ha : (anW d).2 with
  | none =>
    have e : rfs d = (anW d).1 := by unfold rfs; rw [ha]
    have hn0 : (anW d).1 ≠ 0 := by
      unfold anW at ha ⊢
      cases d with
      | inl fp => exact fun z => by cases z
      | inr a =>
        dsimp only at ha ⊢
        split
        · exact fun z => by cases z
        · rename_i c0
          rw [if_neg c0] at ha
          split
          · exact fun z => by cases z
          · rename_i c1
            rw [if_neg c1] at ha
            split
            · rename_i c2
              rw [if_pos c2] at ha
              cases ha
            · exact fun z => by cases z
    rw [e, if_neg hn0]
    rw [ha] at hq
    exact hq τ hC (hC.dc h) hKP
  | some B =>
    have e : rfs d = 0 := by unfold rfs; rw [ha]
    rw [e, if_pos rfl]
    cases d with
    | inl fp => unfold anW at ha; cases ha
    | inr a =>
      have hfacts : (¬ ∃ k, k < 6 ∧ 0 < cnS a k) ∧ B = (cnW a).flatMap u8b ∧ bz (cnW a) ≤ 262144 ∧ (anW (.inr a)).1 = (bz (cnW a) : Int) := by
        unfold anW at ha ⊢
        dsimp only at ha ⊢
        split at ha
        · cases ha
        · rename_i c0
          rw [if_neg c0]
          split at ha
          · cases ha
          · rename_i c1
            rw [if_neg c1]
            split at ha
            · rename_i c2
              rw [if_pos c2]
              exact ⟨c0, (Option.some.inj ha).symm, c2, rfl⟩
            · cases ha
      obtain ⟨c0, hB, hb, hv⟩ := hfacts
      have h1 := hC.dc h
      refine sp_K_writeRow hLn hLw h1.2 hg c0 (fun υ u1 u2 u3 => ?_)
      rw [if_neg (show ¬ (262152 : Nat) < bz (cnW a) by omega)]
      rw [hv, ha] at hq
      have hC2 : CNk σ (pf υ 12 9 (bz (cnW a) : Int)) := ⟨fun p k y1 y2 => by
        rw [pf_1, if_neg (fun z => y2 ⟨z.1, Or.inl z.2⟩), u1 p k y1]
        exact hC.1 p k y1 y2, by rw [pf_nk (by decide), u1 12 11 (by decide)]; exact hC.2.1, fun r hr => by
        rw [pf_2, u2 r (by omega) (by omega)]
        exact hC.2.2 r hr⟩
      refine hq _ hC2 (hC2.dc h) ⟨by rw [pf_eq, hB]; rfl, by rw [hB]; exact hb, fun i hi => ?_⟩
      rw [hB] at hi ⊢
      rw [pf_2]
      exact u3 rfl i hi (by have : i < bz (cnW a) := hi; omega)
end Krg
