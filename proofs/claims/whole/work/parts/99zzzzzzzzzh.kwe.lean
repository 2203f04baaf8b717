/-! ===== the reference's writer: which declarations are news, what prefixes mean ===== -/
section Kwe
variable {L : Nat → Nat} {o : Nat} {σ τ : IS} {bk : List Str} {pl : List Int} {ad : List ADc} {el : List Elm} {at_ : List Att} {s t p q : Str} {R : Int → IS → Prop} {x y e : Int}
theorem sXm_env : env0 sXm = sXM := by unfold env0; rw [if_pos rfl]
theorem SY.mn {r : Int} (h : SY el at_ e q r) (h1 : q ≠ sXm) : MNg at_ r (EN el at_ e q) := by
  rcases h with ⟨rfl, h2⟩ | ⟨i, rfl, h2, h3⟩
  · rw [h2, env0_q h1]; exact Or.inr (Or.inl ⟨rfl, rfl⟩)
  · exact Or.inr (Or.inr ⟨i, rfl, h2, h3.symm⟩)
theorem nm3_z {w : Att} (h : dcl w.1 = some p) (h3 : nm3 w = 0) : p ≠ sXn ∧ (p = sXm ↔ w.2.1 = sXM) := by
  unfold nm3 at h3
  rw [h] at h3
  dsimp only at h3
  split at h3
  · cases h3
  · rename_i hn
    refine ⟨fun z => hn (Or.inl z), ?_⟩
    by_cases c : (p = sXm ↔ w.2.1 = sXM)
    · exact c
    · exact absurd (Or.inr (Or.inr (Or.inl c))) hn
theorem sp_K_isNews {n i : Nat} (h17 : σ.1 17 1 = (o : Int)) (hD : KD4 L o σ bk pl ad el at_) (hV : VCh at_) (he : n < el.length) (hi : i < at_.length) (hx : x = (n : Int)) (hy : y = (i : Int)) (hdc : (dcl (at_.getD i atD).1).isSome = true) (h3 : nm3 (at_.getD i atD) = 0) (hq : R (b1 (!idl (EN el at_ (el.getD n elD).2.1) (at_.getD i atD))) σ) : w_KWriter_isNews L x y R σ := by
  subst hx hy
  have hD' := hD
  obtain ⟨hLn, hb, hE, hA, hp, hd, hal, hel, hpl, hpool⟩ := hD'
  obtain ⟨l8, l8', l8''⟩ : (∀ k, 8 ≤ k → k ≤ 13 → L (rfo o k) = L (rfo o 8)) ∧ 16500 ≤ L (rfo o 8) ∧ L (rfo o 8) ≤ 32768 := by obtain ⟨-, -, -, -, -, -, -, -, -, -, -, -, -, -, -, -, -, x, -⟩ := hLn; exact x
  have l3 : ∀ k, 3 ≤ k → k ≤ 6 → L (rfo o k) = 16384 := by obtain ⟨-, -, -, -, -, -, -, -, -, -, -, -, -, -, -, x, -⟩ := hLn; exact x
  have ho := hLn.oo
  have hdy : dyD (o : Int) := by unfold dyD; rcases ho with y | y <;> rw [y] <;> decide
  have e70 : ti 1170 = sXn := by unfold sXn; rw [ti_1170, ti_1071]
  have e69 : ti 1169 = sXm := by unfold sXm; rw [ti_1169, ti_1070]
  obtain ⟨m1, m2, m3, m4, m5, m6⟩ := hA.2 i hi
  obtain ⟨n1, n2, n3, n4⟩ := hE.2 n he
  have hpar := hp n he
  obtain ⟨p, hdp⟩ := Option.isSome_iff_exists.mp hdc
  obtain ⟨hpn, hpm⟩ := nm3_z hdp h3
  have hidl : idl (EN el at_ (el.getD n elD).2.1) (at_.getD i atD) = decide ((at_.getD i atD).2.1 = EN el at_ (el.getD n elD).2.1 p) := by unfold idl; rw [hdp]
  rw [hidl] at hq
  -- the end: compare with what held before
  have cmp : ∀ w : Int, MNg at_ w (EN el at_ (el.getD n elD).2.1 p) → w_KWriter_compareMeanings L (i : Int) w (fun v14 σ13 => R (if v14 = 0 then (0 : Int) else (1 : Int)) σ13) σ := fun w hw => by
    refine sp_K_cmpM h17 hD hV (Or.inr (Or.inr ⟨i, rfl, hi, rfl⟩)) hw (fun v _ v2 => ?_)
    by_cases c : (at_.getD i atD).2.1 = EN el at_ (el.getD n elD).2.1 p
    · rw [if_pos (v2.mpr c)]
      rw [decide_eq_true c] at hq
      exact hq
    · rw [if_neg (fun z => c (v2.mp z))]
      rw [decide_eq_false c] at hq
      exact hq
  have bef : ∀ (z : Int), KQ bk z p → p ≠ sXm → (∀ v3 : Int, (if v3 = 0 then σ.2 (rfo o 13) i else (-1 : Int)) = z → (dyD (σ.1 17 1) ∧ inL L (rfo (Int.toNat (σ.1 17 1)) 4) (n : Int) ∧ WJ (fun (s11 : Int) (σ12 : IS) => w_KWriter_compareMeanings L (i : Int) s11 (fun v14 σ13 => R (if v14 = 0 then (0 : Int) else (1 : Int)) σ13) σ12) (fun J9 => if (σ.2 (rfo (Int.toNat (σ.1 17 1)) 4) (Int.toNat (n : Int))) < 0 then J9 (-1) σ else inL L (rfo (Int.toNat (σ.1 17 1)) 4) (n : Int) ∧ ((v3 = 0 → inL L (rfo (Int.toNat (σ.1 17 1)) 13) (i : Int))) ∧ w_KDoc_saying L (Int.toNat (σ.1 17 1)) (σ.2 (rfo (Int.toNat (σ.1 17 1)) 4) (Int.toNat (n : Int))) (if v3 = 0 then (σ.2 (rfo (Int.toNat (σ.1 17 1)) 13) (Int.toNat (i : Int))) else ((-1) : Int)) (fun v22 σ21 => J9 v22 σ21) σ))) := fun z hz hzm v3 hv3 => by
    rw [h17, show Int.toNat (o : Int) = o from rfl, show Int.toNat (n : Int) = n from rfl, show Int.toNat (i : Int) = i from rfl, n2, hv3]
    have hin : inL L (rfo o 4) (n : Int) := ⟨by omega, by rw [l3 4 (by omega) (by omega)]; omega⟩
    refine ⟨hdy, hin, WJ_dir ?_⟩
    try dsimp only
    by_cases c : (el.getD n elD).2.1 < 0
    · rw [if_pos c]
      refine cmp _ (Or.inr (Or.inl ⟨rfl, ?_⟩))
      rw [show (el.getD n elD).2.1 = -1 by omega, EN_neg, env0_q hzm]
    · rw [if_neg c]
      exact ⟨hin, fun _ => ⟨by omega, by rw [l8 13 (by omega) (by omega)]; omega⟩, sp_K4_saying hD ⟨by omega, by omega⟩ hz hzm hpn (fun r hS => cmp r (hS.mn hzm))⟩
  unfold w_KWriter_isNews
  rw [h17, show Int.toNat (o : Int) = o from rfl, show Int.toNat (i : Int) = i from rfl]
  refine ⟨hdy, ⟨by omega, by omega⟩, sp_K4_says hLn hb m1 ?_⟩
  try dsimp only
  rw [e70]
  refine WJ_dir ?_
  try dsimp only
  by_cases c1 : (at_.getD i atD).1 = sXn
  · rw [decide_eq_true c1, if_neg (by decide)]
    have hp0 : p = [] := by
      rw [dcl_no (by rw [c1]; exact okq_XN), if_pos c1] at hdp
      exact (Option.some.inj hdp).symm
    have hm0 : p ≠ sXm := by rw [hp0]; unfold sXm; rw [ti_1070]; intro z; cases z
    exact bef (-1) (Or.inl ⟨rfl, hp0⟩) hm0 (b1 true) rfl
  · rw [decide_eq_false c1, if_pos (by decide)]
    have hok : okq (at_.getD i atD).1 := by
      by_cases c : okq (at_.getD i atD).1
      · exact c
      · rw [dcl_no c, if_neg c1] at hdp; cases hdp
    have hpl2 : p = lcl (at_.getD i atD).1 := by
      rw [dcl_ok hok] at hdp
      split at hdp
      · exact (Option.some.inj hdp).symm
      · cases hdp
    rw [h17, show Int.toNat (o : Int) = o from rfl]
    refine ⟨hdy, ⟨by omega, by rw [l8 13 (by omega) (by omega)]; omega⟩, sp_K4_says hLn hb m6 ?_⟩
    try dsimp only
    rw [e69, ← hpl2]
    by_cases c2 : p = sXm
    · rw [decide_eq_true c2, if_neg (by decide)]
      rw [decide_eq_true (by rw [c2, EN_x (Or.inl rfl), sXm_env]; exact hpm.mp c2)] at hq
      exact hq
    · rw [decide_eq_false c2, if_pos (by decide)]
      exact bef _ (Or.inr ⟨by rw [hpl2]; exact m6, by rw [hpl2]; exact lcl_ok hok⟩) c2 (b1 false) rfl
/-- the prefix that was looked up last -/
def LPm (at_ : List Att) (bk : List Str) (E : Str → Str) (σ : IS) : Prop := σ.1 17 10 = -2 ∨ (σ.1 17 10 = -1 ∧ MNg at_ (σ.1 17 11) []) ∨ ∃ q, Kn bk (σ.1 17 10) q ∧ MNg at_ (σ.1 17 11) (E q)
/-- only that has changed -/
def WKl (σ τ : IS) : Prop := (∀ p k, ¬ (p = 17 ∧ (k = 10 ∨ k = 11)) → τ.1 p k = σ.1 p k) ∧ τ.2 = σ.2
theorem WKl.wx (h : WKl σ τ) : WKx σ τ := ⟨fun p k a _ => h.1 p k (fun z => a z.1), fun k a => h.1 17 k (by omega), fun r _ _ _ => by rw [h.2]⟩
theorem sp_K_meaning {n i : Nat} (h17 : σ.1 17 1 = (o : Int)) (hD : KD4 L o σ bk pl ad el at_) (he : n < el.length) (hi : i < at_.length) (hx : x = (n : Int)) (hy : y = (i : Int)) (hdc : dcl (at_.getD i atD).1 = none) (hP : LPm at_ bk (EN el at_ (n : Int)) σ) (hq : ∀ v τ, WKl σ τ → LPm at_ bk (EN el at_ (n : Int)) τ → MNg at_ v (mng (EN el at_ (n : Int)) (at_.getD i atD).1) → R v τ) : w_KWriter_meaning L x y R σ := by
  subst hx hy
  have hD' := hD
  obtain ⟨hLn, hb, hE, hA, hp, hd, hal, hel, hpl, hpool⟩ := hD'
  obtain ⟨l8, l8', l8''⟩ : (∀ k, 8 ≤ k → k ≤ 13 → L (rfo o k) = L (rfo o 8)) ∧ 16500 ≤ L (rfo o 8) ∧ L (rfo o 8) ≤ 32768 := by obtain ⟨-, -, -, -, -, -, -, -, -, -, -, -, -, -, -, -, -, x, -⟩ := hLn; exact x
  have ho := hLn.oo
  have hdy : dyD (o : Int) := by unfold dyD; rcases ho with y | y <;> rw [y] <;> decide
  have e69 : ti 1169 = sXm := by unfold sXm; rw [ti_1169, ti_1070]
  obtain ⟨m1, m2, m3, m4, m5, m6⟩ := hA.2 i hi
  unfold w_KWriter_meaning
  rw [h17, show Int.toNat (o : Int) = o from rfl, show Int.toNat (i : Int) = i from rfl]
  refine ⟨hdy, ⟨by omega, by rw [l8 12 (by omega) (by omega)]; omega⟩, WJ_dir ?_⟩
  try dsimp only
  by_cases c : σ.2 (rfo o 12) i = σ.1 17 10
  · rw [if_pos c]
    refine hq _ σ ⟨fun _ _ _ => rfl, rfl⟩ hP ?_
    rcases m5 with ⟨k1, k2⟩ | ⟨k1, k2⟩
    · have := k2.1
      rcases hP with z | ⟨z, -⟩ | ⟨q', z1, z2⟩
      · omega
      · omega
      · rw [c] at k2
        have e : q' = pfx (at_.getD i atD).1 := by
          have := z1.2.symm.trans k2.2
          exact Option.some.inj this
        rw [mng_ok k1, ← e]
        exact z2
    · rcases hP with z | ⟨z1, z2⟩ | ⟨q', z1, z2⟩
      · omega
      · rw [mng_no k1]; exact z2
      · have := z1.1; omega
  · rw [if_neg c]
    have hX : ∀ v, WKl σ (pf (pf σ 17 10 (σ.2 (rfo o 12) i)) 17 11 v) := fun v => ⟨fun p k a => by rw [pf_1, if_neg (fun z => a ⟨z.1, Or.inr z.2⟩), pf_1, if_neg (fun z => a ⟨z.1, Or.inl z.2⟩)], rfl⟩
    refine WJ_dir ?_
    try dsimp only
    have fin : ∀ v, MNg at_ v (mng (EN el at_ (n : Int)) (at_.getD i atD).1) → ((pf (pf σ 17 10 (σ.2 (rfo o 12) i)) 17 11 v).1 17 11 = v) ∧ R v (pf (pf σ 17 10 (σ.2 (rfo o 12) i)) 17 11 v) := fun v hv => by
      refine ⟨pf_eq, hq v _ (hX v) ?_ hv⟩
      rcases m5 with ⟨k1, k2⟩ | ⟨k1, k2⟩
      · refine Or.inr (Or.inr ⟨pfx (at_.getD i atD).1, ?_, ?_⟩)
        · rw [pf_nk (by decide), pf_eq]; exact k2
        · rw [pf_eq]; rw [mng_ok k1] at hv; exact hv
      · refine Or.inr (Or.inl ⟨?_, ?_⟩)
        · rw [pf_nk (by decide), pf_eq]; exact k2
        · rw [pf_eq]; rw [mng_no k1] at hv; exact hv
    have fin' : ∀ v, MNg at_ v (mng (EN el at_ (n : Int)) (at_.getD i atD).1) → R ((pf (pf σ 17 10 (σ.2 (rfo o 12) i)) 17 11 v).1 17 11) (pf (pf σ 17 10 (σ.2 (rfo o 12) i)) 17 11 v) := fun v hv => by
      rw [(fin v hv).1]; exact (fin v hv).2
    rcases m5 with ⟨k1, k2⟩ | ⟨k1, k2⟩
    · have k3 := k2.1
      have hX1 : WKx σ (pf σ 17 10 (σ.2 (rfo o 12) i)) := ⟨fun p k a _ => pf_no a, fun k a => pf_nk (by omega), fun _ _ _ _ => rfl⟩
      have hD1 := hD.wk hX1
      rw [if_neg (by omega)]
      refine sp_K4_says hLn hD1.2.1 k2 ?_
      try dsimp only
      rw [e69]
      by_cases c2 : pfx (at_.getD i atD).1 = sXm
      · rw [decide_eq_true c2, if_neg (by decide)]
        refine fin' _ (Or.inl ⟨rfl, ?_⟩)
        rw [mng_ok k1, c2, EN_x (Or.inl rfl), sXm_env]
      · rw [decide_eq_false c2, if_pos (by decide), pf_nk (by decide), h17, show Int.toNat (o : Int) = o from rfl]
        refine ⟨hdy, sp_K4_saying hD1 ⟨by omega, by omega⟩ (Or.inr ⟨k2, (pfx_okq k1).2⟩) c2 (fun z => ?_) (fun r hS => fin' r ?_)⟩
        · rw [dcl_ok k1, if_pos z] at hdc; cases hdc
        · rw [mng_ok k1]; exact hS.mn c2
    · rw [if_pos (by omega)]
      exact fin' _ (Or.inr (Or.inl ⟨rfl, mng_no k1⟩))
end Kwe
