/-! ===== violations of namespaces: names (0, 1, 2, 4) ===== -/
noncomputable def nm0 (s : Str) : Nat := if prf s = none then 1 else 0
noncomputable def nm1 (E : Str → Str) (s : Str) : Nat := if pfx s ≠ [] ∧ pfx s ≠ sXn ∧ E (pfx s) = [] then 1 else 0
/-- one before has the same name -/
noncomputable def bfr (E : Str → Str) (at_ : List Att) (f i : Nat) : Bool := (List.range i).any (fun j => decide (lcl (at_.getD (f + j) atD).1 = lcl (at_.getD (f + i) atD).1) && decide (mng E (at_.getD (f + j) atD).1 = mng E (at_.getD (f + i) atD).1))
noncomputable def nm2 (E : Str → Str) (at_ : List Att) (f i : Nat) : Nat := if mng E (at_.getD (f + i) atD).1 ≠ [] ∧ bfr E at_ f i = true then 1 else 0
noncomputable def nm4 (s : Str) : Nat := if pfx s = sXn then 1 else 0
/-- the counts of names of an element -/
noncomputable def snE (E : Str → Str) (at_ : List Att) (x : Elm) (k n : Nat) : Nat :=
  if k = 0 then nm0 x.1 + sn (fun i => nm0 (at_.getD (x.2.2.1 + i) atD).1) n
  else if k = 1 then nm1 E x.1 + sn (fun i => nm1 E (at_.getD (x.2.2.1 + i) atD).1) n
  else if k = 2 then sn (nm2 E at_ x.2.2.1) n
  else if k = 4 then nm4 x.1
  else 0
/-- only counts of namespaces have changed -/
def NCx (σ τ : IS) : Prop := τ.1 = σ.1 ∧ ∀ r, r ≠ 160 → τ.2 r = σ.2 r
section Nms
variable {L : Nat → Nat} {σ τ υ : IS} {el : List Elm} {at_ : List Att} {E : Str → Str} {Q : IS → Prop}
theorem nm0_le {s : Str} : nm0 s ≤ 1 := by unfold nm0; split <;> omega
theorem nm1_le {s : Str} : nm1 E s ≤ 1 := by unfold nm1; split <;> omega
theorem nm2_le {f i : Nat} : nm2 E at_ f i ≤ 1 := by unfold nm2; split <;> omega
theorem nm4_le {s : Str} : nm4 s ≤ 1 := by unfold nm4; split <;> omega
theorem NCx.refl : NCx σ σ := ⟨rfl, fun _ _ => rfl⟩
theorem NCx.trans (h1 : NCx σ τ) (h2 : NCx τ υ) : NCx σ υ := ⟨h2.1.trans h1.1, fun r a => (h2.2 r a).trans (h1.2 r a)⟩
theorem NCx.prE {i : Nat} {x : Int} (h : NCx σ τ) : NCx σ (pr τ 160 i x) := ⟨h.1, fun q a => by
  rw [← h.2 q a]
  funext j
  rw [pr_2, if_neg (fun z => a z.1)]⟩
theorem NCx.jwE (h : NCx σ τ) : jw τ = jw σ := by unfold jw; rw [h.1]
theorem NCx.wstE (h : NCx σ τ) (w : Nat) : wst τ w = wst σ w := by unfold wst wfr wsz; rw [h.2 101 (by decide), h.2 102 (by decide), h.2 103 (by decide)]
theorem NCx.jnI (h : NCx σ τ) {x : Int} {s : Str} : Jn τ x s ↔ Jn σ x s := by
  unfold Jn
  rw [h.jwE]
  constructor
  · rintro ⟨w, a, b, c⟩
    exact ⟨w, a, b, by rw [← h.wstE]; exact c⟩
  · rintro ⟨w, a, b, c⟩
    exact ⟨w, a, b, by rw [h.wstE]; exact c⟩
theorem NCx.si (h : NCx σ τ) (hS : SI L σ) : SI L τ := (SI_of hS (σ' := τ) (by rw [h.1]) (by rw [h.1]; have := hS.1; omega) (fun r y1 y2 => h.2 r (by omega)) (fun i _ => by rw [h.2 101 (by decide)])).1
theorem NCx.spo (h : NCx σ τ) {x : Int} {s : Str} (hs : SPo σ x s) : SPo τ x s := by
  obtain ⟨w, a, b, c, d⟩ := hs
  refine ⟨w, a, by rw [h.jwE]; exact b, by rw [h.wstE]; exact c, ?_⟩
  unfold SPW at d ⊢
  rw [h.wstE, h.2 156 (by decide), h.2 157 (by decide)]
  refine ⟨?_, h.jnI.mpr d.2⟩
  rcases d.1 with y | ⟨p, y1, y2⟩
  · exact Or.inl y
  · exact Or.inr ⟨p, y1, h.jnI.mpr y2⟩
theorem NCx.tr (h : NCx σ τ) (ht : MTr L σ el at_) : MTr L τ el at_ := by
  obtain ⟨a, b, c, d⟩ := ht
  refine ⟨h.si a, ?_, fun i hi => ?_, fun i hi => ?_⟩
  · unfold CWd at b ⊢
    rw [h.jwE, h.wstE, h.wstE, h.wstE, h.wstE, h.wstE]
    exact b
  · rw [h.2 146 (by decide), h.2 129 (by decide), h.2 130 (by decide), h.2 131 (by decide)]
    exact ⟨h.spo (c i hi).1, (c i hi).2⟩
  · rw [h.2 161 (by decide), h.2 134 (by decide)]
    exact ⟨h.spo (d i hi).1, h.jnI.mpr (d i hi).2⟩
theorem NCx.mep (h : NCx σ τ) (hE : MEp σ E) : MEp τ E := fun w hw => by
  rw [h.2 158 (by decide), h.wstE]
  exact h.jnI.mpr (hE w (by rw [← h.jwE]; exact hw))
theorem sp_Meanings_countName {x : Int} {s : Str} (hS : SI L σ) (hl : SL L) (h6 : L 156 = L 102 ∧ L 158 = L 102) (l160 : L 160 = 6) (hC : CWd σ) (hx : SPo σ x s) (hE : MEp σ E) (hc : ∀ k, k < 2 → 0 ≤ σ.2 160 k ∧ σ.2 160 k ≤ 1000000000) (hq : ∀ σ', NCx σ σ' → (∀ k, σ'.2 160 k = σ.2 160 k + ((if k = 0 then nm0 s else if k = 1 then nm1 E s else 0 : Nat) : Int)) → Q σ') : w_Meanings_countName L x Q σ := by
  have hj := hS.jw_le
  obtain ⟨w, hw1, hw2, hw3, hw4⟩ := id hx
  unfold w_Meanings_countName
  refine sp_Meanings_prefix hS hl h6.1 hC hx (fun v hv => ?_)
  have v0 : v = 0 ↔ pfx s = [] := by
    have h := Jn_num (w := 0) hS hv (by have := hC.1; omega)
    rw [hC.2.1] at h
    exact h
  have v7 : v = 7 ↔ pfx s = sXn := by
    have h := Jn_num (w := 7) hS hv (by have := hC.1; omega)
    rw [hC.2.2.2.1] at h
    exact h
  obtain ⟨u, u1, u2, u3⟩ := id hv
  rw [hw1, show Int.toNat (w : Int) = w from rfl, show Int.toNat 0 = 0 from rfl, show Int.toNat 1 = 1 from rfl]
  have e0 : (if σ.2 156 w = -1 then (1 : Int) else 0) = (nm0 s : Int) := by
    unfold nm0
    have h4 := hw4.1
    rw [hw3] at h4
    rcases h4 with ⟨y1, y2⟩ | ⟨p, y1, y2⟩
    · rw [if_pos y2, if_pos y1]; rfl
    · have := y2.rng hS
      rw [if_neg (by omega), if_neg (by rw [y1]; simp)]; rfl
  have e1 : (if v = 0 then (0 : Int) else (if v = 7 then (0 : Int) else (if σ.2 158 (Int.toNat v) = 0 then (1 : Int) else 0))) = (nm1 E s : Int) := by
    unfold nm1
    by_cases y : pfx s = []
    · rw [if_pos (v0.mpr y), if_neg (fun z => z.1 y)]; rfl
    · rw [if_neg (fun z => y (v0.mp z))]
      by_cases y7 : pfx s = sXn
      · rw [if_pos (v7.mpr y7), if_neg (fun z => z.2.1 y7)]; rfl
      · rw [if_neg (fun z => y7 (v7.mp z)), u1, show Int.toNat (u : Int) = u from rfl]
        have hm := hE u u2
        rw [u3] at hm
        have hm0 : σ.2 158 u = 0 ↔ E (pfx s) = [] := by
          have h := Jn_num (w := 0) hS hm (by have := hC.1; omega)
          rw [hC.2.1] at h
          exact h
        by_cases y8 : E (pfx s) = []
        · rw [if_pos (hm0.mpr y8), if_pos ⟨y, y7, y8⟩]; rfl
        · rw [if_neg (fun z => y8 (hm0.mp z)), if_neg (fun z => y8 z.2.2)]; rfl
  have g1 : ∀ z, (pr σ 160 0 z).2 160 1 = σ.2 160 1 := fun z => by rw [pr_2, if_neg (by omega)]
  rw [e0, e1, g1]
  have c0 := hc 0 (by omega)
  have c1 := hc 1 (by omega)
  have b0 := nm0_le (s := s)
  have b1' := nm1_le (E := E) (s := s)
  refine ⟨⟨by omega, by omega⟩, ⟨by omega, by omega⟩, ⟨by omega, by omega⟩, ⟨by omega, by omega⟩, ⟨by omega, by omega⟩, fun _ _ => ⟨by omega, by omega⟩, ⟨by omega, by omega⟩, ⟨by omega, by omega⟩, hq _ NCx.refl.prE.prE (fun k => ?_)⟩
  rw [pr_2]
  by_cases y1 : k = 1
  · rw [if_pos ⟨rfl, y1⟩, if_neg (by omega), if_pos y1, y1]
  · rw [if_neg (fun z => y1 z.2), pr_2]
    by_cases y0 : k = 0
    · rw [if_pos ⟨rfl, y0⟩, if_pos y0, y0]
    · rw [if_neg (fun z => y0 z.2), if_neg y0, if_neg y1]
      simp
theorem sp_Meanings_hasBefore {Q : Int → IS → Prop} {e i : Nat} (hL : MLm L el at_) (ht : MTr L σ el at_) (he : e < el.length) (hi : i < (el.getD e elD).2.2.2.1) (hE : MEp σ E) (hq : Q (b1 (bfr E at_ (el.getD e elD).2.2.1 i)) σ) : w_Meanings_hasBefore L (e : Int) (((el.getD e elD).2.2.1 + i : Nat) : Int) Q σ := by
  obtain ⟨hsl, ⟨l6, l7, l8⟩, ⟨m1, m2, m3, m4, m5⟩, ⟨n1, n2, n3, n4⟩, l160, hC⟩ := id hL
  obtain ⟨hS, hCW, hEl, hAt⟩ := id ht
  obtain ⟨x146, x129, x130, x131⟩ := hEl e he
  have hCe := hC (el.getD e elD) (by rw [List.getD_eq_getElem?_getD, List.getElem?_eq_getElem he]; exact List.getElem_mem he)
  generalize hx : el.getD e elD = x at *
  unfold w_Meanings_hasBefore
  rw [show Int.toNat (e : Int) = e from rfl, x130]
  refine ⟨⟨by omega, by omega⟩, ?_⟩
  refine WL_ind (fun s τ => ∃ j : Nat, s = ((x.2.2.1 + j : Nat) : Int) ∧ j ≤ i ∧ σ = τ ∧ (List.range j).any (fun j => decide (lcl (at_.getD (x.2.2.1 + j) atD).1 = lcl (at_.getD (x.2.2.1 + i) atD).1) && decide (mng E (at_.getD (x.2.2.1 + j) atD).1 = mng E (at_.getD (x.2.2.1 + i) atD).1)) = false) (fun s _ => ((x.2.2.1 + i : Nat) - s).toNat) ?_ _ σ ⟨0, by omega, Nat.zero_le _, rfl, rfl⟩
  rintro _ τ ⟨j, rfl, hj, rfl, hno⟩ K hK
  by_cases c : j < i
  · rw [if_pos (by omega)]
    have y1 := (hAt (x.2.2.1 + j) (by omega)).1
    have y2 := (hAt (x.2.2.1 + i) (by omega)).1
    have hnx : (decide (lcl (at_.getD (x.2.2.1 + j) atD).1 = lcl (at_.getD (x.2.2.1 + i) atD).1) && decide (mng E (at_.getD (x.2.2.1 + j) atD).1 = mng E (at_.getD (x.2.2.1 + i) atD).1)) = false → inR (((x.2.2.1 + j : Nat) : Int) + 1) ∧ K (((x.2.2.1 + j : Nat) : Int) + 1) σ := fun h => ⟨⟨by omega, by omega⟩, hK _ _ ⟨j + 1, by omega, by omega, rfl, by rw [any_s, hno, h]; rfl⟩ (by omega)⟩
    have hyes : (decide (lcl (at_.getD (x.2.2.1 + j) atD).1 = lcl (at_.getD (x.2.2.1 + i) atD).1) && decide (mng E (at_.getD (x.2.2.1 + j) atD).1 = mng E (at_.getD (x.2.2.1 + i) atD).1)) = true → Q 1 σ := fun h => by
      have hb : bfr E at_ x.2.2.1 i = true := by
        unfold bfr
        rw [List.any_eq_true]
        exact ⟨j, List.mem_range.mpr c, h⟩
      rw [hb] at hq
      exact hq
    refine sp_Meanings_local hS l7 (by omega) y1 (fun v hv => sp_Meanings_local hS l7 (by omega) y2 (fun v' hv' => WJ_dir ?_))
    by_cases cl : lcl (at_.getD (x.2.2.1 + j) atD).1 = lcl (at_.getD (x.2.2.1 + i) atD).1
    · rw [if_pos (Jn.inj hS hv (by rw [cl]; exact hv'))]
      refine sp_Meanings_meaning hS hsl ⟨l6, l8⟩ hCW (by omega) y1 hE (fun z hz => sp_Meanings_meaning hS hsl ⟨l6, l8⟩ hCW (by omega) y2 hE (fun z' hz' => ?_))
      by_cases cm : mng E (at_.getD (x.2.2.1 + j) atD).1 = mng E (at_.getD (x.2.2.1 + i) atD).1
      · rw [if_pos (Jn.inj hS hz (by rw [cm]; exact hz'))]
        exact hyes (by rw [decide_eq_true cl, decide_eq_true cm]; rfl)
      · rw [if_neg (fun y => cm (Jn.fun hz (by rw [y]; exact hz')))]
        exact hnx (by rw [decide_eq_false cm, Bool.and_false])
    · rw [if_neg (fun y => cl (Jn.fun hv (by rw [y]; exact hv')))]
      exact hnx (by rw [decide_eq_false cl, Bool.false_and])
  · rw [if_neg (by omega)]
    have ej : j = i := by omega
    rw [ej] at hno
    have hb : bfr E at_ x.2.2.1 i = false := hno
    rw [hb] at hq
    exact hq
set_option maxHeartbeats 1000000 in
theorem sp_Meanings_countNames {e : Nat} (hL : MLm L el at_) (ht : MTr L σ el at_) (he : e < el.length) (hE : MEp σ E) (hc : ∀ k, k < 6 → 0 ≤ σ.2 160 k ∧ σ.2 160 k ≤ 900000000) (hq : ∀ σ', NCx σ σ' → (∀ k, σ'.2 160 k = σ.2 160 k + (snE E at_ (el.getD e elD) k (el.getD e elD).2.2.2.1 : Int)) → Q σ') : w_Meanings_countNames L (e : Int) Q σ := by
  obtain ⟨hsl, ⟨l6, l7, l8⟩, ⟨m1, m2, m3, m4, m5⟩, ⟨n1, n2, n3, n4⟩, l160, hC⟩ := id hL
  obtain ⟨hS, hCW, hEl, hAt⟩ := id ht
  obtain ⟨x146, x129, x130, x131⟩ := hEl e he
  have hCe := hC (el.getD e elD) (by rw [List.getD_eq_getElem?_getD, List.getElem?_eq_getElem he]; exact List.getElem_mem he)
  have hHB : ∀ i, i < (el.getD e elD).2.2.2.1 → ∀ (τ : IS) (R : Int → IS → Prop), MTr L τ el at_ → MEp τ E → R (b1 (bfr E at_ (el.getD e elD).2.2.1 i)) τ → w_Meanings_hasBefore L (e : Int) (((el.getD e elD).2.2.1 + i : Nat) : Int) R τ := fun i hi τ R h1 h2 h3 => sp_Meanings_hasBefore hL h1 he hi h2 h3
  generalize hx : el.getD e elD = x at *
  have c4 := hc 4 (by omega)
  have s0 : ∀ k n, snE E at_ x k (n + 1) = snE E at_ x k n + (if k = 0 then nm0 (at_.getD (x.2.2.1 + n) atD).1 else if k = 1 then nm1 E (at_.getD (x.2.2.1 + n) atD).1 else if k = 2 then nm2 E at_ x.2.2.1 n else 0) := fun k n => by
    unfold snE
    split
    · rw [sn_s]; omega
    · split
      · rw [sn_s]; omega
      · split
        · rw [sn_s]
        · split <;> rfl
  have sle : ∀ k n, snE E at_ x k n ≤ n + 1 := fun k n => by
    have b0 := nm0_le (s := x.1)
    have b1' := nm1_le (E := E) (s := x.1)
    have b4 := nm4_le (s := x.1)
    have q0 := sn_le (f := fun i => nm0 (at_.getD (x.2.2.1 + i) atD).1) (m := 1) (fun _ => nm0_le) n
    have q1 := sn_le (f := fun i => nm1 E (at_.getD (x.2.2.1 + i) atD).1) (m := 1) (fun _ => nm1_le) n
    have q2 := sn_le (f := nm2 E at_ x.2.2.1) (m := 1) (fun _ => nm2_le) n
    unfold snE
    repeat' split
    all_goals omega
  unfold w_Meanings_countNames
  rw [show Int.toNat (e : Int) = e from rfl]
  refine ⟨⟨by omega, by omega⟩, sp_Meanings_countName hS hsl ⟨l6, l8⟩ l160 hCW x146 hE (fun k hk => ⟨(hc k (by omega)).1, by have := (hc k (by omega)).2; omega⟩) (fun σ1 a1 a2 => ?_)⟩
  have t1 := a1.tr ht
  refine ⟨⟨by omega, by omega⟩, ⟨by omega, by omega⟩, sp_Meanings_prefix t1.1 hsl l6 t1.2.1 (t1.2.2.1 e he).1 (fun v hv => ?_)⟩
  rw [hx] at hv
  have v7 : v = 7 ↔ pfx x.1 = sXn := by
    have h := Jn_num (w := 7) t1.1 hv (by have := t1.2.1.1; omega)
    rw [t1.2.1.2.2.2.1] at h
    exact h
  have e4 : (if v = 7 then (1 : Int) else 0) = (nm4 x.1 : Int) := by
    unfold nm4
    by_cases y : pfx x.1 = sXn
    · rw [if_pos (v7.mpr y), if_pos y]; rfl
    · rw [if_neg (fun z => y (v7.mp z)), if_neg y]; rfl
  have b4 := nm4_le (s := x.1)
  have a24 := a2 4
  rw [if_neg (by decide), if_neg (by decide)] at a24
  rw [e4, show Int.toNat 4 = 4 from rfl, a1.2 130 (by decide), x130]
  refine ⟨⟨by omega, by omega⟩, ⟨by omega, by omega⟩, ⟨by omega, by omega⟩, ?_⟩
  refine WL_ind (fun s τ => ∃ i : Nat, s = ((x.2.2.1 + i : Nat) : Int) ∧ i ≤ x.2.2.2.1 ∧ NCx σ τ ∧ ∀ k, τ.2 160 k = σ.2 160 k + (snE E at_ x k i : Int)) (fun s _ => ((x.2.2.1 + x.2.2.2.1 : Nat) - s).toNat) ?_ _ _ ⟨0, by omega, Nat.zero_le _, a1.prE, fun k => ?_⟩
  · rintro _ τ ⟨i, rfl, hi, r1, r2⟩ K hK
    rw [r1.2 130 (by decide), r1.2 131 (by decide), x130, x131]
    refine ⟨⟨by omega, by omega⟩, ⟨by omega, by omega⟩, ⟨by omega, by omega⟩, ?_⟩
    by_cases c : i < x.2.2.2.1
    · rw [if_pos (by omega), show Int.toNat ((x.2.2.1 + i : Nat) : Int) = x.2.2.1 + i from rfl]
      have tt := r1.tr ht
      have hA := tt.2.2.2 (x.2.2.1 + i) (by omega)
      have hb : ∀ k, k < 6 → 0 ≤ τ.2 160 k ∧ τ.2 160 k ≤ 950000000 := fun k hk => by
        have := hc k hk
        have := sle k i
        rw [r2 k]
        omega
      refine ⟨⟨by omega, by omega⟩, sp_Meanings_countName tt.1 hsl ⟨l6, l8⟩ l160 tt.2.1 hA.1 (r1.mep hE) (fun k hk => ⟨(hb k (by omega)).1, by have := (hb k (by omega)).2; omega⟩) (fun τ1 d1 d2 => ?_)⟩
      have r1' := r1.trans d1
      have tt1 := r1'.tr ht
      refine sp_Meanings_meaning tt1.1 hsl ⟨l6, l8⟩ tt1.2.1 (by omega) (tt1.2.2.2 (x.2.2.1 + i) (by omega)).1 (r1'.mep hE) (fun z hz => WJ_dir ?_)
      have z0 : z = 0 ↔ mng E (at_.getD (x.2.2.1 + i) atD).1 = [] := by
        have h := Jn_num (w := 0) tt1.1 hz (by have := tt1.2.1.1; omega)
        rw [tt1.2.1.2.1] at h
        exact h
      have d22 := d2 2
      rw [if_neg (by decide), if_neg (by decide)] at d22
      have hb2 := hb 2 (by omega)
      have hgo : ∀ τ2, NCx σ τ2 → (∀ k, τ2.2 160 k = τ1.2 160 k + if k = 2 then (nm2 E at_ x.2.2.1 i : Int) else 0) → inR (((x.2.2.1 + i : Nat) : Int) + 1) ∧ K (((x.2.2.1 + i : Nat) : Int) + 1) τ2 := fun τ2 g1 g2 => by
        refine ⟨⟨by omega, by omega⟩, hK _ _ ⟨i + 1, by omega, by omega, g1, fun k => ?_⟩ (by omega)⟩
        rw [g2 k, d2 k, r2 k, s0 k i]
        by_cases y2 : k = 2
        · rw [if_pos y2, if_neg (by omega), if_neg (by omega), if_neg (by omega), if_neg (by omega), if_pos y2]; omega
        · rw [if_neg y2, if_neg y2]; omega
      by_cases y : mng E (at_.getD (x.2.2.1 + i) atD).1 = []
      · rw [if_pos (z0.mpr y)]
        refine hgo τ1 r1' (fun k => ?_)
        have : nm2 E at_ x.2.2.1 i = 0 := by unfold nm2; rw [if_neg (fun w => w.1 y)]
        rw [this]
        split <;> simp
      · rw [if_neg (fun w => y (z0.mp w))]
        refine hHB i c τ1 _ tt1 (r1'.mep hE) ?_
        cases hbf : bfr E at_ x.2.2.1 i with
        | false =>
          rw [if_pos (by decide)]
          refine hgo τ1 r1' (fun k => ?_)
          have : nm2 E at_ x.2.2.1 i = 0 := by unfold nm2; rw [if_neg (fun w => by rw [hbf] at w; cases w.2)]
          rw [this]
          split <;> simp
        | true =>
          have hn2 : nm2 E at_ x.2.2.1 i = 1 := by unfold nm2; rw [if_pos ⟨y, hbf⟩]
          rw [if_neg (by decide), show Int.toNat 2 = 2 from rfl]
          refine ⟨⟨by omega, by omega⟩, ⟨by omega, by omega⟩, ⟨by omega, by omega⟩, hgo _ r1'.prE (fun k => ?_)⟩
          rw [pr_2, hn2]
          by_cases y2 : k = 2
          · rw [if_pos ⟨rfl, y2⟩, if_pos y2, y2]; rfl
          · rw [if_neg (fun w => y2 w.2), if_neg y2, Int.add_zero]
    · rw [if_neg (by omega)]
      have ei : i = x.2.2.2.1 := by omega
      rw [ei] at r2
      exact hq τ r1 r2
  · have hsn0 : ∀ f : Nat → Nat, sn f 0 = 0 := fun _ => rfl
    rw [pr_2]
    unfold snE
    by_cases y4 : k = 4
    · rw [if_pos ⟨rfl, y4⟩, a24, if_neg (by omega), if_neg (by omega), if_neg (by omega), if_pos y4, y4]; omega
    · rw [if_neg (fun z => y4 z.2), a2 k]
      by_cases y0 : k = 0
      · rw [if_pos y0, if_pos y0, hsn0]; omega
      · rw [if_neg y0, if_neg y0]
        by_cases y1 : k = 1
        · rw [if_pos y1, if_pos y1, hsn0]; omega
        · rw [if_neg y1, if_neg y1]
          by_cases y2 : k = 2
          · rw [if_pos y2, hsn0]
          · rw [if_neg y2, if_neg y4]
end Nms
