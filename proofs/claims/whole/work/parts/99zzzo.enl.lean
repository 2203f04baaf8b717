/-! ===== the class enters and leaves elements ===== -/
/-- what the tree and the names are, for prefixes -/
def MTr (L : Nat → Nat) (τ : IS) (el : List Elm) (at_ : List Att) : Prop := SI L τ ∧ CWd τ ∧ (∀ i, i < el.length → SPo τ (τ.2 146 i) (el.getD i elD).1 ∧ τ.2 129 i = (el.getD i elD).2.1 ∧ τ.2 130 i = ((el.getD i elD).2.2.1 : Int) ∧ τ.2 131 i = ((el.getD i elD).2.2.2.1 : Int)) ∧ (∀ i, i < at_.length → SPo τ (τ.2 161 i) (at_.getD i atD).1 ∧ Jn τ (τ.2 134 i) (at_.getD i atD).2.1)
/-- lengths -/
def MLm (L : Nat → Nat) (el : List Elm) (at_ : List Att) : Prop := SL L ∧ (L 156 = L 102 ∧ L 157 = L 102 ∧ L 158 = L 102) ∧ (el.length ≤ L 146 ∧ el.length ≤ L 129 ∧ el.length ≤ L 130 ∧ el.length ≤ L 131 ∧ el.length < 1000000) ∧ (at_.length ≤ L 161 ∧ at_.length ≤ L 134 ∧ at_.length ≤ L 159 ∧ at_.length < 1000000) ∧ L 160 = 6 ∧ ∀ x ∈ el, x.2.2.1 + x.2.2.2.1 ≤ at_.length
/-- only meanings have changed -/
def MNx (σ τ : IS) : Prop := (∀ o k, τ.1 o k = σ.1 o k) ∧ ∀ r, r ≠ 158 → r ≠ 159 → τ.2 r = σ.2 r
/-- what prefixes meant outside an element -/
def OUT (τ : IS) (at_ : List Att) (x : Elm) (E : Str → Str) : Prop := ∀ i, i < x.2.2.2.1 → ∀ p, dcl (at_.getD (x.2.2.1 + i) atD).1 = some p → Jn τ (τ.2 159 (x.2.2.1 + i)) (E p)
/-- no prefix is declared twice in an element -/
def DST (at_ : List Att) (x : Elm) : Prop := ∀ i j, i < j → j < x.2.2.2.1 → ∀ p, dcl (at_.getD (x.2.2.1 + i) atD).1 = some p → dcl (at_.getD (x.2.2.1 + j) atD).1 ≠ some p
section Mel
variable {L : Nat → Nat} {σ τ υ : IS} {el : List Elm} {at_ : List Att} {E : Str → Str} {Q : IS → Prop}
theorem MNx.refl : MNx σ σ := ⟨fun _ _ => rfl, fun _ _ _ => rfl⟩
theorem MNx.trans (h1 : MNx σ τ) (h2 : MNx τ υ) : MNx σ υ := ⟨fun o k => (h2.1 o k).trans (h1.1 o k), fun r a b => (h2.2 r a b).trans (h1.2 r a b)⟩
theorem MNx.pr {r i : Nat} {x : Int} (h : MNx σ τ) (hr : r = 158 ∨ r = 159) : MNx σ (pr τ r i x) := ⟨h.1, fun q a b => by
  rw [← h.2 q a b]
  funext j
  rw [pr_2, if_neg (by omega)]⟩
theorem MNx.jwE (h : MNx σ τ) : jw τ = jw σ := by unfold jw; rw [h.1]
theorem MNx.wstE (h : MNx σ τ) (w : Nat) : wst τ w = wst σ w := by unfold wst wfr wsz; rw [h.2 101 (by decide) (by decide), h.2 102 (by decide) (by decide), h.2 103 (by decide) (by decide)]
theorem MNx.jnI (h : MNx σ τ) {x : Int} {s : Str} : Jn τ x s ↔ Jn σ x s := by
  unfold Jn
  rw [h.jwE]
  constructor
  · rintro ⟨w, a, b, c⟩
    exact ⟨w, a, b, by rw [← h.wstE]; exact c⟩
  · rintro ⟨w, a, b, c⟩
    exact ⟨w, a, b, by rw [h.wstE]; exact c⟩
theorem MNx.si (h : MNx σ τ) (hS : SI L σ) : SI L τ := (SI_of hS (σ' := τ) (h.1 1 14) (by rw [h.1]; have := hS.1; omega) (fun r y1 y2 => h.2 r (by omega) (by omega)) (fun i _ => by rw [h.2 101 (by decide) (by decide)])).1
theorem MNx.spo (h : MNx σ τ) {x : Int} {s : Str} (hs : SPo σ x s) : SPo τ x s := by
  obtain ⟨w, a, b, c, d⟩ := hs
  refine ⟨w, a, by rw [h.jwE]; exact b, by rw [h.wstE]; exact c, ?_⟩
  unfold SPW at d ⊢
  rw [h.wstE, h.2 156 (by decide) (by decide), h.2 157 (by decide) (by decide)]
  refine ⟨?_, h.jnI.mpr d.2⟩
  rcases d.1 with y | ⟨p, y1, y2⟩
  · exact Or.inl y
  · exact Or.inr ⟨p, y1, h.jnI.mpr y2⟩
theorem MNx.tr (h : MNx σ τ) (ht : MTr L σ el at_) : MTr L τ el at_ := by
  obtain ⟨a, b, c, d⟩ := ht
  refine ⟨h.si a, ?_, fun i hi => ?_, fun i hi => ?_⟩
  · unfold CWd at b ⊢
    rw [h.jwE, h.wstE, h.wstE, h.wstE, h.wstE, h.wstE]
    exact b
  · rw [h.2 146 (by decide) (by decide), h.2 129 (by decide) (by decide), h.2 130 (by decide) (by decide), h.2 131 (by decide) (by decide)]
    exact ⟨h.spo (c i hi).1, (c i hi).2⟩
  · rw [h.2 161 (by decide) (by decide), h.2 134 (by decide) (by decide)]
    exact ⟨h.spo (d i hi).1, h.jnI.mpr (d i hi).2⟩
set_option maxHeartbeats 1000000 in
theorem sp_Meanings_enter {e : Nat} (hL : MLm L el at_) (ht : MTr L σ el at_) (he : e < el.length) (hD : DST at_ (el.getD e elD)) (hE : MEp σ E) (hz : ∀ w, jw σ ≤ w → w < L 155 → σ.2 158 w = 0) (hq : ∀ σ', MNx σ σ' → MEp σ' (ent2 E (ats at_ (el.getD e elD))) → OUT σ' at_ (el.getD e elD) E → (∀ w, jw σ ≤ w → w < L 155 → σ'.2 158 w = 0) → (∀ a, ¬ ((el.getD e elD).2.2.1 ≤ a ∧ a < (el.getD e elD).2.2.1 + (el.getD e elD).2.2.2.1) → σ'.2 159 a = σ.2 159 a) → Q σ') : w_Meanings_enter L (e : Int) Q σ := by
  obtain ⟨hsl, ⟨l6, l7, l8⟩, ⟨m1, m2, m3, m4, m5⟩, ⟨n1, n2, n3, n4⟩, l160, hC⟩ := id hL
  obtain ⟨hS, hCW, hEl, hAt⟩ := id ht
  obtain ⟨x146, x129, x130, x131⟩ := hEl e he
  have hCe := hC (el.getD e elD) (by rw [List.getD_eq_getElem?_getD, List.getElem?_eq_getElem he]; exact List.getElem_mem he)
  have hj := hS.jw_le
  generalize hx : el.getD e elD = x at *
  unfold w_Meanings_enter
  rw [show Int.toNat (e : Int) = e from rfl, x130]
  refine ⟨⟨by omega, by omega⟩, ?_⟩
  refine WL_ind (fun s τ => ∃ i : Nat, s = ((x.2.2.1 + i : Nat) : Int) ∧ i ≤ x.2.2.2.1 ∧ MNx σ τ ∧ MEp τ (ent2 E ((ats at_ x).take i)) ∧ (∀ j, j < i → ∀ p, dcl (at_.getD (x.2.2.1 + j) atD).1 = some p → Jn τ (τ.2 159 (x.2.2.1 + j)) (E p)) ∧ (∀ w, jw σ ≤ w → w < L 155 → τ.2 158 w = 0) ∧ ∀ a, ¬ (x.2.2.1 ≤ a ∧ a < x.2.2.1 + i) → τ.2 159 a = σ.2 159 a) (fun s _ => ((x.2.2.1 + x.2.2.2.1 : Nat) - s).toNat) ?_ _ σ ⟨0, by omega, Nat.zero_le _, MNx.refl, hE, fun j hj' => absurd hj' (Nat.not_lt_zero _), hz, fun _ _ => rfl⟩
  rintro _ τ ⟨i, rfl, hi, t1, t2, t3, t4, t5⟩ K hK
  rw [t1.2 130 (by decide) (by decide), t1.2 131 (by decide) (by decide), x130, x131]
  refine ⟨⟨by omega, by omega⟩, ⟨by omega, by omega⟩, ⟨by omega, by omega⟩, ?_⟩
  by_cases c : i < x.2.2.2.1
  · rw [if_pos (by omega)]
    have tt := t1.tr ht
    have ha : x.2.2.1 + i < at_.length := by omega
    obtain ⟨y161, y134⟩ := tt.2.2.2 _ ha
    have htk : ent2 E ((ats at_ x).take (i + 1)) = upN (ent2 E ((ats at_ x).take i)) (at_.getD (x.2.2.1 + i) atD) := by rw [ats_take c, ent2_s]
    refine sp_Meanings_declares tt.1 hsl ⟨l6, l7⟩ tt.2.1 (by omega) y161 (fun hd => ?_) (fun v p hd hv => ?_)
    · refine WJ_dir ?_
      rw [if_pos rfl]
      refine ⟨⟨by omega, by omega⟩, hK _ _ ⟨i + 1, by omega, by omega, t1, by rw [htk, upN_none hd]; exact t2, fun j hj' p hp => ?_, t4, fun a ha' => t5 a (by omega)⟩ (by omega)⟩
      by_cases y : j = i
      · rw [y, hd] at hp; cases hp
      · exact t3 j (by omega) p hp
    · obtain ⟨w, w1, w2, w3⟩ := id hv
      have hwj : w < jw σ := by rw [← t1.jwE]; exact w2
      have v6 : v = 6 ↔ p = sXm := by
        have h := Jn_num (w := 6) tt.1 hv (by have := tt.2.1.1; omega)
        rw [tt.2.1.2.2.1] at h
        exact h
      have v7 : v = 7 ↔ p = sXn := by
        have h := Jn_num (w := 7) tt.1 hv (by have := tt.2.1.1; omega)
        rw [tt.2.1.2.2.2.1] at h
        exact h
      have hEp : ent2 E ((ats at_ x).take i) p = E p := ent2_no (fun t htm hdt => by
        obtain ⟨j, hj1, hj2⟩ := List.mem_iff_getElem.mp htm
        rw [List.length_take, ats_len] at hj1
        have ej : t = at_.getD (x.2.2.1 + j) atD := by
          rw [← hj2, List.getElem_take]
          have := ats_get (at_ := at_) (x := x) (i := j) (by omega)
          rw [← this, List.getD_eq_getElem?_getD, List.getElem?_eq_getElem (by rw [ats_len]; omega)]
          rfl
        rw [ej] at hdt
        exact hD j i (by omega) c p hdt hd)
      have hold : Jn τ (τ.2 158 w) (E p) := by
        have := t2 w w2
        rw [w3, hEp] at this
        exact this
      refine WJ_dir ?_
      rw [if_neg (by omega), w1, show Int.toNat ((x.2.2.1 + i : Nat) : Int) = x.2.2.1 + i from rfl, show Int.toNat (w : Int) = w from rfl]
      refine ⟨⟨by omega, by omega⟩, ⟨by omega, by omega⟩, ?_⟩
      -- what it meant is kept
      have k1 : MNx σ (pr τ 159 (x.2.2.1 + i) (τ.2 158 w)) := t1.pr (Or.inr rfl)
      have k159 : ∀ ρ, MNx σ ρ → (∀ b, ρ.2 159 b = if b = x.2.2.1 + i then τ.2 158 w else τ.2 159 b) → (∀ j, j < i + 1 → ∀ q, dcl (at_.getD (x.2.2.1 + j) atD).1 = some q → Jn ρ (ρ.2 159 (x.2.2.1 + j)) (E q)) ∧ ∀ b, ¬ (x.2.2.1 ≤ b ∧ b < x.2.2.1 + (i + 1)) → ρ.2 159 b = σ.2 159 b := fun ρ hρ h9 => by
        refine ⟨fun j hj' q hq' => ?_, fun b hb => ?_⟩
        · rw [h9]
          by_cases y : j = i
          · rw [if_pos (by omega)]
            rw [y, hd] at hq'
            rw [← Option.some.inj hq']
            exact hρ.jnI.mpr (t1.jnI.mp hold)
          · rw [if_neg (by omega)]
            exact hρ.jnI.mpr (t1.jnI.mp (t3 j (by omega) q hq'))
        · rw [h9, if_neg (by omega)]
          exact t5 b (by omega)
      by_cases cx : p = sXm ∨ p = sXn
      · rw [if_neg (by rintro ⟨z1, z2⟩; rcases cx with y | y; exact z1 (by have := v6.mpr y; omega); exact z2 (by have := v7.mpr y; omega))]
        have h9 : ∀ b, (pr τ 159 (x.2.2.1 + i) (τ.2 158 w)).2 159 b = if b = x.2.2.1 + i then τ.2 158 w else τ.2 159 b := fun b => by
          rw [pr_2]
          by_cases y : b = x.2.2.1 + i
          · rw [if_pos ⟨rfl, y⟩, if_pos y]
          · rw [if_neg (fun z => y z.2), if_neg y]
        obtain ⟨q1, q2⟩ := k159 _ k1 h9
        refine ⟨⟨by omega, by omega⟩, hK _ _ ⟨i + 1, by omega, by omega, k1, fun w' hw' => ?_, q1, fun w' hw1 hw2 => by rw [pr_2, if_neg (by omega)]; exact t4 w' hw1 hw2, q2⟩ (by omega)⟩
        rw [htk, upN_at hd, if_pos cx, pr_2, if_neg (by omega), k1.wstE, ← t1.wstE]
        exact k1.jnI.mpr (t1.jnI.mp (t2 w' (by rw [t1.jwE, ← k1.jwE]; exact hw')))
      · rw [if_pos ⟨fun z => cx (Or.inl (v6.mp (by omega))), fun z => cx (Or.inr (v7.mp (by omega)))⟩]
        have k2 : MNx σ (pr (pr τ 159 (x.2.2.1 + i) (τ.2 158 w)) 158 w (τ.2 134 (x.2.2.1 + i))) := k1.pr (Or.inl rfl)
        have h9 : ∀ b, (pr (pr τ 159 (x.2.2.1 + i) (τ.2 158 w)) 158 w (τ.2 134 (x.2.2.1 + i))).2 159 b = if b = x.2.2.1 + i then τ.2 158 w else τ.2 159 b := fun b => by
          rw [pr_2, if_neg (by omega), pr_2]
          by_cases y : b = x.2.2.1 + i
          · rw [if_pos ⟨rfl, y⟩, if_pos y]
          · rw [if_neg (fun z => y z.2), if_neg y]
        obtain ⟨q1, q2⟩ := k159 _ k2 h9
        refine ⟨⟨by omega, by omega⟩, ⟨by omega, by omega⟩, ⟨by omega, by omega⟩, hK _ _ ⟨i + 1, by omega, by omega, k2, fun w' hw' => ?_, q1, fun w' hw1 hw2 => ?_, q2⟩ (by omega)⟩
        · rw [htk, upN_at hd, if_neg cx, pr_2, k2.wstE]
          have hw2' : w' < jw σ := by rw [← k2.jwE]; exact hw'
          by_cases y : w' = w
          · rw [if_pos ⟨rfl, y⟩, if_pos (by rw [y, ← t1.wstE, w3])]
            exact k2.jnI.mpr (t1.jnI.mp y134)
          · rw [if_neg (fun z => y z.2), if_neg (fun z => y (hS.2.2.2 w' w (by omega) (by omega) (by rw [z, ← w3, t1.wstE]))), pr_2, if_neg (by omega), ← t1.wstE]
            exact k2.jnI.mpr (t1.jnI.mp (t2 w' (by rw [t1.jwE]; exact hw2')))
        · rw [pr_2, if_neg (by omega), pr_2, if_neg (by omega)]
          exact t4 w' hw1 hw2
  · rw [if_neg (by omega)]
    have ei : i = x.2.2.2.1 := by omega
    rw [ei] at t2 t3 t5
    rw [List.take_of_length_le (by rw [ats_len]; exact Nat.le_refl _)] at t2
    exact hq τ t1 t2 t3 t4 t5
set_option maxHeartbeats 1000000 in
theorem sp_Meanings_leave {e : Nat} (hL : MLm L el at_) (ht : MTr L σ el at_) (he : e < el.length) (hE : MEp σ (ent2 E (ats at_ (el.getD e elD)))) (hO : OUT σ at_ (el.getD e elD) E) (hz : ∀ w, jw σ ≤ w → w < L 155 → σ.2 158 w = 0) (hq : ∀ σ', MNx σ σ' → MEp σ' E → (∀ w, jw σ ≤ w → w < L 155 → σ'.2 158 w = 0) → σ'.2 159 = σ.2 159 → Q σ') : w_Meanings_leave L (e : Int) Q σ := by
  obtain ⟨hsl, ⟨l6, l7, l8⟩, ⟨m1, m2, m3, m4, m5⟩, ⟨n1, n2, n3, n4⟩, l160, hC⟩ := id hL
  obtain ⟨hS, hCW, hEl, hAt⟩ := id ht
  obtain ⟨x146, x129, x130, x131⟩ := hEl e he
  have hCe := hC (el.getD e elD) (by rw [List.getD_eq_getElem?_getD, List.getElem?_eq_getElem he]; exact List.getElem_mem he)
  have hj := hS.jw_le
  generalize hx : el.getD e elD = x at *
  unfold w_Meanings_leave
  rw [show Int.toNat (e : Int) = e from rfl, x130]
  refine ⟨⟨by omega, by omega⟩, ?_⟩
  -- what is not declared means what it meant
  have hnd : ∀ q, (∀ j, j < x.2.2.2.1 → dcl (at_.getD (x.2.2.1 + j) atD).1 ≠ some q) → ent2 E (ats at_ x) q = E q := fun q h => ent2_no (fun t htm => by
    obtain ⟨j, hj1, hj2⟩ := List.mem_iff_getElem.mp htm
    rw [ats_len] at hj1
    have ej : t = at_.getD (x.2.2.1 + j) atD := by
      rw [← hj2, ← ats_get (at_ := at_) (x := x) (i := j) hj1, List.getD_eq_getElem?_getD, List.getElem?_eq_getElem (by rw [ats_len]; exact hj1)]
      rfl
    rw [ej]
    exact h j hj1)
  refine WL_ind (fun s τ => ∃ i : Nat, s = ((x.2.2.1 + i : Nat) : Int) ∧ i ≤ x.2.2.2.1 ∧ MNx σ τ ∧ τ.2 159 = σ.2 159 ∧ (∀ w, w < jw σ → Jn σ (τ.2 158 w) (E (wst σ w)) ∨ ((∀ j, j < i → dcl (at_.getD (x.2.2.1 + j) atD).1 ≠ some (wst σ w)) ∧ τ.2 158 w = σ.2 158 w)) ∧ ∀ w, jw σ ≤ w → w < L 155 → τ.2 158 w = 0) (fun s _ => ((x.2.2.1 + x.2.2.2.1 : Nat) - s).toNat) ?_ _ σ ⟨0, by omega, Nat.zero_le _, MNx.refl, rfl, fun w _ => Or.inr ⟨fun j hj' => absurd hj' (Nat.not_lt_zero _), rfl⟩, hz⟩
  rintro _ τ ⟨i, rfl, hi, t1, t2, t3, t4⟩ K hK
  rw [t1.2 130 (by decide) (by decide), t1.2 131 (by decide) (by decide), x130, x131]
  refine ⟨⟨by omega, by omega⟩, ⟨by omega, by omega⟩, ⟨by omega, by omega⟩, ?_⟩
  by_cases c : i < x.2.2.2.1
  · rw [if_pos (by omega)]
    have tt := t1.tr ht
    have ha : x.2.2.1 + i < at_.length := by omega
    obtain ⟨y161, y134⟩ := tt.2.2.2 _ ha
    refine sp_Meanings_declares tt.1 hsl ⟨l6, l7⟩ tt.2.1 (by omega) y161 (fun hd => ?_) (fun v p hd hv => ?_)
    · refine WJ_dir ?_
      rw [if_pos rfl]
      refine ⟨⟨by omega, by omega⟩, hK _ _ ⟨i + 1, by omega, by omega, t1, t2, fun w hw => ?_, t4⟩ (by omega)⟩
      rcases t3 w hw with y | ⟨y1, y2⟩
      · exact Or.inl y
      · refine Or.inr ⟨fun j hj' => ?_, y2⟩
        by_cases z : j = i
        · rw [z, hd]; simp
        · exact y1 j (by omega)
    · obtain ⟨w, w1, w2, w3⟩ := id hv
      have hwj : w < jw σ := by rw [← t1.jwE]; exact w2
      have hws : wst σ w = p := by rw [← t1.wstE]; exact w3
      refine WJ_dir ?_
      rw [if_neg (by omega), w1, show Int.toNat ((x.2.2.1 + i : Nat) : Int) = x.2.2.1 + i from rfl, show Int.toNat (w : Int) = w from rfl, t2]
      have k1 : MNx σ (pr τ 158 w (σ.2 159 (x.2.2.1 + i))) := t1.pr (Or.inl rfl)
      refine ⟨⟨by omega, by omega⟩, ⟨by omega, by omega⟩, ⟨by omega, by omega⟩, hK _ _ ⟨i + 1, by omega, by omega, k1, ?_, fun w' hw' => ?_, fun w' h1 h2 => ?_⟩ (by omega)⟩
      · rw [← t2]
        funext b
        rw [pr_2, if_neg (by omega)]
      · by_cases y : w' = w
        · left
          rw [pr_2, if_pos ⟨rfl, y⟩, y, hws]
          exact hO i c p hd
        · rw [pr_2, if_neg (fun z => y z.2)]
          rcases t3 w' hw' with z | ⟨z1, z2⟩
          · exact Or.inl z
          · refine Or.inr ⟨fun j hj' => ?_, z2⟩
            by_cases zz : j = i
            · rw [zz, hd]
              intro h
              exact y (hS.2.2.2 w' w (by omega) (by omega) (by rw [hws, Option.some.inj h]))
            · exact z1 j (by omega)
      · rw [pr_2, if_neg (by omega)]
        exact t4 w' h1 h2
  · rw [if_neg (by omega)]
    refine hq τ t1 (fun w hw => ?_) t4 t2
    have hw' : w < jw σ := by rw [← t1.jwE]; exact hw
    rw [t1.wstE]
    refine t1.jnI.mpr ?_
    rcases t3 w hw' with y | ⟨y1, y2⟩
    · exact y
    · rw [y2]
      have := hE w hw'
      rw [hnd _ (fun j hj' => y1 j (by omega))] at this
      exact this
end Mel
