/-! ===== the class writes tags ===== -/
/-- what the writer may change -/
def WPx (σ τ : IS) (D : Nat) : Prop := (∀ o k, ¬ (o = 11 ∧ 6 ≤ k ∧ k ≤ 9) → τ.1 o k = σ.1 o k) ∧ ∀ r, r ≠ D → r ≠ 158 → r ≠ 159 → r ≠ 164 → τ.2 r = σ.2 r
/-- the attributes of an element that are written, as they come -/
noncomputable def chI (E0 : Str → Str) (at_ : List Att) (f i : Nat) : List Nat := ((List.range i).filter (fun j => !idl E0 (at_.getD (f + j) atD))).map (fun j => f + j)
section Wch
variable {E0 E : Str → Str} {at_ : List Att} {f i n : Nat} {x : Elm} {g g' : Nat → Nat}
theorem chI_s : chI E0 at_ f (i + 1) = chI E0 at_ f i ++ (if idl E0 (at_.getD (f + i) atD) = true then [] else [f + i]) := by
  unfold chI
  rw [List.range_succ, List.filter_append, List.map_append]
  congr 1
  cases h : idl E0 (at_.getD (f + i) atD) with
  | true =>
    rw [if_pos rfl, List.filter_cons_of_neg (by rw [h]; decide)]
    rfl
  | false =>
    rw [if_neg (by decide), List.filter_cons_of_pos (by rw [h]; rfl)]
    rfl
theorem chI_in : ∀ i, (chI E0 at_ f i).Pairwise (fun a b => a < b) ∧ (∀ v ∈ chI E0 at_ f i, f ≤ v ∧ v < f + i) ∧ (chI E0 at_ f i).length ≤ i
  | 0 => ⟨List.Pairwise.nil, fun v hv => (by cases hv), Nat.le_refl _⟩
  | i + 1 => by
    obtain ⟨h1, h2, h3⟩ := chI_in i
    rw [chI_s]
    by_cases c : idl E0 (at_.getD (f + i) atD) = true
    · rw [if_pos c, List.append_nil]
      exact ⟨h1, fun v hv => by have := h2 v hv; omega, by omega⟩
    · rw [if_neg c]
      refine ⟨List.pairwise_append.mpr ⟨h1, List.pairwise_singleton _ _, fun a ha b hb => ?_⟩, fun v hv => ?_, ?_⟩
      · rw [List.mem_singleton] at hb
        have := h2 a ha
        omega
      · rcases List.mem_append.mp hv with q | q
        · have := h2 v q; omega
        · rw [List.mem_singleton] at q; omega
      · rw [List.length_append, List.length_singleton]; omega
theorem mem_chI {v : Nat} : v ∈ chI E0 at_ f i ↔ ∃ j, j < i ∧ v = f + j ∧ idl E0 (at_.getD (f + j) atD) = false := by
  unfold chI
  rw [List.mem_map]
  constructor
  · rintro ⟨j, h1, h2⟩
    rw [List.mem_filter, List.mem_range] at h1
    exact ⟨j, h1.1, h2.symm, by simpa using h1.2⟩
  · rintro ⟨j, h1, h2, h3⟩
    exact ⟨j, List.mem_filter.mpr ⟨List.mem_range.mpr h1, by rw [h3]; rfl⟩, h2.symm⟩
theorem wat_eq (hn : n = (chI E0 at_ x.2.2.1 x.2.2.2.1).length) (hg : ∀ i, i < n → g i = (chI E0 at_ x.2.2.1 x.2.2.2.1).getD i 0) (hp : PM n g g') (hs : ∀ i j, i < j → j < n → klt (wky E (at_.getD (g' j) atD).1) (wky E (at_.getD (g' i) atD).1) = false) (hK : KD E (ats at_ x)) : (List.range n).map (fun i => at_.getD (g' i) atD) = wat E0 E (ats at_ x) := by
  obtain ⟨c1, c2, c3⟩ := chI_in (E0 := E0) (at_ := at_) (f := x.2.2.1) x.2.2.2.1
  have gm : ∀ i, i < n → g i ∈ chI E0 at_ x.2.2.1 x.2.2.2.1 := fun i hi => by
    rw [hg i hi, List.getD_eq_getElem?_getD, List.getElem?_eq_getElem (by omega)]
    exact List.getElem_mem _
  have gj : inj n g := fun a b ha hb e => by
    rw [hg a ha, hg b hb, List.getD_eq_getElem?_getD, List.getD_eq_getElem?_getD, List.getElem?_eq_getElem (by omega), List.getElem?_eq_getElem (by omega)] at e
    dsimp only [Option.getD] at e
    refine Classical.byContradiction (fun z => ?_)
    rcases Nat.lt_or_gt_of_ne z with q | q
    · have := List.pairwise_iff_getElem.mp c1 a b (by omega) (by omega) q
      omega
    · have := List.pairwise_iff_getElem.mp c1 b a (by omega) (by omega) q
      omega
  have gj' := hp.2.2.1 gj
  have gm' : ∀ i, i < n → ∃ j, j < x.2.2.2.1 ∧ g' i = x.2.2.1 + j ∧ idl E0 (at_.getD (x.2.2.1 + j) atD) = false := fun i hi => by
    obtain ⟨q, a, b⟩ := hp.1 i hi
    rw [b]
    exact mem_chI.mp (gm q a)
  have kd : ∀ p q, p < x.2.2.2.1 → q < x.2.2.2.1 → p ≠ q → wky E (at_.getD (x.2.2.1 + p) atD).1 ≠ wky E (at_.getD (x.2.2.1 + q) atD).1 := by
    have key : ∀ p q, p < q → q < x.2.2.2.1 → wky E (at_.getD (x.2.2.1 + p) atD).1 ≠ wky E (at_.getD (x.2.2.1 + q) atD).1 := fun p q h1 h2 => by
      have := List.pairwise_iff_getElem.mp hK p q (by rw [ats_len]; omega) (by rw [ats_len]; omega) h1
      rw [← ats_get (show p < x.2.2.2.1 by omega), ← ats_get h2, List.getD_eq_getElem?_getD, List.getD_eq_getElem?_getD, List.getElem?_eq_getElem (by rw [ats_len]; omega), List.getElem?_eq_getElem (by rw [ats_len]; omega)]
      exact this
    intro p q h1 h2 h3
    rcases Nat.lt_or_gt_of_ne h3 with z | z
    · exact key p q z h2
    · exact fun e => key q p z h1 e.symm
  unfold wat
  refine srt_uniq (k := fun t => wky E t.1) ?_ (srt_pw (List.Pairwise.filter _ hK)) (fun y => ?_)
  · rw [List.pairwise_iff_getElem]
    intro i j hi hj hij
    rw [List.length_map, List.length_range] at hi hj
    rw [List.getElem_map, List.getElem_map, List.getElem_range, List.getElem_range]
    have h1 := hs i j hij hj
    obtain ⟨p, p1, p2, -⟩ := gm' i hi
    obtain ⟨q, q1, q2, -⟩ := gm' j hj
    have hne : p ≠ q := fun e => by
      have := gj' i j hi hj (by rw [p2, q2, e])
      omega
    rw [p2, q2] at h1 ⊢
    rcases klt_tot (kd p q p1 q1 hne) with w | w
    · exact w
    · rw [w] at h1; cases h1
  · rw [mem_srt, List.mem_filter, List.mem_map]
    constructor
    · rintro ⟨i, h1, h2⟩
      rw [List.mem_range] at h1
      obtain ⟨j, j1, j2, j3⟩ := gm' i h1
      rw [← h2, j2]
      refine ⟨?_, by rw [j3]; rfl⟩
      unfold ats
      exact List.mem_map.mpr ⟨j, List.mem_range.mpr j1, rfl⟩
    · rintro ⟨h1, h2⟩
      unfold ats at h1
      obtain ⟨j, j1, j2⟩ := List.mem_map.mp h1
      rw [List.mem_range] at j1
      have hm : x.2.2.1 + j ∈ chI E0 at_ x.2.2.1 x.2.2.2.1 := mem_chI.mpr ⟨j, j1, rfl, by rw [j2]; simpa using h2⟩
      obtain ⟨q, q1, q2⟩ := List.mem_iff_getElem.mp hm
      obtain ⟨p, p1, p2⟩ := hp.2.1 q (by omega)
      refine ⟨p, List.mem_range.mpr p1, ?_⟩
      have hq2 : (chI E0 at_ x.2.2.1 x.2.2.2.1).getD q 0 = x.2.2.1 + j := by
        rw [List.getD_eq_getElem?_getD, List.getElem?_eq_getElem q1]
        exact q2
      rw [p2, hg q (by omega), hq2]
      exact j2
theorem wAt_b {t : Att} : (wAt t).flatMap u8b = [32] ++ (t.1.flatMap u8b ++ (ti 1085 ++ (t.2.1.flatMap (esc true) ++ [34]))) := by
  unfold wAt
  rw [List.flatMap_append, List.flatMap_append, List.flatMap_append, List.flatMap_append, ti_u8 _ (by decide), esc_fl]
  rfl
theorem wTg_b {s : Str} {l : List Att} : (wTg E0 E s l).flatMap u8b = [60] ++ (s.flatMap u8b ++ ((wat E0 E l).flatMap (fun t => (wAt t).flatMap u8b) ++ [62])) := by
  unfold wTg
  rw [List.flatMap_append, List.flatMap_append, List.flatMap_append, List.flatMap_assoc]
  rfl
theorem wEn_b {s : Str} : (wEn s).flatMap u8b = ti 1086 ++ (s.flatMap u8b ++ [62]) := by
  unfold wEn
  rw [List.flatMap_append, List.flatMap_append, ti_u8 _ (by decide)]
  rfl
end Wch
section Wtg
variable {L : Nat → Nat} {σ τ υ : IS} {D : Nat} {el : List Elm} {at_ : List Att} {E E0 : Str → Str} {out : List Int} {Q : IS → Prop}
theorem WPx.refl : WPx σ σ D := ⟨fun _ _ _ => rfl, fun _ _ _ _ _ => rfl⟩
theorem WPx.trans (h1 : WPx σ τ D) (h2 : WPx τ υ D) : WPx σ υ D := ⟨fun o k a => (h2.1 o k a).trans (h1.1 o k a), fun r a b c d => (h2.2 r a b c d).trans (h1.2 r a b c d)⟩
theorem WRx.wp (h : WRx σ τ D) : WPx σ τ D := ⟨fun o k a => h.1 o k (by omega), fun r a _ _ _ => h.2 r a⟩
theorem MNx.wp (h : MNx σ τ) : WPx σ τ D := ⟨fun o k _ => h.1 o k, fun r _ a b _ => h.2 r a b⟩
theorem OX.wp (h : OX σ τ) : WPx σ τ D := ⟨fun o k _ => by rw [h.1], fun r _ _ _ a => h.2 r a⟩
theorem WPx.jwE (h : WPx σ τ D) : jw τ = jw σ := by unfold jw; rw [h.1 1 14 (by omega)]
theorem WPx.wstE (h : WPx σ τ D) (hD : D = 162 ∨ D = 163) (w : Nat) : wst τ w = wst σ w := by
  unfold wst wfr wsz
  rw [h.2 101 (by omega) (by omega) (by omega) (by omega), h.2 102 (by omega) (by omega) (by omega) (by omega), h.2 103 (by omega) (by omega) (by omega) (by omega)]
theorem WPx.jnI (h : WPx σ τ D) (hD : D = 162 ∨ D = 163) {x : Int} {s : Str} : Jn τ x s ↔ Jn σ x s := by
  unfold Jn
  rw [h.jwE]
  constructor
  · rintro ⟨w, a, b, c⟩
    exact ⟨w, a, b, by rw [← h.wstE hD]; exact c⟩
  · rintro ⟨w, a, b, c⟩
    exact ⟨w, a, b, by rw [h.wstE hD]; exact c⟩
theorem WPx.si (h : WPx σ τ D) (hD : D = 162 ∨ D = 163) (hS : SI L σ) : SI L τ := (SI_of hS (σ' := τ) (h.1 1 14 (by omega)) (by rw [h.1 1 3 (by omega)]; have := hS.1; omega) (fun r y1 y2 => h.2 r (by omega) (by omega) (by omega) (by omega)) (fun i _ => by rw [h.2 101 (by omega) (by omega) (by omega) (by omega)])).1
theorem WPx.spo (h : WPx σ τ D) (hD : D = 162 ∨ D = 163) {x : Int} {s : Str} (hs : SPo σ x s) : SPo τ x s := by
  obtain ⟨w, a, b, c, d⟩ := hs
  refine ⟨w, a, by rw [h.jwE]; exact b, by rw [h.wstE hD]; exact c, ?_⟩
  unfold SPW at d ⊢
  rw [h.wstE hD, h.2 156 (by omega) (by omega) (by omega) (by omega), h.2 157 (by omega) (by omega) (by omega) (by omega)]
  refine ⟨?_, (h.jnI hD).mpr d.2⟩
  rcases d.1 with y | ⟨p, y1, y2⟩
  · exact Or.inl y
  · exact Or.inr ⟨p, y1, (h.jnI hD).mpr y2⟩
theorem WPx.tr (h : WPx σ τ D) (hD : D = 162 ∨ D = 163) (ht : MTr L σ el at_) : MTr L τ el at_ := by
  obtain ⟨a, b, c, d⟩ := ht
  refine ⟨h.si hD a, ?_, fun i hi => ?_, fun i hi => ?_⟩
  · unfold CWd at b ⊢
    rw [h.jwE, h.wstE hD, h.wstE hD, h.wstE hD, h.wstE hD, h.wstE hD]
    exact b
  · rw [h.2 146 (by omega) (by omega) (by omega) (by omega), h.2 129 (by omega) (by omega) (by omega) (by omega), h.2 130 (by omega) (by omega) (by omega) (by omega), h.2 131 (by omega) (by omega) (by omega) (by omega)]
    exact ⟨h.spo hD (c i hi).1, (c i hi).2⟩
  · rw [h.2 161 (by omega) (by omega) (by omega) (by omega), h.2 134 (by omega) (by omega) (by omega) (by omega)]
    exact ⟨h.spo hD (d i hi).1, (h.jnI hD).mpr (d i hi).2⟩
theorem WPx.ch (h : WPx σ τ D) (hD : D = 162 ∨ D = 163) (hc : jch L σ) : jch L τ := fun i hi => by
  rw [h.2 101 (by omega) (by omega) (by omega) (by omega)]
  exact hc i hi
theorem WPx.mep (h : WPx σ τ D) (hD : D = 162 ∨ D = 163) (h8 : τ.2 158 = σ.2 158) (hE : MEp σ E) : MEp τ E := fun w hw => by
  rw [h8, h.wstE hD]
  exact (h.jnI hD).mpr (hE w (by rw [← h.jwE]; exact hw))
theorem WPx.ou {x : Elm} (h : WPx σ τ D) (hD : D = 162 ∨ D = 163) (h9 : τ.2 159 = σ.2 159) (ho : OUT σ at_ x E) : OUT τ at_ x E := fun i hi p hp => by
  rw [h9]
  exact (h.jnI hD).mpr (ho i hi p hp)
theorem WRo.mv (h : WRo σ D out) (h5 : τ.1 11 5 = σ.1 11 5) (h6 : τ.1 11 6 = σ.1 11 6) (h7 : τ.1 11 7 = σ.1 11 7) (hr : τ.2 D = σ.2 D) : WRo τ D out := by
  unfold WRo at h ⊢
  rw [h5, h6, h7, hr]
  exact h
theorem flat_tk {α : Type} {f : α → List Int} {l : List α} {i : Nat} {d : α} (h : i < l.length) : (l.take (i + 1)).flatMap f = (l.take i).flatMap f ++ f (l.getD i d) := by
  rw [List.take_succ, List.getElem?_eq_getElem h, List.flatMap_append, List.getD_eq_getElem?_getD, List.getElem?_eq_getElem h]
  simp
theorem sp_Meanings_isIdle {a : Nat} {s t : Str} {Q : Int → IS → Prop} (hS : SI L σ) (ha : a < L 134 ∧ a < L 159) (h1 : Jn σ (σ.2 134 a) s) (h2 : Jn σ (σ.2 159 a) t) (hq : Q (b1 (decide (s = t))) σ) : w_Meanings_isIdle L (a : Int) Q σ := by
  unfold w_Meanings_isIdle
  rw [show Int.toNat (a : Int) = a from rfl]
  refine ⟨⟨by omega, by omega⟩, ⟨by omega, by omega⟩, ?_⟩
  by_cases c : s = t
  · rw [decide_eq_true c] at hq
    rw [if_pos (Jn.inj hS h1 (by rw [c]; exact h2))]
    exact hq
  · rw [decide_eq_false c] at hq
    rw [if_neg (fun z => c ?_)]
    · exact hq
    · rw [z] at h1
      obtain ⟨w, w1, w2, w3⟩ := h1
      obtain ⟨v, v1, v2, v3⟩ := h2
      rw [← w3, ← v3, show w = v by omega]
end Wtg
