/-! ===== violations of namespaces: declarations (3), and whether all values begin as they must ===== -/
/-- behind the first letter, up to a colon -/
def absL : List Int → Bool
  | [] => false
  | c :: r => if c = 58 then true else if isLt c = true ∨ isDg c = true ∨ c = 43 ∨ c = 45 ∨ c = 46 then absL r else false
def isAbs : Str → Bool
  | [] => false
  | c :: r => isLt c && absL r
noncomputable def nm3 (t : Att) : Nat := match dcl t.1 with
  | none => 0
  | some p => if p = sXn ∨ t.2.1 = sNM ∨ ¬ (p = sXm ↔ t.2.1 = sXM) ∨ (p ≠ [] ∧ t.2.1 = []) then 1 else 0
/-- the values of the declarations among the first n attributes from f on -/
noncomputable def dvs (at_ : List Att) (f n : Nat) : List Str := (List.range n).filterMap (fun i => if (dcl (at_.getD (f + i) atD).1).isSome = true then some (at_.getD (f + i) atD).2.1 else none)
/-- a value that is not as it must be -/
def rlv (l : List Str) : Bool := l.any (fun v => decide (v ≠ []) && !isAbs v)
/-- counts of namespaces, marks and what is noted of values have changed -/
def NDx (σ τ : IS) : Prop := (∀ o k, ¬ (o = 10 ∧ k = 7) → τ.1 o k = σ.1 o k) ∧ ∀ r, r ≠ 155 → r ≠ 160 → τ.2 r = σ.2 r
section Dcs
variable {L : Nat → Nat} {σ τ υ : IS} {el : List Elm} {at_ : List Att} {Q : IS → Prop}
theorem nm3_le {t : Att} : nm3 t ≤ 1 := by
  unfold nm3
  split
  · omega
  · split <;> omega
theorem dvs_s {f n : Nat} : dvs at_ f (n + 1) = dvs at_ f n ++ (if (dcl (at_.getD (f + n) atD).1).isSome = true then [(at_.getD (f + n) atD).2.1] else []) := by
  unfold dvs
  rw [List.range_succ, List.filterMap_append]
  congr 1
  rw [List.filterMap_cons, List.filterMap_nil]
  split
  · rename_i h
    split at h
    · cases h
    · rename_i h2; rw [if_neg h2]
  · rename_i b h
    split at h
    · rename_i h2; rw [if_pos h2]; cases h; rfl
    · cases h
theorem NDx.refl : NDx σ σ := ⟨fun _ _ _ => rfl, fun _ _ _ => rfl⟩
theorem NDx.trans (h1 : NDx σ τ) (h2 : NDx τ υ) : NDx σ υ := ⟨fun o k a => (h2.1 o k a).trans (h1.1 o k a), fun r a b => (h2.2 r a b).trans (h1.2 r a b)⟩
theorem NDx.jwE (h : NDx σ τ) : jw τ = jw σ := by unfold jw; rw [h.1 1 14 (by omega)]
theorem NDx.wstE (h : NDx σ τ) (w : Nat) : wst τ w = wst σ w := by unfold wst wfr wsz; rw [h.2 101 (by decide) (by decide), h.2 102 (by decide) (by decide), h.2 103 (by decide) (by decide)]
theorem NDx.jnI (h : NDx σ τ) {x : Int} {s : Str} : Jn τ x s ↔ Jn σ x s := by
  unfold Jn
  rw [h.jwE]
  constructor
  · rintro ⟨w, a, b, c⟩
    exact ⟨w, a, b, by rw [← h.wstE]; exact c⟩
  · rintro ⟨w, a, b, c⟩
    exact ⟨w, a, b, by rw [h.wstE]; exact c⟩
theorem NDx.si (h : NDx σ τ) (hS : SI L σ) : SI L τ := (SI_of hS (σ' := τ) (h.1 1 14 (by omega)) (by rw [h.1 1 3 (by omega)]; have := hS.1; omega) (fun r y1 y2 => h.2 r (by omega) (by omega)) (fun i _ => by rw [h.2 101 (by decide) (by decide)])).1
theorem NDx.spo (h : NDx σ τ) {x : Int} {s : Str} (hs : SPo σ x s) : SPo τ x s := by
  obtain ⟨w, a, b, c, d⟩ := hs
  refine ⟨w, a, by rw [h.jwE]; exact b, by rw [h.wstE]; exact c, ?_⟩
  unfold SPW at d ⊢
  rw [h.wstE, h.2 156 (by decide) (by decide), h.2 157 (by decide) (by decide)]
  refine ⟨?_, h.jnI.mpr d.2⟩
  rcases d.1 with y | ⟨p, y1, y2⟩
  · exact Or.inl y
  · exact Or.inr ⟨p, y1, h.jnI.mpr y2⟩
theorem NDx.tr (h : NDx σ τ) (ht : MTr L σ el at_) : MTr L τ el at_ := by
  obtain ⟨a, b, c, d⟩ := ht
  refine ⟨h.si a, ?_, fun i hi => ?_, fun i hi => ?_⟩
  · unfold CWd at b ⊢
    rw [h.jwE, h.wstE, h.wstE, h.wstE, h.wstE, h.wstE]
    exact b
  · rw [h.2 146 (by decide) (by decide), h.2 129 (by decide) (by decide), h.2 130 (by decide) (by decide), h.2 131 (by decide) (by decide)]
    exact ⟨h.spo (c i hi).1, (c i hi).2⟩
  · rw [h.2 161 (by decide) (by decide), h.2 134 (by decide) (by decide)]
    exact ⟨h.spo (d i hi).1, h.jnI.mpr (d i hi).2⟩
theorem sp_Meanings_isAbsolute {Q : Int → IS → Prop} {w : Nat} (hS : SI L σ) (hl : SL L) (hw : w < jw σ) (hne : wst σ w ≠ []) (hq : Q (b1 (isAbs (wst σ w))) σ) : w_Meanings_isAbsolute L (w : Int) Q σ := by
  obtain ⟨l1, l2, e1, e2, l3⟩ := hS.word hl hw
  have l9 : L 101 < 1000000 := hl.2.2.2.2.2.2.2
  have hln : (wst σ w).length = wsz σ w := by unfold wst; rw [sl_ln]
  have hpos : 0 < wsz σ w := by rw [← hln]; exact List.length_pos_iff.mpr hne
  unfold w_Meanings_isAbsolute
  refine sp_letter (i := 0) hS hl hw hpos (sp_Reader_isLetter ?_)
  obtain ⟨c, r, hcr⟩ : ∃ c r, wst σ w = c :: r := by
    cases h : wst σ w with
    | nil => exact absurd h hne
    | cons c r => exact ⟨c, r, rfl⟩
  have hc0 : (wst σ w).getD 0 0 = c := by rw [hcr]; rfl
  have habs : isAbs (wst σ w) = (isLt c && absL ((wst σ w).drop 1)) := by rw [hcr]; rfl
  rw [hc0]
  cases hlt : isLt c with
  | false =>
    rw [if_pos (by decide)]
    rw [habs, hlt] at hq
    exact hq
  | true =>
    rw [hlt, Bool.true_and] at habs
    rw [if_neg (by decide)]
    refine WL_ind (fun s τ => ∃ i : Nat, s = (i : Int) ∧ 1 ≤ i ∧ i ≤ wsz σ w ∧ σ = τ ∧ absL ((wst σ w).drop i) = isAbs (wst σ w)) (fun s _ => (wsz σ w - s).toNat) ?_ 1 σ ⟨1, rfl, Nat.le_refl _, by omega, rfl, habs.symm⟩
    rintro _ τ ⟨i, rfl, hi1, hi2, rfl, ha⟩ K hK
    rw [show Int.toNat (w : Int) = w from rfl, e2]
    refine ⟨⟨by omega, by omega⟩, ?_⟩
    by_cases ci : i < wsz σ w
    · rw [if_pos (by omega)]
      refine sp_letter hS hl hw ci ?_
      have hd : (wst σ w).drop i = (wst σ w).getD i 0 :: (wst σ w).drop (i + 1) := by
        rw [List.drop_eq_getElem_cons (by omega), List.getD_eq_getElem?_getD, List.getElem?_eq_getElem (by omega)]
        rfl
      generalize (wst σ w).getD i 0 = d at *
      rw [hd] at ha
      have ha' : (if d = 58 then true else if isLt d = true ∨ isDg d = true ∨ d = 43 ∨ d = 45 ∨ d = 46 then absL ((wst σ w).drop (i + 1)) else false) = isAbs (wst σ w) := ha
      by_cases c58 : d = 58
      · rw [if_pos c58] at ha' ⊢
        rw [← ha'] at hq
        exact hq
      · rw [if_neg c58] at ha' ⊢
        refine sp_Reader_isLetter (WJ_dir ?_)
        have hgo : (isLt d = true ∨ isDg d = true ∨ d = 43 ∨ d = 45 ∨ d = 46) → inR ((i : Int) + 1) ∧ K ((i : Int) + 1) σ := fun h => by
          rw [if_pos h] at ha'
          exact ⟨⟨by omega, by omega⟩, hK _ _ ⟨i + 1, rfl, by omega, by omega, rfl, ha'⟩ (by omega)⟩
        cases hld : isLt d with
        | true =>
          rw [if_neg (by decide)]
          exact hgo (Or.inl hld)
        | false =>
          rw [if_pos (by decide)]
          refine sp_Reader_isDigit ?_
          by_cases cx : isDg d = true ∨ d = 43 ∨ d = 45 ∨ d = 46
          · rw [if_neg]
            · exact hgo (Or.inr cx)
            · rintro ⟨z1, z2, z3, z4⟩
              rcases cx with y | y | y | y
              · rw [y] at z1; exact absurd z1 (by decide)
              · exact z2 y
              · exact z3 y
              · exact z4 y
          · have hdg : isDg d = false := by
              cases hh : isDg d with
              | false => rfl
              | true => exact absurd (Or.inl hh) cx
            rw [if_pos ⟨by rw [hdg]; decide, fun z => cx (Or.inr (Or.inl z)), fun z => cx (Or.inr (Or.inr (Or.inl z))), fun z => cx (Or.inr (Or.inr (Or.inr z)))⟩]
            rw [if_neg (fun h => h.elim (fun z => by rw [hld] at z; cases z) cx)] at ha'
            rw [← ha'] at hq
            exact hq
    · rw [if_neg (by omega)]
      rw [List.drop_eq_nil_of_le (by omega)] at ha
      have ha' : false = isAbs (wst σ w) := ha
      rw [← ha'] at hq
      exact hq
/-- what is noted of values, of those in D -/
def RLm (τ : IS) (mk : Int) (D : List Str) : Prop := τ.1 10 7 = b1 (rlv D) ∧ (∀ w, w < jw τ → (τ.2 155 w = mk ↔ wst τ w ≠ [] ∧ wst τ w ∈ D)) ∧ ∀ w, τ.2 155 w ≤ mk
theorem rlv_app {l l' : List Str} : rlv (l ++ l') = (rlv l || rlv l') := by unfold rlv; rw [List.any_append]
theorem rlv_mem {l : List Str} {v : Str} (h : v ∈ l) : rlv (l ++ [v]) = rlv l := by
  rw [rlv_app]
  have h1 : rlv [v] = (decide (v ≠ []) && !isAbs v) := by unfold rlv; rw [List.any_cons, List.any_nil, Bool.or_false]
  cases hv : rlv [v] with
  | false => rw [Bool.or_false]
  | true =>
    rw [Bool.or_true]
    symm
    unfold rlv
    rw [List.any_eq_true]
    exact ⟨v, h, by rw [← h1]; exact hv⟩
set_option maxHeartbeats 1000000 in
theorem sp_Meanings_countDeclarations {e : Nat} {mk : Int} {D : List Str} (hL : MLm L el at_) (ht : MTr L σ el at_) (he : e < el.length) (hc : 0 ≤ σ.2 160 3 ∧ σ.2 160 3 ≤ 900000000) (hR : RLm σ mk D) (hq : ∀ σ', NDx σ σ' → (∀ k, σ'.2 160 k = σ.2 160 k + if k = 3 then (sn (fun i => nm3 (at_.getD ((el.getD e elD).2.2.1 + i) atD)) (el.getD e elD).2.2.2.1 : Int) else 0) → RLm σ' mk (D ++ dvs at_ (el.getD e elD).2.2.1 (el.getD e elD).2.2.2.1) → Q σ') : w_Meanings_countDeclarations L (e : Int) mk Q σ := by
  obtain ⟨hsl, ⟨l6, l7, l8⟩, ⟨m1, m2, m3, m4, m5⟩, ⟨n1, n2, n3, n4⟩, l160, hC⟩ := id hL
  obtain ⟨hS, hCW, hEl, hAt⟩ := id ht
  obtain ⟨x146, x129, x130, x131⟩ := hEl e he
  have hCe := hC (el.getD e elD) (by rw [List.getD_eq_getElem?_getD, List.getElem?_eq_getElem he]; exact List.getElem_mem he)
  have e155 : L 102 = L 155 := hsl.2.2.2.1
  have hj := hS.jw_le
  generalize hx : el.getD e elD = x at *
  unfold w_Meanings_countDeclarations
  rw [show Int.toNat (e : Int) = e from rfl, x130]
  refine ⟨⟨by omega, by omega⟩, ?_⟩
  refine WL_ind (fun s τ => ∃ i : Nat, s = ((x.2.2.1 + i : Nat) : Int) ∧ i ≤ x.2.2.2.1 ∧ NDx σ τ ∧ (∀ k, τ.2 160 k = σ.2 160 k + if k = 3 then (sn (fun i => nm3 (at_.getD (x.2.2.1 + i) atD)) i : Int) else 0) ∧ RLm τ mk (D ++ dvs at_ x.2.2.1 i)) (fun s _ => ((x.2.2.1 + x.2.2.2.1 : Nat) - s).toNat) ?_ _ σ ⟨0, by omega, Nat.zero_le _, NDx.refl, fun k => by split <;> simp [sm], by rw [show dvs at_ x.2.2.1 0 = [] from rfl, List.append_nil]; exact hR⟩
  rintro _ τ ⟨i, rfl, hi, t1, t2, t3⟩ K hK
  rw [t1.2 130 (by decide) (by decide), t1.2 131 (by decide) (by decide), x130, x131]
  refine ⟨⟨by omega, by omega⟩, ⟨by omega, by omega⟩, ⟨by omega, by omega⟩, ?_⟩
  by_cases c : i < x.2.2.2.1
  · rw [if_pos (by omega)]
    have tt := t1.tr ht
    have ha : x.2.2.1 + i < at_.length := by omega
    obtain ⟨y161, y134⟩ := tt.2.2.2 _ ha
    have hsn := sn_s (f := fun i => nm3 (at_.getD (x.2.2.1 + i) atD)) (n := i)
    have hsl3 := sn_le (f := fun i => nm3 (at_.getD (x.2.2.1 + i) atD)) (m := 1) (fun _ => nm3_le) i
    have h33 := t2 3
    rw [if_pos rfl] at h33
    refine sp_Meanings_declares tt.1 hsl ⟨l6, l7⟩ tt.2.1 (by omega) y161 (fun hd => ?_) (fun v p hd hv => ?_)
    · refine ⟨⟨by omega, by omega⟩, WJ_dir ?_⟩
      rw [if_pos rfl]
      have hn3 : nm3 (at_.getD (x.2.2.1 + i) atD) = 0 := by unfold nm3; rw [hd]
      refine ⟨⟨by omega, by omega⟩, hK _ _ ⟨i + 1, by omega, by omega, t1, fun k => ?_, ?_⟩ (by omega)⟩
      · rw [hsn, hn3, t2 k]; split <;> omega
      · rw [dvs_s, hd, if_neg (by decide), List.append_nil]; exact t3
    · obtain ⟨vw, y1, y2, y3⟩ := id y134
      have hvj : vw < jw σ := by rw [← t1.jwE]; exact y2
      have v0 : v = 0 ↔ p = [] := by
        have h := Jn_num (w := 0) tt.1 hv (by have := tt.2.1.1; omega)
        rw [tt.2.1.2.1] at h
        exact h
      have v6 : v = 6 ↔ p = sXm := by
        have h := Jn_num (w := 6) tt.1 hv (by have := tt.2.1.1; omega)
        rw [tt.2.1.2.2.1] at h
        exact h
      have v7 : v = 7 ↔ p = sXn := by
        have h := Jn_num (w := 7) tt.1 hv (by have := tt.2.1.1; omega)
        rw [tt.2.1.2.2.2.1] at h
        exact h
      have u0 : τ.2 134 (x.2.2.1 + i) = 0 ↔ (at_.getD (x.2.2.1 + i) atD).2.1 = [] := by
        have h := Jn_num (w := 0) tt.1 y134 (by have := tt.2.1.1; omega)
        rw [tt.2.1.2.1] at h
        exact h
      have u8 : τ.2 134 (x.2.2.1 + i) = 8 ↔ (at_.getD (x.2.2.1 + i) atD).2.1 = sXM := by
        have h := Jn_num (w := 8) tt.1 y134 (by have := tt.2.1.1; omega)
        rw [tt.2.1.2.2.2.2.1] at h
        exact h
      have u9 : τ.2 134 (x.2.2.1 + i) = 9 ↔ (at_.getD (x.2.2.1 + i) atD).2.1 = sNM := by
        have h := Jn_num (w := 9) tt.1 y134 (by have := tt.2.1.1; omega)
        rw [tt.2.1.2.2.2.2.2] at h
        exact h
      obtain ⟨w, w1, w2, w3⟩ := id hv
      rw [show Int.toNat ((x.2.2.1 + i : Nat) : Int) = x.2.2.1 + i from rfl, show Int.toNat 3 = 3 from rfl]
      refine ⟨⟨by omega, by omega⟩, WJ_dir ?_⟩
      rw [if_neg (by omega)]
      have hn3 : nm3 (at_.getD (x.2.2.1 + i) atD) = if p = sXn ∨ (at_.getD (x.2.2.1 + i) atD).2.1 = sNM ∨ ¬ (p = sXm ↔ (at_.getD (x.2.2.1 + i) atD).2.1 = sXM) ∨ (p ≠ [] ∧ (at_.getD (x.2.2.1 + i) atD).2.1 = []) then 1 else 0 := by unfold nm3; rw [hd]
      generalize hval : (at_.getD (x.2.2.1 + i) atD).2.1 = vl at *
      -- the count
      refine WJ_of (fun (_ : Unit) ρ => NDx σ ρ ∧ ρ.1 = τ.1 ∧ ρ.2 155 = τ.2 155 ∧ ∀ k, ρ.2 160 k = σ.2 160 k + if k = 3 then (sn (fun i => nm3 (at_.getD (x.2.2.1 + i) atD)) (i + 1) : Int) else 0) (fun J14 hJ14 => ?_) ?_
      · have hbad : (p = sXn ∨ vl = sNM ∨ ¬ (p = sXm ↔ vl = sXM) ∨ (p ≠ [] ∧ vl = [])) → inL L 160 3 ∧ inR (τ.2 160 3 + 1) ∧ inL L 160 3 ∧ J14 () (pr τ 160 3 (τ.2 160 3 + 1)) := fun h => by
          rw [if_pos h] at hn3
          refine ⟨⟨by omega, by omega⟩, ⟨by omega, by omega⟩, ⟨by omega, by omega⟩, hJ14 () _ ⟨⟨t1.1, fun r a b => ?_⟩, rfl, ?_, fun k => ?_⟩⟩
          · rw [← t1.2 r a b]
            funext j
            rw [pr_2, if_neg (fun z => b z.1)]
          · funext j
            rw [pr_2, if_neg (by omega)]
          · rw [pr_2]
            by_cases y : k = 3
            · rw [if_pos ⟨rfl, y⟩, if_pos y, h33, y, hsn, hn3]; omega
            · rw [if_neg (fun z => y z.2), if_neg y, t2 k, if_neg y]
        have hok : ¬ (p = sXn ∨ vl = sNM ∨ ¬ (p = sXm ↔ vl = sXM) ∨ (p ≠ [] ∧ vl = [])) → J14 () τ := fun h => by
          rw [if_neg h] at hn3
          refine hJ14 () τ ⟨t1, rfl, rfl, fun k => ?_⟩
          rw [t2 k, hsn, hn3]
          split <;> omega
        refine WJ_dir ?_
        by_cases g1 : p = sXn ∨ vl = sNM
        · rw [if_neg (by rintro ⟨z1, z2⟩; rcases g1 with y | y; exact z1 (v7.mpr y); exact z2 (u9.mpr y))]
          exact hbad (g1.elim Or.inl (fun y => Or.inr (Or.inl y)))
        · rw [if_pos ⟨fun z => g1 (Or.inl (v7.mp z)), fun z => g1 (Or.inr (u9.mp z))⟩]
          by_cases g2 : p = sXm ↔ vl = sXM
          · rw [if_pos (by
              by_cases y : p = sXm
              · rw [if_pos (v6.mpr y), if_pos (u8.mpr (g2.mp y))]
              · rw [if_neg (fun z => y (v6.mp z)), if_neg (fun z => y (g2.mpr (u8.mp z)))])]
            by_cases g3 : p ≠ [] ∧ vl = []
            · rw [if_pos ⟨fun z => g3.1 (v0.mp z), u0.mpr g3.2⟩]
              exact hbad (Or.inr (Or.inr (Or.inr g3)))
            · rw [if_neg (fun z => g3 ⟨fun y => z.1 (v0.mpr y), u0.mp z.2⟩)]
              refine hok ?_
              rintro (y | y | y | y)
              · exact g1 (Or.inl y)
              · exact g1 (Or.inr y)
              · exact y g2
              · exact g3 y
          · rw [if_neg (fun z => g2 (by
              by_cases y : p = sXm
              · rw [if_pos (v6.mpr y)] at z
                by_cases y2 : vl = sXM
                · exact ⟨fun _ => y2, fun _ => y⟩
                · rw [if_neg (fun q => y2 (u8.mp q))] at z; exact absurd z (by decide)
              · rw [if_neg (fun q => y (v6.mp q))] at z
                by_cases y2 : vl = sXM
                · rw [if_pos (u8.mpr y2)] at z; exact absurd z (by decide)
                · exact ⟨fun q => absurd q y, fun q => absurd q y2⟩))]
            exact hbad (Or.inr (Or.inr (Or.inl g2)))
      · rintro _ ρ ⟨p1, p2, p3, p4⟩
        have hdv : dvs at_ x.2.2.1 (i + 1) = dvs at_ x.2.2.1 i ++ [vl] := by rw [dvs_s, hd, if_pos (show (some p).isSome = true from rfl), hval]
        obtain ⟨g1, g2, g3⟩ := t3
        have hgo : ∀ υ, NDx σ υ → υ.2 160 = ρ.2 160 → RLm υ mk (D ++ dvs at_ x.2.2.1 (i + 1)) → inR (((x.2.2.1 + i : Nat) : Int) + 1) ∧ K (((x.2.2.1 + i : Nat) : Int) + 1) υ := fun υ q1 q2 q3 => ⟨⟨by omega, by omega⟩, hK _ _ ⟨i + 1, by omega, by omega, q1, fun k => by rw [q2]; exact p4 k, q3⟩ (by omega)⟩
        have hjr : jw ρ = jw τ := by unfold jw; rw [p2]
        have hwr : ∀ w, wst ρ w = wst τ w := fun w => by rw [p1.wstE, t1.wstE]
        rw [y1, show Int.toNat (vw : Int) = vw from rfl, p3]
        rw [y1] at u0
        refine ⟨fun _ => ⟨by omega, by omega⟩, ?_⟩
        by_cases h1 : vl ≠ [] ∧ vl ∉ (D ++ dvs at_ x.2.2.1 i)
        · have hnm : ¬ τ.2 155 vw = mk := fun z => by
            have := (g2 vw y2).mp z
            rw [y3] at this
            exact h1.2 this.2
          rw [if_pos ⟨fun z => h1.1 (u0.mp z), hnm⟩]
          have hρ2 : NDx σ (pr ρ 155 vw mk) := ⟨p1.1, fun r a b => by
            rw [← p1.2 r a b]
            funext j
            rw [pr_2, if_neg (fun z => a z.1)]⟩
          have ew : wst (pr ρ 155 vw mk) vw = vl := by rw [hρ2.wstE, ← t1.wstE]; exact y3
          refine ⟨⟨by omega, by omega⟩, sp_Meanings_isAbsolute (hρ2.si hS) hsl (by rw [hρ2.jwE]; exact hvj) (by rw [ew]; exact h1.1) ?_⟩
          rw [ew, p2, g1]
          have eb : (if b1 (isAbs vl) = 0 then (1 : Int) else 0) = b1 (!isAbs vl) := by cases isAbs vl <;> rfl
          rw [eb, b1_io]
          refine ⟨is01_b, hgo _ ⟨fun o k a => by rw [pf_1, if_neg a]; exact hρ2.1 o k a, hρ2.2⟩ ?_ ⟨?_, fun w' hw' => ?_, fun w' => ?_⟩⟩
          · funext j
            rw [pf_2, pr_2, if_neg (by omega)]
          · rw [pf_eq, hdv, ← List.append_assoc, rlv_app (l' := [vl])]
            congr 2
            unfold rlv
            rw [List.any_cons, List.any_nil, Bool.or_false, decide_eq_true h1.1, Bool.true_and]
          · have hw2 : w' < jw τ := by
              have e : jw (pf (pr ρ 155 vw mk) 10 7 (b1 (rlv (D ++ dvs at_ x.2.2.1 i) || !isAbs vl))) = jw ρ := by unfold jw; rw [pf_no (by decide)]; rfl
              omega
            have ew' : wst (pf (pr ρ 155 vw mk) 10 7 (b1 (rlv (D ++ dvs at_ x.2.2.1 i) || !isAbs vl))) w' = wst τ w' := by
              rw [wst_pf, hρ2.wstE, t1.wstE]
            rw [ew', pf_2, pr_2, hdv, ← List.append_assoc, List.mem_append (t := [vl]), List.mem_singleton]
            by_cases y : w' = vw
            · rw [if_pos ⟨rfl, y⟩, y, y3]
              exact ⟨fun _ => ⟨h1.1, Or.inr rfl⟩, fun _ => rfl⟩
            · rw [if_neg (fun z => y z.2), p3, g2 w' hw2]
              refine ⟨fun z => ⟨z.1, Or.inl z.2⟩, fun z => ⟨z.1, z.2.elim id (fun z => absurd ?_ y)⟩⟩
              exact tt.1.2.2.2 w' vw (by have := tt.1.jw_le; omega) (by have := tt.1.jw_le; omega) (by rw [z, y3])
          · rw [pf_2, pr_2]
            by_cases y : w' = vw
            · rw [if_pos ⟨rfl, y⟩]; exact Int.le_refl _
            · rw [if_neg (fun z => y z.2), p3]; exact g3 w'
        · have hcond : ¬ (¬ (vw : Int) = 0 ∧ ¬ τ.2 155 vw = mk) := fun z => h1 ⟨fun y => z.1 (u0.mpr y), fun y => z.2 ((g2 vw y2).mpr (by rw [y3]; exact ⟨fun q => z.1 (u0.mpr q), y⟩))⟩
          rw [if_neg hcond]
          have hr : rlv (D ++ dvs at_ x.2.2.1 i ++ [vl]) = rlv (D ++ dvs at_ x.2.2.1 i) := by
            by_cases y : vl = []
            · rw [rlv_app]
              have : rlv [vl] = false := by unfold rlv; rw [List.any_cons, List.any_nil, Bool.or_false, y]; rfl
              rw [this, Bool.or_false]
            · refine rlv_mem ?_
              exact Classical.byContradiction (fun z => h1 ⟨y, z⟩)
          refine hgo ρ p1 rfl ⟨?_, fun w' hw' => ?_, fun w' => by rw [p3]; exact g3 w'⟩
          · rw [p2, g1, hdv, ← List.append_assoc, hr]
          · rw [hwr, p3, g2 w' (by omega), hdv, ← List.append_assoc, List.mem_append (t := [vl]), List.mem_singleton]
            refine ⟨fun z => ⟨z.1, Or.inl z.2⟩, fun z => ⟨z.1, z.2.elim id (fun q => ?_)⟩⟩
            rw [q]
            exact Classical.byContradiction (fun y => h1 ⟨by rw [← q]; exact z.1, y⟩)
  · rw [if_neg (by omega)]
    have ei : i = x.2.2.2.1 := by omega
    rw [ei] at t2 t3
    exact hq τ t1 t2 t3
end Dcs
