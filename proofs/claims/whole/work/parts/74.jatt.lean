/-! ===== attribute declarations in the class: how they are written ===== -/
/-- the store's constants that are types -/
def jty (σ : IS) : Prop := 19 ≤ σ.1 1 14 ∧ ∀ t, t < 9 → wst σ (10 + t) = tyT.getD t []
def dfP (T : Nat → Int) (e i : Nat) : Option Nat := if dfK T e i = 1 then some (i + 9) else if dfK T e i = 2 then some (i + 8) else dfV T e i
section JAtt
variable {L : Nat → Nat} {σ τ : IS} {e : Nat} {o : Option Nat}
set_option maxRecDepth 10000 in
theorem j_readList0 {Q : IS → Prop} (hS : JS L σ e) (b : Bool) {a2 : Int} (ha : a2 = b1 b) (h : jp e 0 σ o τ) (hq : ∀ τ', jp e 0 σ (brt (σ.2 101) e b o) τ' → Q τ') : w_Doctype_readList L 0 a2 Q τ := by
  have he : e < 1000000 := by have := hS.2.1; have := hS.2.2.1; omega
  unfold w_Doctype_readList
  refine p_need hS (by omega) ti_1037 (by decide) h (fun τ1 h1 => ?_)
  refine WL_ind (fun s ρ => (s.1 = 1 ∧ ∃ z, jp e 0 σ z ρ ∧ brt (σ.2 101) e b o = z.bind (brk (σ.2 101) e b (e + 1)) ∧ ∀ q, z = some q → q ≤ e ∧ 0 ≤ s.2 ∧ s.2 ≤ (q : Int)) ∨ (s.1 = 0 ∧ ∃ z, jp e 0 σ z ρ ∧ brt (σ.2 101) e b o = wd (σ.2 101) e [41] z)) (fun s _ => (2 * (1000000 - s.2) + s.1).toNat) ?_ (1, 0) τ1 (Or.inl ⟨rfl, _, h1, rfl, fun q hq => ⟨by rw [hq] at h1; exact h1.at.2, by dsimp only; omega, by dsimp only; omega⟩⟩)
  rintro ⟨s, t⟩ ρ hI0 K hI
  dsimp only at hI0 hI ⊢
  rcases hI0 with ⟨rfl, z, hz, hb, hzq⟩ | ⟨rfl, z, hz, hb⟩
  · have hfl := hz.fault hS
    cases z with
    | none =>
      have hf5 : ρ.1 2 4 = 5 := jp.f5 hz
      rw [if_neg (fun y => by rw [hf5] at y; exact absurd y.2.2 (by decide))]
      exact p_need hS (by omega) ti_1040 (by decide) hz (fun τ' h' => hq τ' (by rw [hb]; exact h'))
    | some q =>
      obtain ⟨hqe, ht0, htq⟩ := hzq q rfl
      have hf0 : ρ.1 2 4 = 0 := jp.f0 hz (by first | exact hS1 | exact hS)
      rw [if_pos ⟨by omega, by decide, hf0⟩]
      have hb' : brt (σ.2 101) e b o = brk (σ.2 101) e b (e + 1) q := hb
      rw [brk_step hqe] at hb'
      have hsl := sk_le (p := isSp) (T := σ.2 101) hqe
      refine p_skipSpace hS (by omega) hz (fun v8 ρ1 h1 _ _ => ?_)
      refine WJ_of (fun _ ρ2 => jp e 0 σ (nmg (σ.2 101) e b (asp (σ.2 101) e (some q))) ρ2) (fun J hJ => ?_) ?_
      · cases b with
        | false =>
          rw [if_pos (by rw [ha]; rfl)]
          exact p_readToken hS (by omega) h1 (fun v ρ2 h2 _ _ => hJ _ _ h2)
        | true =>
          rw [if_neg (by rw [ha]; decide)]
          exact p_readName hS (by omega) h1 (fun v ρ2 h2 _ _ => hJ _ _ h2)
      · rintro s11 ρ2 h2
        refine WJ_of (fun _ ρ => ρ2 = ρ) (fun J hJ => by rw [if_pos rfl]; exact hJ _ _ rfl) ?_
        rintro _ _ rfl
        refine p_skipSpace hS (by omega) h2 (fun v18 ρ3 h3 _ _ => p_skip hS (by omega) ti_1039 (by decide) h3 (fun v20 ρ4 h4 h01 hv => ⟨⟨by omega, by omega⟩, ?_⟩))
        cases hn : nmg (σ.2 101) e b (asp (σ.2 101) e (some q)) with
        | none =>
          rw [hn] at hb' h4
          dsimp only at hb'
          have h4' : jp e 0 σ none ρ4 := h4
          rcases h01 with rfl | rfl
          · exact hI _ _ (Or.inr ⟨rfl, none, h4', hb'⟩) (by dsimp only; omega)
          · exact hI _ _ (Or.inl ⟨rfl, none, h4', hb', fun q' hq' => by cases hq'⟩) (by dsimp only; omega)
        | some j =>
          rw [hn] at hb' h4 hv
          dsimp only at hb'
          have g1 := nmg_lt (i := sk isSp (σ.2 101) e q) hn
          have g2 := sk_le (p := isSp) (T := σ.2 101) g1.2.2
          have hv' := hv (sk isSp (σ.2 101) e j) rfl
          have h4' : jp e 0 σ (if mt (σ.2 101) e (sk isSp (σ.2 101) e j) [124] = true then some (sk isSp (σ.2 101) e j + 1) else some (sk isSp (σ.2 101) e j)) ρ4 := h4
          by_cases c : mt (σ.2 101) e (sk isSp (σ.2 101) e j) [124] = true
          · rw [if_pos c] at h4' hb'
            rw [c] at hv'
            have hv1 : v20 = 1 := hv'
            refine hI _ _ (Or.inl ⟨hv1, _, h4', hb', fun q' hq' => ?_⟩) (by dsimp only; omega)
            cases hq'
            have := h4'.at.2
            exact ⟨this, by dsimp only; omega, by dsimp only; omega⟩
          · rw [if_neg c] at h4' hb'
            have hv1 : v20 = 0 := by rw [hv']; unfold b1; rw [if_neg c]
            exact hI _ _ (Or.inr ⟨hv1, _, h4', hb'⟩) (by dsimp only; omega)
  · rw [if_neg (fun y => y.2.1 rfl)]
    exact p_need hS (by omega) ti_1040 (by decide) hz (fun τ' h' => hq τ' (by rw [hb]; exact h'))
theorem tyn_some {l : List Int} {t : Nat} (h : tyn l = some t) : t < 9 ∧ tyT.getD t [] = l := by
  unfold tyn at h
  obtain ⟨h1, h2, -⟩ := List.findIdx?_eq_some_iff_getElem.mp h
  have h3 : t < 9 := h1
  refine ⟨h3, ?_⟩
  rw [List.getD_eq_getElem?_getD, List.getElem?_eq_getElem h1]
  simpa using h2
theorem tyn_of : ∀ t, t < 9 → tyn (tyT.getD t []) = some t := by decide
theorem tyn_none {l : List Int} (h : tyn l = none) {t : Nat} (ht : t < 9) : tyT.getD t [] ≠ l := by
  intro h2
  rw [← h2, tyn_of t ht] at h
  cases h
/-- a number among the words is a type's, just if the word is -/
theorem jty_word {l : List Int} (hI : SI L σ) (hc : jty σ) {w : Nat} (hw : (w : Int) < σ.1 1 14) (hl : wst σ w = l) (ht : 10 ≤ w ∧ w ≤ 18) : tyn l = some (w - 10) := by
  have h1 := hc.2 (w - 10) (by omega)
  rw [show 10 + (w - 10) = w by omega, hl] at h1
  rw [h1]
  exact tyn_of _ (by omega)
theorem jty_no {l : List Int} (hI : SI L σ) (hc : jty σ) {w : Nat} (hw : (w : Int) < σ.1 1 14) (hl : wst σ w = l) (ht : ¬ (10 ≤ w ∧ w ≤ 18)) : tyn l = none := by
  cases hn : tyn l with
  | none => rfl
  | some t =>
    exfalso
    obtain ⟨h1, h2⟩ := tyn_some hn
    have h3 := hc.2 t h1
    have h4 := hc.1
    have := hI.2.2.2 w (10 + t) hw (by omega) (by rw [hl, h3, h2])
    omega
theorem jty_nf {l : List Int} (hc : jty σ) (hno : ∀ w : Nat, (w : Int) < σ.1 1 14 → wst σ w ≠ l) : tyn l = none := by
  cases hn : tyn l with
  | none => rfl
  | some t =>
    exfalso
    obtain ⟨h1, h2⟩ := tyn_some hn
    have h4 := hc.1
    exact hno (10 + t) (by omega) (by rw [hc.2 t h1, h2])
set_option maxRecDepth 10000 in
theorem j_readType0 {Q : Int → IS → Prop} (hS : JS L σ e) (hI : SI L σ) (hl : SL L) (hc : jty σ) (h : jp e 0 σ o τ) (hq : ∀ v τ', jp e 0 σ (o.bind (typ (σ.2 101) e)) τ' → Q v τ') : w_Doctype_readType L 0 Q τ := by
  have he : e < 1000000 := by have := hS.2.1; have := hS.2.2.1; omega
  unfold w_Doctype_readType
  refine p_peek hS (by omega) h (fun v2 hv2 => ?_)
  by_cases c : v2 = 40
  · rw [if_pos c]
    refine j_readList0 hS false rfl h (fun τ' h' => hq _ τ' ?_)
    cases o with
    | none => exact h'
    | some i =>
      have hv := hv2 i rfl
      show jp e 0 σ (typ (σ.2 101) e i) τ'
      unfold typ
      rw [if_pos (by rw [← hv]; exact c)]
      exact h'
  · rw [if_neg c]
    refine p_readName hS (by omega) h (fun v5 ρ h1 hv5 hr => ?_)
    obtain ⟨r, hr1, hr2⟩ := h1.pos
    obtain ⟨q, hq1, hq2, hq3⟩ := hr
    have hqr := hq3 r hr1
    have hL1 := hS.2.1
    refine ⟨⟨by omega, by omega⟩, ?_⟩
    -- what comes behind the word
    have hgo : ∀ (v7 : Int) (ρ1 : IS), jp e 0 σ (nmg (σ.2 101) e true o) ρ1 → (∀ i n, o = some i → nmg (σ.2 101) e true (some i) = some n → (tyn (sl (σ.2 101) i (n - i)) = none ∧ (v7 < 10 ∨ 18 < v7)) ∨ (∃ t : Nat, tyn (sl (σ.2 101) i (n - i)) = some t ∧ v7 = 10 + (t : Int))) → WJ (fun (s10 : Unit) (σ11 : IS) => WJ (fun (s14 : Unit) (σ15 : IS) => Q v7 σ15) (fun J12 => if v7 = 18 then w_Reader_needSpace L (fun σ17 => w_Doctype_readList L 0 1 (fun σ19 => J12 () σ19) σ17) σ11 else J12 () σ11)) (fun J8 => if v7 < 10 ∨ (18 < v7) then w_Reader_fail L 5 (fun σ21 => J8 () σ21) ρ1 else J8 () ρ1) := by
      intro v7 ρ1 hρ1 hty
      have hend : ∀ (z : Option Nat) (ρ2 : IS), jp e 0 σ z ρ2 → o.bind (typ (σ.2 101) e) = (if v7 = 18 then brt (σ.2 101) e true (spc (σ.2 101) e z) else z) → (WJ (fun (s14 : Unit) (σ15 : IS) => Q v7 σ15) (fun J12 => if v7 = 18 then w_Reader_needSpace L (fun σ17 => w_Doctype_readList L 0 1 (fun σ19 => J12 () σ19) σ17) ρ2 else J12 () ρ2)) := by
        intro z ρ2 hz hoz
        refine WJ_dir ?_
        dsimp only
        by_cases c2 : v7 = 18
        · rw [if_pos c2]
          rw [if_pos c2] at hoz
          exact p_needSpace hS (by omega) hz (fun ρ3 h3 => j_readList0 hS true rfl h3 (fun τ' h' => hq _ τ' (by rw [hoz]; exact h')))
        · rw [if_neg c2]
          rw [if_neg c2] at hoz
          exact hq _ _ (by rw [hoz]; exact hz)
      -- without a name nothing is right
      have hnone : nmg (σ.2 101) e true o = none → o.bind (typ (σ.2 101) e) = none := by
        intro hn
        cases o with
        | none => rfl
        | some i =>
          have hv := hv2 i rfl
          show typ (σ.2 101) e i = none
          unfold typ
          rw [if_neg (by rw [← hv]; exact c), hn]
      refine WJ_of (fun _ ρ2 => ∃ z, jp e 0 σ z ρ2 ∧ o.bind (typ (σ.2 101) e) = (if v7 = 18 then brt (σ.2 101) e true (spc (σ.2 101) e z) else z)) (fun J hJ => ?_) (fun _ ρ2 hP => ?_)
      · cases hn : nmg (σ.2 101) e true o with
        | none =>
          have hb := hnone hn
          rw [hn] at hρ1
          have hz : o.bind (typ (σ.2 101) e) = (if v7 = 18 then brt (σ.2 101) e true (spc (σ.2 101) e none) else none) := by
            rw [hb]
            split <;> rfl
          by_cases c2 : v7 < 10 ∨ 18 < v7
          · rw [if_pos c2]
            exact p_fail hS hρ1 (fun ρ2 h2 => hJ _ _ ⟨none, h2, hz⟩)
          · rw [if_neg c2]
            exact hJ _ _ ⟨none, hρ1, hz⟩
        | some n =>
          cases o with
          | none => cases hn
          | some i =>
            have hv := hv2 i rfl
            have htyp : typ (σ.2 101) e i = match tyn (sl (σ.2 101) i (n - i)) with
                | none => none
                | some t => if t = 8 then brt (σ.2 101) e true (spc (σ.2 101) e (some n)) else some n := by
              unfold typ
              rw [if_neg (by rw [← hv]; exact c), hn]
              rfl
            rw [hn] at hρ1
            rcases hty i n rfl hn with ⟨ht, c2⟩ | ⟨t, ht, c2⟩
            · rw [if_pos c2]
              rw [ht] at htyp
              dsimp only at htyp
              refine p_fail hS hρ1 (fun ρ2 h2 => hJ _ _ ⟨none, h2, ?_⟩)
              show typ (σ.2 101) e i = _
              rw [htyp]
              split <;> rfl
            · have ht9 := (tyn_some ht).1
              rw [if_neg (by omega)]
              rw [ht] at htyp
              dsimp only at htyp
              refine hJ _ _ ⟨some n, hρ1, ?_⟩
              show typ (σ.2 101) e i = _
              rw [htyp]
              by_cases c3 : t = 8
              · rw [if_pos c3, if_pos (by omega)]
              · rw [if_neg c3, if_neg (by omega)]
      · obtain ⟨z, hz, hoz⟩ := hP
        exact hend z ρ2 hz hoz
    have hstr : ∀ i n, o = some i → nmg (σ.2 101) e true (some i) = some n → sl (σ.2 101) v5.toNat (ρ.1 2 2 - v5).toNat = sl (σ.2 101) i (n - i) := by
      intro i n ho hn
      have e1 := hv5 i ho
      have h1' := h1
      rw [ho, hn] at h1'
      have e2 := h1'.at.1
      have g := nmg_lt hn
      rw [e1, e2, show ((i : Int)).toNat = i by omega, show ((n : Int) - (i : Int)).toNat = n - i by omega]
    refine p_find hI hl h1 ⟨by omega, by omega, by omega⟩ (fun w ρ1 hρ1 hw hws => hgo _ ρ1 hρ1 (fun i n ho hn => ?_)) (fun ρ1 hρ1 hno => hgo _ ρ1 hρ1 (fun i n ho hn => ?_))
    · rw [hstr i n ho hn] at hws
      by_cases c2 : 10 ≤ w ∧ w ≤ 18
      · exact Or.inr ⟨w - 10, jty_word hI hc hw hws c2, by omega⟩
      · exact Or.inl ⟨jty_no hI hc hw hws c2, by omega⟩
    · rw [hstr i n ho hn] at hno
      exact Or.inl ⟨jty_nf hc hno, by omega⟩
theorem j_readHow {Q : Int → IS → Prop} (hS : JS L σ e) (h : jp e 0 σ o τ) (hq : ∀ v τ', jp e 0 σ (o.bind (dfP (σ.2 101) e)) τ' → 0 ≤ v ∧ v ≤ 3 → (∀ i, o = some i → v = if dfK (σ.2 101) e i = 1 then 1 else if dfK (σ.2 101) e i = 2 then 0 else (dfK (σ.2 101) e i : Int) - 1) → Q v τ') : w_Doctype_readHow L Q τ := by
  unfold w_Doctype_readHow
  cases o with
  | none =>
    refine p_skip hS (by omega) ti_1042 (by decide) h (fun v2 ρ1 h1 c1 _ => ?_)
    rcases c1 with rfl | rfl
    · rw [if_pos rfl]
      refine p_skip hS (by omega) ti_1043 (by decide) h1 (fun v2 ρ2 h2 c2 _ => ?_)
      rcases c2 with rfl | rfl
      · rw [if_pos rfl]
        refine p_skip hS (by omega) ti_1044 (by decide) h2 (fun v2 ρ3 h3 c3 _ => ?_)
        rcases c3 with rfl | rfl
        · rw [if_pos rfl]
          exact hq _ _ h3 (by omega) (fun i hi => by cases hi)
        · rw [if_neg (by decide)]
          exact p_needSpace hS (by omega) h3 (fun ρ4 h4 => hq _ _ h4 (by omega) (fun i hi => by cases hi))
      · rw [if_neg (by decide)]
        exact hq _ _ h2 (by omega) (fun i hi => by cases hi)
    · rw [if_neg (by decide)]
      exact hq _ _ h1 (by omega) (fun i hi => by cases hi)
  | some i =>
    have hk : dfK (σ.2 101) e i = if mt (σ.2 101) e i [35, 82, 69, 81, 85, 73, 82, 69, 68] = true then 1 else if mt (σ.2 101) e i [35, 73, 77, 80, 76, 73, 69, 68] = true then 2 else if mt (σ.2 101) e i [35, 70, 73, 88, 69, 68] = true then 3 else 4 := rfl
    have hP : (some i).bind (dfP (σ.2 101) e) = if dfK (σ.2 101) e i = 1 then some (i + 9) else if dfK (σ.2 101) e i = 2 then some (i + 8) else if dfK (σ.2 101) e i = 4 then some i else if dfK (σ.2 101) e i = 3 then spc (σ.2 101) e (some (i + 6)) else none := rfl
    rw [hP] at hq
    refine p_skip hS (by omega) ti_1042 (by decide) h (fun v2 ρ1 h1 _ hv1 => ?_)
    rw [hv1 i rfl, if_b1]
    have h1' : jp e 0 σ (if mt (σ.2 101) e i [35, 82, 69, 81, 85, 73, 82, 69, 68] = true then some (i + 9) else some i) ρ1 := h1
    by_cases c1 : mt (σ.2 101) e i [35, 82, 69, 81, 85, 73, 82, 69, 68] = true
    · rw [if_pos c1]
      rw [if_pos c1] at h1' hk
      exact hq _ _ (by rw [hk]; exact h1') (by omega) (fun i' hi => by cases hi; rw [hk]; rfl)
    · rw [if_neg c1]
      rw [if_neg c1] at h1' hk
      refine p_skip hS (by omega) ti_1043 (by decide) h1' (fun v2 ρ2 h2 _ hv2 => ?_)
      rw [hv2 i rfl, if_b1]
      have h2' : jp e 0 σ (if mt (σ.2 101) e i [35, 73, 77, 80, 76, 73, 69, 68] = true then some (i + 8) else some i) ρ2 := h2
      by_cases c2 : mt (σ.2 101) e i [35, 73, 77, 80, 76, 73, 69, 68] = true
      · rw [if_pos c2]
        rw [if_pos c2] at h2' hk
        exact hq _ _ (by rw [hk]; exact h2') (by omega) (fun i' hi => by cases hi; rw [hk]; rfl)
      · rw [if_neg c2]
        rw [if_neg c2] at h2' hk
        refine p_skip hS (by omega) ti_1044 (by decide) h2' (fun v2 ρ3 h3 _ hv3 => ?_)
        rw [hv3 i rfl, if_b1]
        have h3' : jp e 0 σ (if mt (σ.2 101) e i [35, 70, 73, 88, 69, 68] = true then some (i + 6) else some i) ρ3 := h3
        by_cases c3 : mt (σ.2 101) e i [35, 70, 73, 88, 69, 68] = true
        · rw [if_pos c3]
          rw [if_pos c3] at h3' hk
          exact p_needSpace hS (by omega) h3' (fun ρ4 h4 => hq _ _ (by rw [hk]; exact h4) (by omega) (fun i' hi => by cases hi; rw [hk]; rfl))
        · rw [if_neg c3]
          rw [if_neg c3] at h3' hk
          exact hq _ _ (by rw [hk]; exact h3') (by omega) (fun i' hi => by cases hi; rw [hk]; rfl)
end JAtt
