/-! ===== names and their prefixes (pure) ===== -/
/-- the last colon of the first i letters, and how many there are -/
def clk (s : Str) : Nat → Int × Nat
  | 0 => (-1, 0)
  | i + 1 => if s.getD i 0 = 58 then ((i : Int), (clk s i).2 + 1) else clk s i
/-- a colon that parts a name -/
def okq (s : Str) : Prop := (clk s s.length).2 = 1 ∧ 0 < (clk s s.length).1 ∧ (clk s s.length).1 < (s.length : Int) - 1 ∧ noSt (s.getD ((clk s s.length).1.toNat + 1) 0) = false
theorem okq_dec (s : Str) : okq s ∨ ¬ okq s := Classical.em _
/-- the prefix; none if the name is none that may have one -/
noncomputable def prf (s : Str) : Option Str := if (clk s s.length).2 = 0 then some [] else @ite _ (okq s) (Classical.propDecidable _) (some (s.take (clk s s.length).1.toNat)) none
/-- what is behind the prefix -/
noncomputable def lcl (s : Str) : Str := @ite _ ((clk s s.length).2 ≠ 0 ∧ okq s) (Classical.propDecidable _) (s.drop ((clk s s.length).1.toNat + 1)) s
section Prf
variable {s : Str}
theorem prf_0 (h : (clk s s.length).2 = 0) : prf s = some [] ∧ lcl s = s := by
  unfold prf lcl
  rw [if_pos h, if_neg (fun z => z.1 h)]
  exact ⟨rfl, rfl⟩
theorem prf_1 (h : okq s) : prf s = some (s.take (clk s s.length).1.toNat) ∧ lcl s = s.drop ((clk s s.length).1.toNat + 1) := by
  unfold prf lcl
  have h0 : (clk s s.length).2 ≠ 0 := by have := h.1; omega
  rw [if_neg h0, if_pos h, if_pos ⟨h0, h⟩]
  exact ⟨rfl, rfl⟩
theorem prf_n (h0 : (clk s s.length).2 ≠ 0) (h : ¬ okq s) : prf s = none ∧ lcl s = s := by
  unfold prf lcl
  rw [if_neg h0, if_neg h, if_neg (fun z => h z.2)]
  exact ⟨rfl, rfl⟩
theorem clk_in : ∀ n, (clk s n).1 < (n : Int) ∧ -1 ≤ (clk s n).1 ∧ (0 < (clk s n).2 → 0 ≤ (clk s n).1 ∧ s.getD (clk s n).1.toNat 0 = 58) ∧ (clk s n).2 ≤ n := by
  intro n
  induction n with
  | zero => exact ⟨show (-1 : Int) < 0 by decide, show (-1 : Int) ≤ -1 by decide, fun h => absurd h (Nat.lt_irrefl 0), Nat.le_refl _⟩
  | succ n ih =>
    have e : clk s (n + 1) = if s.getD n 0 = 58 then ((n : Int), (clk s n).2 + 1) else clk s n := rfl
    rw [e]
    split
    · rename_i h
      exact ⟨by dsimp only; omega, by dsimp only; omega, fun _ => ⟨by dsimp only; omega, h⟩, by dsimp only; omega⟩
    · exact ⟨by omega, ih.2.1, ih.2.2.1, by omega⟩
theorem okq_spt (h : okq s) : spt s = true := by
  obtain ⟨h1, h2, h3, -⟩ := h
  have hc := (clk_in (s := s) s.length).2.2.1 (by omega)
  unfold spt
  rw [Bool.and_eq_true]
  refine ⟨decide_eq_true (by omega), ?_⟩
  rw [List.contains_iff_mem]
  have hl : (clk s s.length).1.toNat < s.length := by omega
  have h58 := hc.2
  rw [List.getD_eq_getElem?_getD, List.getElem?_eq_getElem hl] at h58
  have h58' : s[(clk s s.length).1.toNat] = 58 := h58
  rw [← h58']
  exact List.getElem_mem hl
end Prf
/-! ===== the class parts names ===== -/
/-- what is known of a word that was parted -/
def SPW (τ : IS) (w : Nat) : Prop := ((prf (wst τ w) = none ∧ τ.2 156 w = -1) ∨ ∃ p, prf (wst τ w) = some p ∧ Jn τ (τ.2 156 w - 1) p) ∧ Jn τ (τ.2 157 w) (lcl (wst τ w))
/-- what parting names may change -/
def SPx (L : Nat → Nat) (σ τ : IS) : Prop := (∀ o k, ¬ (o = 1 ∧ (k = 13 ∨ k = 14)) → τ.1 o k = σ.1 o k) ∧ (∀ r, ¬ (102 ≤ r ∧ r ≤ 106) → r ≠ 156 → r ≠ 157 → τ.2 r = σ.2 r) ∧ sgr σ τ ∧ SI L τ
section Spl
variable {L : Nat → Nat} {σ τ υ : IS}
theorem SPx.refl (h : SI L σ) : SPx L σ σ := ⟨fun _ _ _ => rfl, fun _ _ _ _ => rfl, sgr.refl, h⟩
theorem SPx.trans (h1 : SPx L σ τ) (h2 : SPx L τ υ) : SPx L σ υ := ⟨fun o k a => (h2.1 o k a).trans (h1.1 o k a), fun r a b c => (h2.2.1 r a b c).trans (h1.2.1 r a b c), h1.2.2.1.trans h2.2.2.1, h2.2.2.2⟩
theorem SPW.gr {w : Nat} (h : SPW σ w) (hw : w < jw σ) (g : sgr σ τ) (h6 : τ.2 156 w = σ.2 156 w) (h7 : τ.2 157 w = σ.2 157 w) : SPW τ w := by
  unfold SPW
  rw [g.2.2.1 w hw, h6, h7]
  obtain ⟨h1, h2⟩ := h
  refine ⟨?_, h2.gr g⟩
  rcases h1 with h1 | ⟨p, h3, h4⟩
  · exact Or.inl h1
  · exact Or.inr ⟨p, h3, h4.gr g⟩
theorem sp_letter {Q : Int → IS → Prop} {w i : Nat} (hS : SI L σ) (hl : SL L) (hw : w < jw σ) (hi : i < wsz σ w) (hq : Q ((wst σ w).getD i 0) σ) : w_Store_letter L (w : Int) (i : Int) Q σ := by
  obtain ⟨l1, l2, e1, e2, l3⟩ := hS.word hl hw
  have l9 : L 101 < 1000000 := hl.2.2.2.2.2.2.2
  unfold w_Store_letter
  rw [show Int.toNat (w : Int) = w from rfl, e1, e2, show Int.toNat ((wfr σ w : Int) + (i : Int)) = wfr σ w + i by omega, if_neg (by omega), if_pos (by omega)]
  refine ⟨fun _ => ⟨⟨by omega, by omega⟩, fun _ => ⟨⟨by omega, by omega⟩, ⟨by omega, by omega⟩, ⟨by omega, by omega⟩⟩⟩, ?_⟩
  have : (wst σ w).getD i 0 = σ.2 101 (wfr σ w + i) := by
    unfold wst
    rw [List.getD_eq_getElem?_getD, sl_get hi]
    rfl
  rw [this] at hq
  exact hq
theorem pr_SP {r i : Nat} {x : Int} (h : SI L σ) (hr : r = 156 ∨ r = 157) : SPx L σ (pr σ r i x) := by
  have h2 := SI_pr (L := L) (r := r) (i := i) (x := x) h (by omega)
  refine ⟨fun _ _ _ => rfl, fun q a b c => ?_, h2.2, h2.1⟩
  funext j
  rw [pr_2, if_neg (by omega)]
theorem intd.sp {l : List Int} {x : Int} (hI : SI L σ) (h : intd L σ τ l x) : SPx L σ τ ∧ Jn τ x l ∧ jw τ ≤ jw σ + 1 := by
  obtain ⟨hg, hj⟩ := h.gr hI
  obtain ⟨i1, -, -, i4, -, i6⟩ := h
  refine ⟨⟨fun o k a => i4.1 o k a, fun r a b c => funext (fun i => i4.2 r i (by omega)), hg, i1⟩, hj, ?_⟩
  unfold jw
  rcases i6 with q | q
  · rw [q.2.1]; omega
  · rw [q.2.1]; omega
set_option maxHeartbeats 1000000 in
theorem sp_Meanings_split {Q : IS → Prop} {w : Nat} (hS : SI L σ) (hl : SL L) (hL : L 156 = L 102 ∧ L 157 = L 102) (hw : w < jw σ) (h0 : wst σ 0 = []) (hj0 : 0 < jw σ) (hcap : σ.2 156 w = 0 → okq (wst σ w) → jw σ + 2 ≤ L 102) (hq0 : σ.2 156 w ≠ 0 → Q σ) (hq : ∀ σ', σ.2 156 w = 0 → SPx L σ σ' → (∀ v, v ≠ w → σ'.2 156 v = σ.2 156 v ∧ σ'.2 157 v = σ.2 157 v) → σ'.2 156 w ≠ 0 → SPW σ' w → jw σ' ≤ jw σ + 2 → (¬ okq (wst σ w) → jw σ' = jw σ) → Q σ') : w_Meanings_split L (w : Int) Q σ := by
  obtain ⟨l1, l2, e1, e2, l3⟩ := hS.word hl hw
  have l9 : L 101 < 1000000 := hl.2.2.2.2.2.2.2
  have h102 : L 102 < 1000000 := hl.2.2.2.2.2.2.1
  have hln : (wst σ w).length = wsz σ w := by unfold wst; rw [sl_ln]
  have htp := hS.jtp_le
  have hwt : wfr σ w + wsz σ w ≤ jtp σ := by
    have hj2 := hS.jw_le
    have := (hS.2.1 w (by omega)).2.2.1
    omega
  unfold w_Meanings_split
  rw [show Int.toNat (w : Int) = w from rfl]
  refine ⟨⟨by omega, by omega⟩, ?_⟩
  by_cases c : σ.2 156 w = 0
  · rw [if_pos c]
    refine ⟨⟨by omega, by omega⟩, ?_⟩
    rw [e2]
    generalize hs : wst σ w = s at *
    refine WL_ind (fun (z : Int × Int × Int) τ => ∃ i : Nat, z = ((clk s i).1, ((clk s i).2 : Int), (i : Int)) ∧ i ≤ wsz σ w ∧ σ = τ) (fun z _ => (wsz σ w - z.2.2).toNat) ?_ _ σ ⟨0, rfl, Nat.zero_le _, rfl⟩
    rintro _ τ ⟨i, rfl, hi, rfl⟩ K hK
    dsimp only at hK ⊢
    have hcl := clk_in (s := s) i
    by_cases ci : i < wsz σ w
    · rw [if_pos (by omega)]
      refine sp_letter hS hl hw ci (WJ_dir ?_)
      rw [hs]
      have ek : clk s (i + 1) = if s.getD i 0 = 58 then ((i : Int), (clk s i).2 + 1) else clk s i := rfl
      by_cases c58 : s.getD i 0 = 58
      · rw [if_pos c58]
        refine ⟨⟨by omega, by omega⟩, ⟨by omega, by omega⟩, hK _ _ ⟨i + 1, ?_, by omega, rfl⟩ (by dsimp only; omega)⟩
        rw [ek, if_pos c58]
        rfl
      · rw [if_neg c58]
        refine ⟨⟨by omega, by omega⟩, hK _ _ ⟨i + 1, ?_, by omega, rfl⟩ (by dsimp only; omega)⟩
        rw [ek, if_neg c58]
        rfl
    · rw [if_neg (by omega)]
      have ei : i = s.length := by omega
      rw [ei] at hcl ⊢
      generalize hc1 : (clk s s.length).1 = c1 at *
      generalize hc2 : (clk s s.length).2 = c2 at *
      refine ⟨⟨by omega, by omega⟩, ⟨by omega, by omega⟩, WJ_dir ?_⟩
      -- before the prefix is known
      have p1 := pr_SP (L := L) (r := 156) (i := w) (x := -1) hS (Or.inl rfl)
      have p2 := pr_SP (L := L) (r := 157) (i := w) (x := (w : Int)) p1.2.2.2 (Or.inr rfl)
      have p12 := p1.trans p2
      generalize hρ : pr (pr σ 156 w (-1)) 157 w (w : Int) = ρ at *
      have r6 : ∀ v, ρ.2 156 v = if v = w then -1 else σ.2 156 v := fun v => by
        rw [← hρ, pr_2, if_neg (by omega), pr_2]
        by_cases y : v = w
        · rw [if_pos ⟨rfl, y⟩, if_pos y]
        · rw [if_neg (fun z => y z.2), if_neg y]
      have r7 : ∀ v, ρ.2 157 v = if v = w then (w : Int) else σ.2 157 v := fun v => by
        rw [← hρ, pr_2]
        by_cases y : v = w
        · rw [if_pos ⟨rfl, y⟩, if_pos y]
        · rw [if_neg (fun z => y z.2), if_neg y, pr_2, if_neg (by omega)]
      have rj : jw ρ = jw σ := by rw [← hρ]; rfl
      have rw' : ∀ v, v < jw σ → wst ρ v = wst σ v := fun v hv => p12.2.2.1.2.2.1 v hv
      have hnq : ¬ okq s → c2 ≠ 0 → Q ρ := fun hno hc0 => by
        obtain ⟨y1, y2⟩ := prf_n (s := s) (by rw [hc2]; exact hc0) hno
        refine hq ρ c p12 (fun v hv => by rw [r6, r7, if_neg hv, if_neg hv]; exact ⟨rfl, rfl⟩) (by rw [r6, if_pos rfl]; decide) ⟨Or.inl ⟨by rw [rw' w hw, hs]; exact y1, by rw [r6, if_pos rfl]⟩, w, by rw [r7, if_pos rfl], by rw [rj]; exact hw, by rw [rw' w hw, hs, y2]⟩ (by omega) (fun _ => rj)
      by_cases z0 : c2 = 0
      · rw [if_pos (by omega)]
        obtain ⟨y1, y2⟩ := prf_0 (s := s) (by rw [hc2]; exact z0)
        have p3 := pr_SP (L := L) (r := 156) (i := w) (x := 1) p12.2.2.2 (Or.inl rfl)
        have p13 := p12.trans p3
        have e6 : ∀ v, (pr ρ 156 w 1).2 156 v = if v = w then 1 else σ.2 156 v := fun v => by
          rw [pr_2]
          by_cases y : v = w
          · rw [if_pos ⟨rfl, y⟩, if_pos y]
          · rw [if_neg (fun z => y z.2), if_neg y, r6, if_neg y]
        have e7 : ∀ v, (pr ρ 156 w 1).2 157 v = ρ.2 157 v := fun v => by rw [pr_2, if_neg (by omega)]
        have ew : ∀ v, v < jw σ → wst (pr ρ 156 w 1) v = wst σ v := fun v hv => p13.2.2.1.2.2.1 v hv
        have hno : ¬ okq s := fun y => by have := y.1; rw [hc2] at this; omega
        refine ⟨⟨by omega, by omega⟩, hq _ c p13 (fun v hv => by rw [e6, e7, r7, if_neg hv, if_neg hv]; exact ⟨rfl, rfl⟩) (by rw [e6, if_pos rfl]; decide) ⟨Or.inr ⟨[], by rw [ew w hw, hs]; exact y1, 0, by rw [e6, if_pos rfl]; rfl, by show 0 < jw ρ; omega, by rw [ew 0 hj0, h0]⟩, w, by rw [e7, r7, if_pos rfl], by show w < jw ρ; omega, by rw [ew w hw, hs, y2]⟩ (by show jw ρ ≤ _; omega) (fun _ => rj)⟩
      · rw [if_neg (by omega)]
        refine ⟨fun _ _ => ⟨by omega, by omega⟩, ?_⟩
        by_cases z1 : c2 = 1 ∧ 0 < c1 ∧ c1 < (s.length : Int) - 1
        · rw [if_pos ⟨by omega, z1.2.1, by omega⟩]
          obtain ⟨k, hk⟩ : ∃ k : Nat, c1 = (k : Int) := ⟨c1.toNat, by omega⟩
          have hzs : wsz ρ w = wsz σ w := by unfold wsz; rw [(p12.2.2.1.2.2.2.2 w hw).2]
          have hfr : wfr ρ w = wfr σ w := by unfold wfr; rw [(p12.2.2.1.2.2.2.2 w hw).1]
          rw [hk, show ((k : Int) + 1) = ((k + 1 : Nat) : Int) by omega]
          refine ⟨⟨by omega, by omega⟩, sp_letter p12.2.2.2 hl (by omega) (by rw [hzs]; omega) (sp_Reader_isNoStart ?_)⟩
          rw [rw' w hw, hs]
          cases hns : noSt (s.getD (k + 1) 0) with
          | true =>
            rw [if_neg (by decide)]
            refine hnq (fun y => ?_) z0
            have := y.2.2.2
            rw [hc1, hk, show Int.toNat (k : Int) = k from rfl, hns] at this
            cases this
          | false =>
            rw [if_pos (by decide)]
            have hok : okq s := ⟨by rw [hc2]; exact z1.1, by rw [hc1]; exact z1.2.1, by rw [hc1]; exact z1.2.2, by rw [hc1, hk, show Int.toNat (k : Int) = k from rfl]; exact hns⟩
            have hcp := hcap c hok
            obtain ⟨y1, y2⟩ := prf_1 hok
            rw [hc1, hk, show Int.toNat (k : Int) = k from rfl] at y1 y2
            have e102 : ρ.2 102 w = (wfr σ w : Int) := by rw [(p12.2.2.1.2.2.2.2 w hw).1]; exact e1
            have e101 : ρ.2 101 = σ.2 101 := p12.2.1 101 (by omega) (by decide) (by decide)
            have jt1 : ρ.1 1 3 = σ.1 1 3 := p12.1 1 3 (by omega)
            have j14 : ρ.1 1 14 = σ.1 1 14 := by rw [← hρ]; rfl
            have hjl := hS.jw_le
            rw [e102]
            refine ⟨⟨by omega, by omega⟩, sp_Store_intern p12.2.2.2 hl ⟨by omega, by omega, by omega⟩ (fun _ => by omega) (fun x ρ2 hi2 => ?_)⟩
            rw [e101, show Int.toNat (wfr σ w : Int) = wfr σ w from rfl, show Int.toNat (k : Int) = k from rfl] at hi2
            obtain ⟨g1, g2, g3⟩ := hi2.sp p12.2.2.2
            have hst : wst σ w = sl (σ.2 101) (wfr σ w) (wsz σ w) := rfl
            have hpre : sl (σ.2 101) (wfr σ w) k = s.take k := by rw [← hs, hst, sl_take2 (by omega)]
            have hpost : sl (σ.2 101) (wfr σ w + k + 1) (s.length - k - 1) = s.drop (k + 1) := by
              rw [← hs, hst, sl_drop2, show wfr σ w + (k + 1) = wfr σ w + k + 1 by omega]
              congr 1
              rw [← hst, hs]
              omega
            rw [hpre] at g2
            have g2j := g2.rng g1.2.2.2
            have j2 := g1.2.2.2.jw_le
            have e102b : ρ2.2 102 w = (wfr σ w : Int) := by rw [(g1.2.2.1.2.2.2.2 w (by omega)).1]; exact e102
            rw [e102b]
            have p3 := pr_SP (L := L) (r := 156) (i := w) (x := x + 1) g1.2.2.2 (Or.inl rfl)
            have t13 : (pr ρ2 156 w (x + 1)).1 1 3 = σ.1 1 3 := by show ρ2.1 1 3 = _; rw [g1.1 1 3 (by omega)]; exact jt1
            have e101b : (pr ρ2 156 w (x + 1)).2 101 = σ.2 101 := by rw [p3.2.1 101 (by omega) (by decide) (by decide), g1.2.1 101 (by omega) (by decide) (by decide)]; exact e101
            have t14 : (pr ρ2 156 w (x + 1)).1 1 14 = (jw ρ2 : Int) := by show ρ2.1 1 14 = _; omega
            refine ⟨⟨by omega, by omega⟩, ⟨by omega, by omega⟩, ⟨by omega, by omega⟩, ⟨by omega, by omega⟩, ⟨by omega, by omega⟩, ⟨by omega, by omega⟩, ⟨by omega, by omega⟩, sp_Store_intern p3.2.2.2 hl ⟨by omega, by omega, by omega⟩ (fun _ => by omega) (fun x2 ρ3 hi3 => ?_)⟩
            rw [e101b, show Int.toNat ((wfr σ w : Int) + (k : Int) + 1) = wfr σ w + k + 1 by omega, show Int.toNat (((wsz σ w : Nat) : Int) - (k : Int) - 1) = s.length - k - 1 by omega, hpost] at hi3
            obtain ⟨f1, f2, f3⟩ := hi3.sp p3.2.2.2
            have p4 := pr_SP (L := L) (r := 157) (i := w) (x := x2) f1.2.2.2 (Or.inr rfl)
            have hall := ((p12.trans (g1.trans p3)).trans f1).trans p4
            have g6 : ∀ v, ρ2.2 156 v = ρ.2 156 v := fun v => by
              have := hi2.2.2.2.1.2 156 v (by omega)
              exact this
            have g7 : ∀ v, ρ2.2 157 v = ρ.2 157 v := fun v => hi2.2.2.2.1.2 157 v (by omega)
            have f6 : ∀ v, ρ3.2 156 v = (pr ρ2 156 w (x + 1)).2 156 v := fun v => hi3.2.2.2.1.2 156 v (by omega)
            have f7 : ∀ v, ρ3.2 157 v = (pr ρ2 156 w (x + 1)).2 157 v := fun v => hi3.2.2.2.1.2 157 v (by omega)
            have h6 : ∀ v, (pr ρ3 157 w x2).2 156 v = if v = w then x + 1 else σ.2 156 v := fun v => by
              rw [pr_2, if_neg (by omega), f6, pr_2]
              by_cases y : v = w
              · rw [if_pos ⟨rfl, y⟩, if_pos y]
              · rw [if_neg (fun z => y z.2), if_neg y, g6, r6, if_neg y]
            have h7 : ∀ v, (pr ρ3 157 w x2).2 157 v = if v = w then x2 else σ.2 157 v := fun v => by
              rw [pr_2]
              by_cases y : v = w
              · rw [if_pos ⟨rfl, y⟩, if_pos y]
              · rw [if_neg (fun z => y z.2), if_neg y, f7, pr_2, if_neg (by omega), g7, r7, if_neg y]
            have ew : wst (pr ρ3 157 w x2) w = s := by rw [← hs]; exact hall.2.2.1.2.2.1 w hw
            have jend : jw (pr ρ3 157 w x2) = jw ρ3 := rfl
            have j3 : jw (pr ρ2 156 w (x + 1)) = jw ρ2 := rfl
            refine ⟨⟨by omega, by omega⟩, hq _ c hall (fun v hv => by rw [h6, h7, if_neg hv, if_neg hv]; exact ⟨rfl, rfl⟩) (by rw [h6, if_pos rfl]; omega) ⟨Or.inr ⟨s.take k, by rw [ew]; exact y1, ?_⟩, ?_⟩ (by omega) (fun y => absurd hok y)⟩
            · rw [h6, if_pos rfl, show x + 1 - 1 = x by omega]
              exact ((g2.gr p3.2.2.1).gr f1.2.2.1).gr p4.2.2.1
            · rw [h7, if_pos rfl, ew, y2]
              exact f2.gr p4.2.2.1
        · rw [if_neg (by omega)]
          refine hnq (fun y => z1 ?_) z0
          have := y.1
          have := y.2.1
          have := y.2.2.1
          rw [hc1] at *
          rw [hc2] at *
          exact ⟨by assumption, by assumption, by assumption⟩
  · rw [if_neg c]
    exact hq0 c
end Spl
