/-! ===== items keep what holds (1): an item that goes on in the text ===== -/
/-- what an item leaves -/
def SK (rm nd : Nat) (a a' : AS) : Prop := GI rm nd a' ∧ gmu rm a' < gmu rm a ∧ aN a' 8 = aN a 8 ∧ (1 < (aF a').length → aN a' 7 = plc a)
section PK1
variable {rm nd : Nat} {a a' X : AS} {l : List Int} {g : Nat × Nat} {t : List Frm} {k : Nat}
theorem getD_hd {α : Type} {x y d : α} {r : List α} {i : Nat} {β : Type} (f : α → β) (h : f x = f y) : f ((x :: r).getD i d) = f ((y :: r).getD i d) := by
  cases i with
  | zero => exact h
  | succ i => rfl
theorem SK.upd (hI : GI rm nd a) (hF : aF a = (l, g) :: t) (hX : aF X = aF a) (hk : 0 < k ∧ k ≤ l.length) (hE : aE X = aE a ∨ ∃ x, aE X = aE a ++ [x] ∧ x.2.2.length ≤ aN a 8 ∧ 14 ≤ k)
    (hD : 16 * (aD X).length ≤ 16 * (aD a).length + k) (h0 : aN a 0 ≤ aN X 0 ∧ aN X 0 ≤ rm) (h8 : aN X 8 = aN a 8) (h7 : aN X 7 = aN a 7) (hA : 8 * (aA X).length + aN a 0 ≤ 8 * (aA a).length + k + aN X 0) (hS : evl (aS X) + aN a 0 ≤ evl (aS a) + k + aN X 0) (h1 : aN X 1 + aN a 0 ≤ aN a 1 + k + aN X 0) (h2 : aN X 2 ≤ aN a 2 + k) (hT : (aT X).length ≤ (aT a).length + k)
    (h3 : (aL X).length + (aB X).length ≤ aN X 3 ∧ aN X 3 ≤ nd) (h4 : aN X 4 ≤ 3 ∧ (aN X 4 = 2 ↔ aO X ≠ [])) (h56 : aN X 5 ≤ 1 ∧ aN X 6 ≤ 1) (ho : och (aL X) (aO X)) (hfo : ∀ f ∈ aF a, f.2.2 ≤ (aO X).length) (hL0 : aN X 4 ≤ 1 → aL X = []) (hR : aN X 4 = 1 → (aR X).isSome = true) (hfl : 1 < (aF a).length → aN X 4 = 1 ∨ aN X 4 = 2)
    (hB3 : aN X 4 = 3 → aL X ≠ []) (hC1 : ∀ x ∈ aL X, x.2.2.1 + x.2.2.2.1 ≤ (aB X).length ∧ x.2.2.2.2.1 ≤ x.2.2.2.1) (hC2 : 1 < (aF a).length → aN X 4 = 2 → aN a 4 = 2) : SK rm nd a (adv X k) := by
  obtain ⟨⟨gO, gw, ⟨r1, r2, r3, r4⟩, ⟨c1, c2, c3, c4, c5, c6, c7⟩, -, -, -, ⟨gf1, gf2⟩, -, -, -, g4⟩, ⟨B1, B2, B3⟩, C1, C2⟩ := hI
  have hFX : aF X = (l, g) :: t := by rw [hX]; exact hF
  rw [adv_of hFX]
  have eF : aF (sF X ((l.drop k, g) :: t)) = (l.drop k, g) :: t := rfl
  have hrem : rem (sF X ((l.drop k, g) :: t)) + k = rem a := by
    unfold rem
    rw [eF, hF]
    simp only [List.map_cons, List.sum_cons, List.length_drop]
    omega
  have eE : (aE a).length ≤ (aE X).length ∧ 14 * (aE X).length ≤ 14 * (aE a).length + k ∧ ∀ x ∈ aE X, x.2.2.length ≤ aN a 8 := by
    rcases hE with hE | ⟨x, hE, hx, h14⟩
    · rw [hE]; exact ⟨Nat.le_refl _, by omega, B2⟩
    · rw [hE, List.length_append, List.length_singleton]
      refine ⟨by omega, by omega, fun y hy => ?_⟩
      rcases List.mem_append.mp hy with hy | hy
      · exact B2 y hy
      · rw [List.mem_singleton.mp hy]; exact hx
  have e8 : aN (sF X ((l.drop k, g) :: t)) = aN X := rfl
  have hmem : ∀ {P : Frm → Prop}, (∀ f ∈ aF a, P f) → (P (l, g) → P (l.drop k, g)) → ∀ f ∈ (l.drop k, g) :: t, P f := by
    intro P hP hPP f hf
    rw [hF] at hP
    rcases List.mem_cons.mp hf with rfl | hf
    · exact hPP (hP _ List.mem_cons_self)
    · exact hP f (List.mem_cons_of_mem _ hf)
  have hlen : ((l.drop k, g) :: t).length = (aF a).length := by rw [hF]; rfl
  refine ⟨⟨⟨?_, ?_, ?_, ?_, h3, ⟨h4.1, h4.2, h56.1, h56.2⟩, ho, ⟨?_, ?_⟩, hL0, hR, ?_, ?_⟩, ⟨?_, ?_, hB3⟩, hC1, ?_⟩, ?_, h8, ?_⟩
  · refine ⟨?_, hmem (P := fun f => f.2.1 ≤ (aE X).length) (fun f hf => Nat.le_trans (gO.2 f hf) eE.1) (fun z => z)⟩
    have := gO.1
    rw [hF] at this
    exact this
  · rw [eF, hlen]
    intro i hi
    have := gw i hi
    rw [hF] at this
    rw [getD_hd (x := (l.drop k, g)) (fun z : Frm => z.2.1) (y := (l, g)) rfl]
    exact this
  · rw [e8]; exact ⟨by omega, h0.2, by omega, by omega⟩
  · rw [e8]
    show 14 * (aE X).length + _ ≤ _ ∧ 16 * (aD X).length + _ ≤ _ ∧ 8 * (aA X).length + _ ≤ _ ∧ evl (aS X) + _ ≤ _ ∧ _ ∧ _ ∧ (aT X).length + _ ≤ _
    omega
  · exact hmem (P := fun f => f.2.2 ≤ (aO X).length) hfo (fun z => z)
  · rw [hF] at gf2
    rw [eF]
    rw [List.pairwise_cons] at gf2 ⊢
    exact gf2
  · rw [eF, hlen]; exact hfl
  · rw [hF] at g4
    rw [eF]
    cases t with
    | nil => exact g4
    | cons x r => exact g4
  · rw [eF, e8, h8]
    exact hmem (P := fun f => f.1.length ≤ aN a 8) B1 (fun z => by show (l.drop k).length ≤ _; rw [List.length_drop]; have : l.length ≤ aN a 8 := z; omega)
  · rw [e8, h8]; exact eE.2.2
  · rw [eF, hlen]
    intro h42 i hi
    have := C2 (hC2 (by omega) h42) i hi
    rw [hF] at this
    rw [getD_hd (x := (l.drop k, g)) (fun z : Frm => z.2.2) (y := (l, g)) rfl]
    exact this
  · unfold gmu
    rw [e8, eF, hF]
    simp only [List.map_cons, List.sum_cons, List.length_drop]
    omega
  · rw [eF, hlen]
    intro hl
    have : plc a = aN a 7 := by
      unfold plc
      rw [hF] at hl ⊢
      cases t with
      | nil => rw [List.length_singleton] at hl; omega
      | cons x r => rfl
    rw [this]
    exact h7
/-- a text ends -/
theorem SK.fin (hI : GI rm nd a) (hs : iFin a = .inr a') (hc : cur a = []) : SK rm nd a a' := by
  obtain ⟨⟨gO, gw, ⟨r1, r2, r3, r4⟩, ⟨c1, c2, c3, c4, c5, c6, c7⟩, g3, g5, g6, ⟨gf1, gf2⟩, g7, g8, g9, g4⟩, ⟨B1, B2, B3⟩, C1, C2⟩ := hI
  unfold iFin at hs
  cases hF : aF a with
  | nil => rw [hF] at hs; cases hs
  | cons f t =>
    cases t with
    | nil => rw [hF] at hs; cases hs
    | cons x r =>
      rw [hF] at hs
      dsimp only at hs
      split at hs
      · cases hs
      · rename_i hn
        cases hs
        have hf : f.1 = [] := by unfold cur at hc; rw [hF] at hc; exact hc
        have eF : aF (sF a (x :: r)) = x :: r := rfl
        have hrem : rem (sF a (x :: r)) = rem a := by
          unfold rem
          rw [eF, hF]
          simp [hf]
        have hph := g9 (by rw [hF, List.length_cons, List.length_cons]; omega)
        rw [hF] at gO gw gf1 gf2 g4 B1 C2
        refine ⟨⟨⟨⟨?_, fun z hz => gO.2 z (List.mem_cons_of_mem _ hz)⟩, ?_, ?_, ?_, g3, g5, g6, ⟨fun z hz => gf1 z (List.mem_cons_of_mem _ hz), ?_⟩, g7, g8, fun _ => hph, ?_⟩, ⟨fun z hz => B1 z (List.mem_cons_of_mem _ hz), B2, B3⟩, C1, ?_⟩, ?_, rfl, fun hl => ?_⟩
        · have := gO.1
          rw [List.map_cons, List.nodup_cons] at this
          exact this.2
        · rw [eF]
          intro i hi
          exact gw (i + 1) (by rw [List.length_cons]; omega)
        · rw [hrem]; exact ⟨r1, r2, r3, r4⟩
        · rw [hrem]; exact ⟨c1, c2, c3, c4, c5, c6, c7⟩
        · rw [eF]
          exact (List.pairwise_cons.mp gf2).2
        · rw [eF]
          exact g4
        · rw [eF]
          intro h42 i hi
          exact C2 h42 (i + 1) (by rw [List.length_cons]; omega)
        · unfold gmu
          rw [eF, hF]
          have e0 : aN (sF a (x :: r)) 0 = aN a 0 := rfl
          rw [e0]
          simp [hf]
        · rw [eF] at hl
          have : plc a = aN a 7 := by unfold plc; rw [hF]
          rw [this]
          rfl
/-- a text is gone through -/
theorem SK.entd {i : Nat} (hI : GI rm nd a) (hF : aF a = (l, g) :: t) (hX : aF X = aF a) (hk : 0 < k ∧ k ≤ l.length) (hXE : aE X = aE a) (hXN : aN X = aN a) (hXR : aR X = aR a) (hXD : aD X = aD a) (hXA : aA X = aA a) (hXT : aT X = aT a) (hXB : aB X = aB a) (hXS : aS X = aS a) (hXO : aO X = aO a) (hLl : (aL X).length = (aL a).length) (ho : och (aL X) (aO X)) (hC1 : ∀ x ∈ aL X, x.2.2.1 + x.2.2.2.1 ≤ (aB X).length ∧ x.2.2.2.2.1 ≤ x.2.2.2.1) (hi : i < (aE a).length) (hph : aN a 4 = 1 ∨ aN a 4 = 2) (hs : ent rm X i k = .inr a') : SK rm nd a a' := by
  obtain ⟨⟨gO, gw, ⟨r1, r2, r3, r4⟩, ⟨c1, c2, c3, c4, c5, c6, c7⟩, g3, g5, g6, ⟨gf1, gf2⟩, g7, g8, g9, g4⟩, ⟨B1, B2, B3⟩, C1, C2⟩ := hI
  have hFX : aF X = (l, g) :: t := by rw [hX]; exact hF
  unfold ent at hs
  rw [hFX] at hs
  dsimp only at hs
  rw [hXE, hXN, hXO] at hs
  split at hs
  · cases hs
  · split at hs
    · cases hs
    · rename_i h1 h2
      have hbs : bsy X = bsy a := by unfold bsy; rw [hX]
      rw [hbs] at h2
      cases hs
      generalize htx : ((aE a).getD i ([], false, [])).2.2 = tx at *
      have htl : tx.length ≤ aN a 8 := by
        rw [← htx]
        exact B2 _ (getD_mem hi)
      generalize h7v : (if t = [] then aN a 8 - l.length else aN a 7) = v7
      have eF : aF (sN (sN (sF X ((tx, i + 1, (aO a).length) :: (l.drop k, g) :: t)) 0 (aN a 0 + tx.length)) 7 v7) = (tx, i + 1, (aO a).length) :: (l.drop k, g) :: t := rfl
      have eN : ∀ j, j ≠ 0 → j ≠ 7 → aN (sN (sN (sF X ((tx, i + 1, (aO a).length) :: (l.drop k, g) :: t)) 0 (aN a 0 + tx.length)) 7 v7) j = aN a j := by
        intro j j0 j7
        show (if j = 7 then v7 else if j = 0 then aN a 0 + tx.length else aN X j) = _
        rw [if_neg j7, if_neg j0, hXN]
      have eN0 : aN (sN (sN (sF X ((tx, i + 1, (aO a).length) :: (l.drop k, g) :: t)) 0 (aN a 0 + tx.length)) 7 v7) 0 = aN a 0 + tx.length := rfl
      have hrem : rem (sN (sN (sF X ((tx, i + 1, (aO a).length) :: (l.drop k, g) :: t)) 0 (aN a 0 + tx.length)) 7 v7) + k = rem a + tx.length := by
        unfold rem
        rw [eF, hF]
        simp only [List.map_cons, List.sum_cons, List.length_drop]
        omega
      have hmem : ∀ {P : Frm → Prop}, (∀ f ∈ aF a, P f) → (P (l, g) → P (l.drop k, g)) → P (tx, i + 1, (aO a).length) → ∀ f ∈ (tx, i + 1, (aO a).length) :: (l.drop k, g) :: t, P f := by
        intro P hP hPP hP0 f hf
        rw [hF] at hP
        rcases List.mem_cons.mp hf with rfl | hf
        · exact hP0
        · rcases List.mem_cons.mp hf with rfl | hf
          · exact hPP (hP _ List.mem_cons_self)
          · exact hP f (List.mem_cons_of_mem _ hf)
      have hlen : ((tx, i + 1, (aO a).length) :: (l.drop k, g) :: t).length = (aF a).length + 1 := by rw [hF]; rfl
      refine ⟨⟨⟨⟨?_, ?_⟩, ?_, ?_, ?_, ?_, ?_, ?_, ⟨?_, ?_⟩, ?_, ?_, ?_, ?_⟩, ⟨?_, ?_, ?_⟩, ?_, ?_⟩, ?_, eN 8 (by decide) (by decide), fun hl => ?_⟩
      · rw [eF, List.map_cons, List.nodup_cons]
        have := gO.1
        rw [hF] at this
        refine ⟨fun z => h2 ?_, this⟩
        unfold bsy
        rw [hF]
        exact z
      · show ∀ f ∈ (tx, i + 1, (aO a).length) :: (l.drop k, g) :: t, f.2.1 ≤ (aE X).length
        rw [hXE]
        exact hmem (P := fun f => f.2.1 ≤ (aE a).length) gO.2 (fun z => z) (show i + 1 ≤ _ by omega)
      · rw [eF, hlen]
        intro j hj
        cases j with
        | zero => exact Nat.succ_pos i
        | succ j =>
          have := gw j (by omega)
          rw [hF] at this
          show 0 < (((l.drop k, g) :: t).getD j ([], 0, 0)).2.1
          rw [getD_hd (x := (l.drop k, g)) (fun z : Frm => z.2.1) (y := (l, g)) rfl]
          exact this
      · rw [eN0, eN 8 (by decide) (by decide)]
        exact ⟨by omega, by omega, by omega, r4⟩
      · rw [eN0, eN 1 (by decide) (by decide), eN 2 (by decide) (by decide)]
        show 14 * (aE X).length + _ ≤ _ ∧ 16 * (aD X).length + _ ≤ _ ∧ 8 * (aA X).length + _ ≤ _ ∧ evl (aS X) + _ ≤ _ ∧ _ ∧ _ ∧ (aT X).length + _ ≤ _
        rw [hXE, hXD, hXA, hXS, hXT]
        omega
      · rw [eN 3 (by decide) (by decide)]
        show (aL X).length + (aB X).length ≤ _ ∧ _
        rw [hLl, hXB]
        exact g3
      · rw [eN 4 (by decide) (by decide), eN 5 (by decide) (by decide), eN 6 (by decide) (by decide)]
        show aN a 4 ≤ 3 ∧ (aN a 4 = 2 ↔ aO X ≠ []) ∧ _
        rw [hXO]
        exact g5
      · exact ho
      · show ∀ f ∈ (tx, i + 1, (aO a).length) :: (l.drop k, g) :: t, f.2.2 ≤ (aO X).length
        rw [hXO]
        exact hmem (P := fun f => f.2.2 ≤ (aO a).length) gf1 (fun z => z) (Nat.le_refl _)
      · rw [eF, List.pairwise_cons]
        refine ⟨?_, ?_⟩
        · intro f hf
          rw [hF] at gf1
          rcases List.mem_cons.mp hf with rfl | hf
          · exact gf1 (l, g) List.mem_cons_self
          · exact gf1 f (List.mem_cons_of_mem _ hf)
        · rw [hF] at gf2
          rw [List.pairwise_cons] at gf2 ⊢
          exact gf2
      · rw [eN 4 (by decide) (by decide)]
        intro z
        have := g7 z
        show aL X = []
        exact List.length_eq_zero_iff.mp (by rw [hLl, this]; rfl)
      · rw [eN 4 (by decide) (by decide)]
        intro z
        show (aR X).isSome = true
        rw [hXR]
        exact g8 z
      · rw [eN 4 (by decide) (by decide)]
        exact fun _ => hph
      · rw [eF]
        rw [hF] at g4
        cases t with
        | nil => exact g4
        | cons x r => exact g4
      · rw [eF, eN 8 (by decide) (by decide)]
        exact hmem (P := fun f => f.1.length ≤ aN a 8) B1 (fun z => by show (l.drop k).length ≤ _; rw [List.length_drop]; have : l.length ≤ aN a 8 := z; omega) htl
      · rw [eN 8 (by decide) (by decide)]
        show ∀ x ∈ aE X, _
        rw [hXE]
        exact B2
      · rw [eN 4 (by decide) (by decide)]
        intro z
        omega
      · exact hC1
      · rw [eN 4 (by decide) (by decide), eF, hlen]
        intro h42 j hj
        cases j with
        | zero =>
          have := g5.2.1.mp h42
          exact List.length_pos_iff.mpr this
        | succ j =>
          have := C2 h42 j (by omega)
          rw [hF] at this
          show 0 < (((l.drop k, g) :: t).getD j ([], 0, 0)).2.2
          rw [getD_hd (x := (l.drop k, g)) (fun z : Frm => z.2.2) (y := (l, g)) rfl]
          exact this
      · unfold gmu
        rw [eN0, eF, hF]
        simp only [List.map_cons, List.sum_cons, List.length_drop]
        omega
      · show v7 = plc a
        rw [← h7v]
        unfold plc
        rw [hF]
        cases t with
        | nil => rfl
        | cons x r => rw [if_neg (List.cons_ne_nil _ _)]
end PK1
