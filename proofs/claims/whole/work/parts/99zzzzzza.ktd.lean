/-! ===== the reference's trees: names of a model, whether it is deterministic, what it makes ===== -/
/-- only the rows of names and of marks, and whether a model may end, have changed -/
def TXk (σ τ : IS) : Prop := (∀ pp kk, ¬ (pp = 16 ∧ kk = 73) → τ.1 pp kk = σ.1 pp kk) ∧ ∀ r, ¬ (172 ≤ r ∧ r ≤ 174) → τ.2 r = σ.2 r
/-- the row of names -/
def LF (ρ : IS) (t : List KNd) (G : Nat → KGv) (bk : List Str) (n0 : Nat) (NS : List Str) : Prop := ∀ k, k < NS.length → ∃ p, p < t.length ∧ kK t p = 0 ∧ glo (G p) = k ∧ ρ.2 172 k = ((n0 + p : Nat) : Int) ∧ Kn bk (ρ.2 195 (n0 + p)) (NS.getD k [])
/-- which names are marked -/
def MKs (ρ : IS) (n : Nat) (S : Nat → Bool) : Prop := ∀ q, q < n → ρ.2 174 q = b1 (S q)
section Ktd
variable {L : Nat → Nat} {σ τ ρ : IS} {t : List KNd} {G : Nat → KGv} {W : MVl} {NS : List Str} {bk : List Str} {n0 n p i : Nat} {A B S : Nat → Bool} {Q : IS → Prop} {R : Int → IS → Prop}
theorem TXk.refl : TXk σ σ := ⟨fun _ _ _ => rfl, fun _ _ => rfl⟩
theorem TXk.trans (h1 : TXk σ τ) (h2 : TXk τ ρ) : TXk σ ρ := ⟨fun a b c => (h2.1 a b c).trans (h1.1 a b c), fun a b => (h2.2 a b).trans (h1.2 a b)⟩
theorem LVE.tx {c : Bool} (h : LVE σ τ c A) : TXk σ τ := ⟨h.1, fun r z => h.2.2.1 r (by omega)⟩
theorem ENT.tx (h : ENT σ τ A) : TXk σ τ := h.lve.tx
theorem KTr.tx (h : KTr σ bk n0 t) (hx : TXk σ τ) : KTr τ bk n0 t := h.rows (fun r a b => hx.2 r (by omega))
theorem LF.keep (h : LF σ t G bk n0 NS) (h2 : τ.2 172 = σ.2 172) (h5 : τ.2 195 = σ.2 195) : LF τ t G bk n0 NS := fun k hk => by
  rw [h2, h5]
  exact h k hk
theorem lcn_surj {K : Nat → Int} {k : Nat} : ∀ {n : Nat}, k < lcn K n → ∃ p, p < n ∧ K p = 0 ∧ lcn K p = k
  | 0, h => absurd h (Nat.not_lt_zero k)
  | n + 1, h => by
    by_cases c : k < lcn K n
    · obtain ⟨p, h1, h2, h3⟩ := lcn_surj c
      exact ⟨p, by omega, h2, h3⟩
    · have h' : k < lcn K n + (if K n = 0 then 1 else 0) := h
      by_cases ck : K n = 0
      · rw [if_pos ck] at h'
        exact ⟨n, by omega, ck, by omega⟩
      · rw [if_neg ck] at h'
        omega
set_option maxHeartbeats 1000000 in
theorem sp_K_leafs (hL9 : ∀ r, 193 ≤ r → r ≤ 198 → L r = 50000) (h172 : L 172 = 256) (hT : TFk t G W NS) (hR : KTr σ bk n0 t) (hns : NS.length ≤ 256) (h47 : (n0 : Int) + (t.length : Int) ≤ σ.1 16 47) (h47b : σ.1 16 47 ≤ 50000) (hx : (n0 : Int) + (t.length : Int) = σ.1 16 47 ∨ σ.2 198 (n0 + t.length) = -1) (hq : ∀ τ, τ.1 = σ.1 → (∀ r, r ≠ 172 → τ.2 r = σ.2 r) → LF τ t G bk n0 NS → R (NS.length : Int) τ) : w_KReader_leafs L (n0 : Int) R σ := by
  have l193 := hL9 193 (by omega) (by omega)
  have l198 := hL9 198 (by omega) (by omega)
  have hpos := hT.2.1
  obtain ⟨nm1, nm2⟩ := id hT.2.2.2.2.1
  unfold w_KReader_leafs
  refine WL_ind (fun (s3 : Int × Int) ρ => ∃ j : Nat, j ≤ t.length ∧ s3 = ((lcn (kK t) j : Int), ((n0 + j : Nat) : Int)) ∧ ρ.1 = σ.1 ∧ (∀ r, r ≠ 172 → ρ.2 r = σ.2 r) ∧ ∀ p, p < j → kK t p = 0 → ρ.2 172 (lcn (kK t) p) = ((n0 + p : Nat) : Int)) (fun s _ => (((n0 + t.length : Nat) : Int) - s.2).toNat) ?_ _ σ ⟨0, by omega, by rfl, rfl, fun _ _ => rfl, fun p hp => absurd hp (Nat.not_lt_zero p)⟩
  rintro s3 ρ ⟨j, hj, rfl, f1, f2, f3⟩ K hI
  try dsimp only
  refine WJ_dir ?_
  rw [f1, f2 198 (by decide), f2 193 (by decide), show Int.toNat ((n0 + j : Nat) : Int) = n0 + j from rfl]
  by_cases c : j < t.length
  · obtain ⟨r1, r2, r3, r4, r5, r6⟩ := hR j c
    have r1 : σ.2 193 (n0 + j) = kK t j := r1
    have r6 : σ.2 198 (n0 + j) = ksh n0 (kA t j) := r6
    rw [if_pos (by omega)]
    refine ⟨fun _ => ⟨by omega, by omega⟩, ?_⟩
    have hor : ((n0 + j : Nat) : Int) = (n0 : Int) ∨ ¬ σ.2 198 (n0 + j) < (n0 : Int) := by
      rcases hT.2.2.2.1 j c with z | ⟨q, z1, -⟩
      · left; rw [z.1]; rfl
      · right
        rw [r6, z1]
        unfold ksh
        rw [if_neg (by omega)]
        omega
    rw [if_pos hor, r1]
    refine ⟨⟨by omega, by omega⟩, ?_⟩
    refine WJ_dir ?_
    by_cases ck : kK t j = 0
    · have hlt := hT.2.2.2.2.1.lt c ck
      have hs : lcn (kK t) (j + 1) = lcn (kK t) j + 1 := by show lcn (kK t) j + (if kK t j = 0 then 1 else 0) = _; rw [if_pos ck]
      rw [if_pos ck, show Int.toNat (lcn (kK t) j : Int) = lcn (kK t) j from rfl]
      refine ⟨⟨by omega, by omega⟩, ⟨by omega, by omega⟩, ⟨by omega, by omega⟩, hI _ _ ⟨j + 1, by omega, by rw [hs]; rfl, f1, fun r z => ?_, fun p hp hk => ?_⟩ (by dsimp only; omega)⟩
      · funext q; rw [pr_2, if_neg (fun y => z y.1), f2 r z]
      · rw [pr_2]
        by_cases cp : p = j
        · rw [cp, if_pos ⟨rfl, rfl⟩]
        · have hpl : lcn (kK t) p < lcn (kK t) j := by
            have := lcn_mono (K := kK t) (show p + 1 ≤ j by omega)
            have e : lcn (kK t) (p + 1) = lcn (kK t) p + 1 := by show lcn (kK t) p + (if kK t p = 0 then 1 else 0) = _; rw [if_pos hk]
            omega
          rw [if_neg (fun y => by have := y.2; omega)]
          exact f3 p (by omega) hk
    · have hs : lcn (kK t) (j + 1) = lcn (kK t) j := by show lcn (kK t) j + (if kK t j = 0 then 1 else 0) = _; rw [if_neg ck, Nat.add_zero]
      rw [if_neg ck]
      refine ⟨⟨by omega, by omega⟩, hI _ _ ⟨j + 1, by omega, by rw [hs]; rfl, f1, f2, fun p hp hk => ?_⟩ (by dsimp only; omega)⟩
      by_cases cp : p = j
      · rw [cp] at hk; exact absurd hk ck
      · exact f3 p (by omega) hk
  · have hjt : j = t.length := by omega
    subst hjt
    have fin_ : R (lcn (kK t) t.length : Int) ρ := by
      rw [nm2]
      refine hq ρ f1 f2 (fun k hk => ?_)
      rw [← nm2] at hk
      obtain ⟨p, p1, p2, p3⟩ := lcn_surj hk
      obtain ⟨r1, r2, r3, r4, r5, r6⟩ := hR p p1
      have hm := nm1 p p1 p2
      have hg := ((hT.1 p p1).1 p2).1
      refine ⟨p, p1, p2, by omega, by rw [← p3]; exact f3 p p1 p2, ?_⟩
      rw [f2 195 (by decide), ← p3, hm.2]
      exact (r3 p2).1
    by_cases c47 : (n0 : Int) + (t.length : Int) = σ.1 16 47
    · rw [if_neg (by omega)]
      exact fin_
    · have h198 := hx.resolve_left c47
      rw [if_pos (by omega), h198]
      refine ⟨fun _ => ⟨by omega, by omega⟩, ?_⟩
      rw [if_neg (by omega)]
      exact fin_
theorem sp_K_clearLater (h174 : L 174 = 256) (hn : n ≤ 256) (hq : ∀ τ, (∀ pp kk, ¬ (pp = 16 ∧ kk = 73) → τ.1 pp kk = σ.1 pp kk) → τ.1 16 73 = 0 → (∀ r, r ≠ 174 → τ.2 r = σ.2 r) → MKs τ n (fun _ => false) → Q τ) : w_KReader_clearLater L (n : Int) Q σ := by
  unfold w_KReader_clearLater
  refine WL_ind (fun (s : Int) ρ => ∃ j : Nat, j ≤ n ∧ s = (j : Int) ∧ (∀ pp kk, ¬ (pp = 16 ∧ kk = 73) → ρ.1 pp kk = σ.1 pp kk) ∧ ρ.1 16 73 = 0 ∧ (∀ r, r ≠ 174 → ρ.2 r = σ.2 r) ∧ ∀ q, q < j → ρ.2 174 q = 0) (fun s _ => ((n : Int) - s).toNat) ?_ _ _ ⟨0, by omega, rfl, fun pp kk z => by rw [pf_1, if_neg z], pf_eq, fun _ _ => rfl, fun q hq' => absurd hq' (Nat.not_lt_zero q)⟩
  rintro s ρ ⟨j, hj, rfl, f1, f2, f3, f4⟩ K hI
  by_cases c : j < n
  · rw [if_pos (by omega), show Int.toNat (j : Int) = j from rfl]
    refine ⟨⟨by omega, by omega⟩, ⟨by omega, by omega⟩, hI _ _ ⟨j + 1, by omega, rfl, f1, f2, fun r z => ?_, fun q hq' => ?_⟩ (by omega)⟩
    · funext k; rw [pr_2, if_neg (fun y => z y.1), f3 r z]
    · rw [pr_2]
      by_cases cq : q = j
      · rw [if_pos ⟨rfl, cq⟩]
      · rw [if_neg (fun y => cq y.2)]; exact f4 q (by omega)
  · rw [if_neg (by omega)]
    exact hq ρ f1 f2 f3 (fun q hq' => f4 q (by omega))
set_option maxHeartbeats 1000000 in
theorem sp_K_hasTwins (hL9 : ∀ r, 193 ≤ r → r ≤ 198 → L r = 50000) (h172 : L 172 = 256) (h174 : L 174 = 256) (hbk : bk.Nodup) (hn : n0 + t.length ≤ 50000) (hns : NS.length ≤ 256) (hF : LF σ t G bk n0 NS) (hM : MKs σ NS.length S) (hq : R (b1 (!(sgl NS S NS.length))) σ) : w_KReader_hasTwins L (NS.length : Int) R σ := by
  have l195 := hL9 195 (by omega) (by omega)
  unfold w_KReader_hasTwins
  have sgl_f : ∀ a b, a ≤ b → sgl NS S a = false → sgl NS S b = false := by
    intro a b
    induction b with
    | zero => intro h1 h2; rw [show a = 0 by omega] at h2; exact h2
    | succ b ih =>
      intro h1 h2
      by_cases c : a = b + 1
      · rw [← c]; exact h2
      · show (sgl NS S b && _) = false
        rw [ih (by omega) h2, Bool.false_and]
  refine WL_ind (fun (s : Int) ρ => ρ = σ ∧ ∃ k : Nat, k ≤ NS.length ∧ s = (k : Int) ∧ sgl NS S k = true) (fun s _ => ((NS.length : Int) - s).toNat) ?_ _ σ ⟨rfl, 0, by omega, rfl, rfl⟩
  rintro s ρ ⟨rfl, k, hk, rfl, hs⟩ K hI
  by_cases c : k < NS.length
  · rw [if_pos (by omega)]
    obtain ⟨pk, k1, k2, k3, k4, k5⟩ := hF k c
    refine WL_ind (fun (s8 : Int) υ => υ = ρ ∧ ∃ j : Nat, j ≤ k ∧ s8 = (j : Int) ∧ (S k = true → (List.range j).any (fun a => S a && NS.getD a [] == NS.getD k []) = false)) (fun s _ => ((k : Int) - s).toNat) ?_ _ ρ ⟨rfl, 0, by omega, rfl, fun _ => rfl⟩
    rintro s8 υ ⟨rfl, j, hj, rfl, hj2⟩ K2 hI2
    refine ⟨fun _ => ⟨by omega, by omega⟩, ?_⟩
    rw [show Int.toNat (k : Int) = k from rfl, show Int.toNat (j : Int) = j from rfl, hM k c, k4]
    -- no twin among the first
    have nxt : (S k = true → (List.range k).any (fun a => S a && NS.getD a [] == NS.getD k []) = false) → inR ((k : Int) + 1) ∧ K ((k : Int) + 1) υ := fun hno => by
      refine ⟨⟨by omega, by omega⟩, hI _ _ ⟨rfl, k + 1, by omega, rfl, ?_⟩ (by omega)⟩
      show (sgl NS S k && !(S k && _)) = true
      rw [hs]
      cases hS : S k with
      | false => rfl
      | true => rw [hno hS]; rfl
    by_cases cj : j < k
    · obtain ⟨pj, j1, j2, j3, j4, j5⟩ := hF j (by omega)
      cases hS : S k with
      | false =>
        rw [if_neg (fun z => z.2 (by decide))]
        exact nxt (fun z => by rw [hS] at z; cases z)
      | true =>
        rw [if_pos ⟨by omega, by decide⟩, hM j (by omega), j4]
        refine ⟨⟨by omega, by omega⟩, fun _ => ⟨⟨by omega, by omega⟩, ⟨by omega, by omega⟩, ⟨by omega, by omega⟩, ⟨by omega, by omega⟩⟩, ?_⟩
        rw [show Int.toNat ((n0 + pj : Nat) : Int) = n0 + pj from rfl, show Int.toNat ((n0 + pk : Nat) : Int) = n0 + pk from rfl]
        have hst : (List.range (j + 1)).any (fun a => S a && NS.getD a [] == NS.getD k []) = ((List.range j).any (fun a => S a && NS.getD a [] == NS.getD k []) || (S j && NS.getD j [] == NS.getD k [])) := by
          rw [List.range_succ, List.any_append]
          simp
        cases hSj : S j with
        | false =>
          rw [if_neg (fun z => z.1 (by decide))]
          refine ⟨⟨by omega, by omega⟩, hI2 _ _ ⟨rfl, j + 1, by omega, rfl, fun z => ?_⟩ (by omega)⟩
          rw [hst, hj2 z, hSj]; rfl
        | true =>
          by_cases ce : NS.getD j [] = NS.getD k []
          · rw [if_pos ⟨by decide, (Kn.eqI hbk j5 k5).mpr ce⟩]
            have : sgl NS S (k + 1) = false := by
              show (sgl NS S k && !(S k && (List.range k).any (fun a => S a && NS.getD a [] == NS.getD k []))) = false
              have ha : (List.range k).any (fun a => S a && NS.getD a [] == NS.getD k []) = true := List.any_eq_true.mpr ⟨j, List.mem_range.mpr cj, by rw [hSj, ce]; simp⟩
              rw [hS, ha]
              simp
            rw [sgl_f (k + 1) NS.length (by omega) this] at hq
            exact hq
          · rw [if_neg (fun z => ce ((Kn.eqI hbk j5 k5).mp z.2))]
            refine ⟨⟨by omega, by omega⟩, hI2 _ _ ⟨rfl, j + 1, by omega, rfl, fun z => ?_⟩ (by omega)⟩
            rw [hst, hj2 z]
            have : (NS.getD j [] == NS.getD k []) = false := by simpa using ce
            rw [this]; simp
    · rw [if_neg (fun z => by have := z.1; omega)]
      have : j = k := by omega
      rw [this] at hj2
      exact nxt hj2
  · rw [if_neg (by omega)]
    have : k = NS.length := by omega
    rw [← this, hs] at hq
    exact hq
set_option maxHeartbeats 1000000 in
theorem sp_K_isDeterministic (hL9 : ∀ r, 193 ≤ r → r ≤ 198 → L r = 50000) (h17 : ∀ r, 172 ≤ r → r ≤ 174 → L r = 256) (hbk : bk.Nodup) (hT : TFk t G W NS) (hR : KTr σ bk n0 t) (hns : NS.length ≤ 255) (h47 : (n0 : Int) + (t.length : Int) ≤ σ.1 16 47) (h47b : σ.1 16 47 ≤ 50000) (hx : (n0 : Int) + (t.length : Int) = σ.1 16 47 ∨ σ.2 198 (n0 + t.length) = -1) (hq : ∀ τ, TXk σ τ → R (b1 (dtm NS W NS.length)) τ) : w_KReader_isDeterministic L (n0 : Int) R σ := by
  have h172 := h17 172 (by omega) (by omega)
  have h174 := h17 174 (by omega) (by omega)
  have hn : n0 + t.length ≤ 50000 := by omega
  unfold w_KReader_isDeterministic
  refine sp_K_leafs hL9 h172 hT hR (by omega) h47 h47b hx (fun σ1 f1 f2 hF1 => ?_)
  have x1 : TXk σ σ1 := ⟨fun pp kk _ => by rw [f1], fun r z => f2 r (by omega)⟩
  refine sp_K_clearLater h174 (by omega) (fun σ2 c1 c2 c3 c4 => ?_)
  have x2 : TXk σ σ2 := x1.trans ⟨c1, fun r z => c3 r (by omega)⟩
  have hF2 : LF σ2 t G bk n0 NS := hF1.keep (c3 172 (by decide)) (c3 195 (by decide))
  have en0 : (n0 : Int) = ((n0 + 0 : Nat) : Int) := rfl
  rw [en0]
  refine sp_K_enter hL9 h174 hT hn (by omega) 70 0 σ2 _ (hR.tx x2) hT.2.1 (by omega) (fun σ3 hE => ?_)
  have x3 := x2.trans hE.tx
  have hF3 : LF σ3 t G bk n0 NS := hF2.keep (hE.2.1 172 (by decide)) (hE.2.1 195 (by decide))
  have hM3 : MKs σ3 NS.length W.2.1 := fun q hq' => by
    rw [hE.2.2, c4 q hq', hT.2.2.1]
    cases W.2.1 q <;> rfl
  refine sp_K_hasTwins hL9 h172 h174 hbk hn (by omega) hF3 hM3 ?_
  have e0 : (if b1 (!sgl NS W.2.1 NS.length) = 0 then (1 : Int) else 0) = b1 (dtm NS W 0) := by
    show _ = b1 (sgl NS W.2.1 NS.length)
    cases sgl NS W.2.1 NS.length <;> rfl
  rw [e0]
  have dtm_f : ∀ a b, a ≤ b → dtm NS W a = false → dtm NS W b = false := by
    intro a b
    induction b with
    | zero => intro h1 h2; rw [show a = 0 by omega] at h2; exact h2
    | succ b ih =>
      intro h1 h2
      by_cases c : a = b + 1
      · rw [← c]; exact h2
      · show (dtm NS W b && _) = false
        rw [ih (by omega) h2, Bool.false_and]
  refine WL_ind (fun (s : Int × Int) ρ => ∃ k : Nat, k ≤ NS.length ∧ s = (b1 (dtm NS W k), (k : Int)) ∧ TXk σ ρ ∧ LF ρ t G bk n0 NS) (fun s _ => ((NS.length : Int) - s.2).toNat) ?_ _ σ3 ⟨0, by omega, rfl, x3, hF3⟩
  rintro s ρ ⟨k, hk, rfl, hX, hF⟩ K hI
  try dsimp only
  by_cases c : (k : Int) < (NS.length : Int) ∧ ¬ b1 (dtm NS W k) = 0
  · rw [if_pos c]
    have hdk : dtm NS W k = true := by
      cases h : dtm NS W k with
      | true => rfl
      | false => rw [h] at c; exact absurd (by decide : b1 false = 0) c.2
    refine sp_K_clearLater h174 (by omega) (fun σ5 c1 c2 c3 c4 => ?_)
    have x5 : TXk σ σ5 := hX.trans ⟨c1, fun r z => c3 r (by omega)⟩
    have hF5 : LF σ5 t G bk n0 NS := hF.keep (c3 172 (by decide)) (c3 195 (by decide))
    obtain ⟨pk, k1, k2, k3, k4, k5⟩ := hF5 k (by omega)
    rw [show Int.toNat (k : Int) = k from rfl, k4]
    refine ⟨⟨by omega, by omega⟩, ?_⟩
    refine sp_K_leave hL9 h174 hT hn (by omega) (hR.tx x5) k1 k2 k3 (fun σ6 hV => ?_)
    have x6 := x5.trans hV.tx
    have hF6 : LF σ6 t G bk n0 NS := hF5.keep (hV.2.2.1 172 (by decide)) (hV.2.2.1 195 (by decide))
    have hM6 : MKs σ6 NS.length (W.2.2.2 k) := fun q hq' => by
      rw [hV.2.2.2, c4 q hq']
      cases W.2.2.2 k q <;> rfl
    refine sp_K_hasTwins hL9 h172 h174 hbk hn (by omega) hF6 hM6 ?_
    refine ⟨⟨by omega, by omega⟩, hI _ _ ⟨k + 1, by omega, ?_, x6, hF6⟩ (by dsimp only; omega)⟩
    have : dtm NS W (k + 1) = (dtm NS W k && sgl NS (W.2.2.2 k) NS.length) := rfl
    rw [this, hdk]
    cases sgl NS (W.2.2.2 k) NS.length <;> rfl
  · rw [if_neg c]
    have hd : dtm NS W NS.length = dtm NS W k := by
      by_cases ck : k = NS.length
      · rw [ck]
      · cases h : dtm NS W k with
        | false => exact dtm_f k NS.length (by omega) h
        | true => exact absurd ⟨by omega, by rw [h]; decide⟩ c
    refine ⟨is01_b, ?_⟩
    rw [← hd]
    exact hq ρ hX
end Ktd
