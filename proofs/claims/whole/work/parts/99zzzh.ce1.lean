/-! ===== the validator: declarations of elements (2, 3, 4, 6) ===== -/
/-- what declaration i adds to the count k -/
def ctE (ed : List EDc) (el : List Elm) (k i : Nat) : Nat :=
  if k = 2 then (if edf ed (ed.getD i ([], 0, [])).1 = some i then 0 else 1)
  else if k = 3 then (if (ed.getD i ([], 0, [])).2.1 = 2 then rpk (mxN (ed.getD i ([], 0, []))) (mxN (ed.getD i ([], 0, []))).length else 0)
  else if k = 4 then (if (ed.getD i ([], 0, [])).2.1 = 3 ∧ dtm (mvE (ed.getD i ([], 0, []))).2 (mvE (ed.getD i ([], 0, []))).1 (mvE (ed.getD i ([], 0, []))).2.length = false then 1 else 0)
  else if k = 6 then ((chl (kdc ed el) el.length i 0).map (fun e => if fit ed el (ed.getD i ([], 0, [])) e = true then 0 else 1)).sum
  else 0
/-- what these counts may change -/
def EVx (L : Nat → Nat) (σ τ : IS) : Prop := (∀ o k, ¬ (o = 2 ∧ (k = 2 ∨ k = 3)) → ¬ (o = 1 ∧ (k = 13 ∨ k = 14 ∨ k = 16)) → ¬ (o = 9 ∧ (k = 3 ∨ k = 12)) → τ.1 o k = σ.1 o k) ∧ (∀ r, ¬ (102 ≤ r ∧ r ≤ 106) → ¬ (137 ≤ r ∧ r ≤ 145) → r ≠ 149 → r ≠ 155 → τ.2 r = σ.2 r) ∧ sgr σ τ ∧ SI L τ
/-- as before, but for the model's place and the counts -/
def MAz (σ τ : IS) : Prop := (∀ o k, ¬ (o = 9 ∧ k = 12) → τ.1 o k = σ.1 o k) ∧ ∀ r, r ≠ 144 → r ≠ 145 → r ≠ 149 → τ.2 r = σ.2 r
section Src
variable {T : Nat → Int} {e a : Nat} {x : EDc}
theorem sht_of (hT : sl T a x.2.2.length = x.2.2) : SHT (gd x.2.2) T x.2.2.length a := fun i hi => by
  have h := gd_sl (T := T) (c := a) hi
  rw [hT] at h
  exact h.symm
theorem sen_of (hG : GDx x) (ha : a + x.2.2.length ≤ e) (hT : sl T a x.2.2.length = x.2.2) : SEN T e (a + x.2.2.length) := by
  obtain ⟨⟨h1, h2⟩, -⟩ := hG
  refine ⟨by omega, ha, ?_⟩
  rw [show a + x.2.2.length - 1 = a + (x.2.2.length - 1) by omega, sht_of hT _ (by omega)]
  exact h2
theorem md_src (hG : GDx x) (hk : x.2.1 = 3) (ha : a + x.2.2.length ≤ e) (hT : sl T a x.2.2.length = x.2.2) : ∃ r : Nat × Nat × Nat, (a < e ∧ T a = 40) ∧ mdk T e (x.2.2.length + 2) [0] true (a + 1) 0 1 = some r ∧ r.2.1 ≤ 255 ∧ r.2.2 ≤ 60 ∧ lk T e r.1 ≠ 63 ∧ mdV T e (x.2.2.length + 2) [(0, none)] true (a + 1) [] = some ((mvE x).1, (mvE x).2) ∧ (mvE x).2.length = r.2.1 ∧ 2 * r.2.1 + 2 ≤ x.2.2.length := by
  have hsen := sen_of hG ha hT
  have hsh := sht_of hT
  obtain ⟨⟨g1, g2⟩, g3, -⟩ := hG
  obtain ⟨r, ⟨r1, r2⟩, r3, r4, r5, r6⟩ := g3 hk
  have hl2 : 1 < x.2.2.length := by
    refine Classical.byContradiction (fun hc => ?_)
    rw [show x.2.2.length - 1 = 0 by omega, r1] at g2
    exact absurd g2 (by decide)
  have htwo := mdk_two _ _ _ _ _ _ (by simp) r2
  rw [if_pos rfl] at htwo
  obtain ⟨V, NS, v1, v2⟩ := mdV_ex (T := gd x.2.2) (e := x.2.2.length) (x.2.2.length + 2) [(0, none)] true 1 1 [] (by simp) ⟨fun f hf => (by cases hf), by rw [if_pos rfl]; intro v hv; cases hv⟩ r2
  have hmv : mvE x = (V, NS) := by unfold mvE; rw [v1]; rfl
  refine ⟨(a + r.1, r.2), ⟨by omega, ?_⟩, ?_, r3, r4, ?_, ?_, by rw [hmv]; exact v2, by show 2 * r.2.1 + 2 ≤ _; omega⟩
  · have := hsh 0 g1
    rw [Nat.add_zero] at this
    rw [this]
    exact r1
  · rw [hsen.mdkE _ _ _ _ _ _ (by omega), sh_mdk hsh, r2]
    rfl
  · show lk T e (a + r.1) ≠ 63
    rw [lk_b (by omega), hsh _ r5]
    exact r6
  · rw [hmv, hsen.mdVE _ _ _ _ _ (by omega), sh_mdV hsh]
    exact v1
theorem mx_src (hG : GDx x) (hk : x.2.1 = 2) (ha : a + x.2.2.length ≤ e) (hT : sl T a x.2.2.length = x.2.2) : ∃ z, (∀ q, a ≤ q → q < a + mx0 x.2.2 → T q ≠ 41 ∧ T q ≠ 124) ∧ (a ≤ a + mx0 x.2.2 ∧ a + mx0 x.2.2 ≤ e) ∧ mxk T e (x.2.2.length + 1) false (a + mx0 x.2.2) = some z ∧ mxN x = (mxL T e (x.2.2.length + 1) (a + mx0 x.2.2)).map (fun q => sl T q.1 (q.2 - q.1)) ∧ 2 * (mxN x).length + 2 ≤ x.2.2.length := by
  have hsen := sen_of hG ha hT
  have hsh := sht_of hT
  obtain ⟨⟨g1, g2⟩, -, g3⟩ := hG
  obtain ⟨z, z1, z2, z3⟩ := g3 hk
  have htwo := mxL_two _ _ _ _ (by omega) z3
  refine ⟨a + z, fun q h1 h2 => ?_, ⟨by omega, by omega⟩, ?_, ?_, ?_⟩
  · have h := hsh (q - a) (by omega)
    rw [show a + (q - a) = q by omega] at h
    rw [h]
    exact z1 (q - a) (by omega)
  · rw [(hsen.mxkE _ _ _ (by omega)).1, sh_mxk hsh, z3]
    rfl
  · rw [(hsen.mxkE _ false _ (by omega)).2, sh_mxL hsh, List.map_map]
    unfold mxN
    refine List.map_congr_left (fun q hq => ?_)
    have hql := mxL_le _ _ (by omega) q hq
    show sl (gd x.2.2) q.1 (q.2 - q.1) = sl T (a + q.1) (a + q.2 - (a + q.1))
    rw [show a + q.2 - (a + q.1) = q.2 - q.1 by omega, sh_sl hsh (by omega)]
  · unfold mxN
    rw [List.length_map]
    unfold mx0 at *
    omega
end Src
section Cel
variable {L : Nat → Nat} {σ τ υ : IS} {el : List Elm} {ed : List EDc}
theorem EVx.trans (h1 : EVx L σ τ) (h2 : EVx L τ υ) : EVx L σ υ := ⟨fun o k a b c => (h2.1 o k a b c).trans (h1.1 o k a b c), fun r a b c d => (h2.2.1 r a b c d).trans (h1.2.1 r a b c d), h1.2.2.1.trans h2.2.2.1, h2.2.2.2⟩
theorem EVx.refl (h : SI L σ) : EVx L σ σ := ⟨fun _ _ _ _ _ => rfl, fun _ _ _ _ _ => rfl, sgr.refl, h⟩
theorem MMx.ev (h : MMx L σ τ) : EVx L σ τ := ⟨fun o k a b _ => h.1 o k a b, fun r a _ c d => h.2.1 r a c d, h.2.2.1, h.2.2.2⟩
theorem MRx.ev (h : MRx L σ τ) : EVx L σ τ := ⟨fun o k a b c => h.1 o k a (by omega) c, fun r a b _ _ => h.2.1 r a b, h.2.2.1, h.2.2.2⟩
theorem VM.ev {m : Nat} (h : VM σ τ m) (hS : SI L σ) : EVx L σ τ := by
  have h2 := SI_of hS (σ' := τ) (h.1 1 14 (by omega)) (by rw [h.1 1 3 (by omega)]; have := hS.1; omega) (fun r y1 y2 => h.2.1 r (by omega)) (fun i _ => by rw [h.2.1 101 (by decide)])
  exact ⟨fun o k _ b _ => h.1 o k (by omega), fun r _ _ _ d => h.2.1 r d, h2.2, h2.1⟩
theorem MAz.ev (h : MAz σ τ) (hS : SI L σ) : EVx L σ τ := by
  have h2 := SI_of hS (σ' := τ) (h.1 1 14 (by omega)) (by rw [h.1 1 3 (by omega)]; have := hS.1; omega) (fun r y1 y2 => h.2 r (by omega) (by omega) (by omega)) (fun i _ => by rw [h.2 101 (by decide) (by decide) (by decide)])
  exact ⟨fun o k _ _ c => h.1 o k (by omega), fun r _ b c _ => h.2 r (by omega) (by omega) c, h2.2, h2.1⟩
theorem MAz.refl : MAz σ σ := ⟨fun _ _ _ => rfl, fun _ _ _ _ => rfl⟩
theorem MAz.prE {k : Nat} {x : Int} (h : MAz σ τ) : MAz σ (pr τ 149 k x) := ⟨h.1, fun r a b c => by
  rw [← h.2 r a b c]
  funext j
  rw [pr_2, if_neg (fun z => c z.1)]⟩
theorem MAz.ax (h : MAz σ τ) (h2 : MAx τ υ) : MAz σ υ := ⟨fun o k a => (h2.1 o k a).trans (h.1 o k a), fun r a b c => (h2.2 r a b).trans (h.2 r a b c)⟩
theorem MDn.keep {V : MVl} {NS : List Str} (h : MDn σ V NS) (h1 : τ.1 9 3 = σ.1 9 3) (h2 : τ.1 1 14 = σ.1 1 14) (h3 : ∀ r, (101 ≤ r ∧ r ≤ 103) ∨ (137 ≤ r ∧ r ≤ 142) → τ.2 r = σ.2 r) : MDn τ V NS := by
  obtain ⟨⟨a1, a2⟩, b1', b2, b3, b4⟩ := h
  have hbs : ∀ r l p, 137 ≤ r → r ≤ 142 → bs τ r l p = bs σ r l p := fun r l p q1 q2 => by unfold bs; rw [h3 r (Or.inr ⟨q1, q2⟩)]
  refine ⟨⟨by rw [h3 141 (by omega)]; exact a1, fun p hp => ?_⟩, by rw [h3 142 (by omega)]; exact b1', by rw [h1]; exact b2, fun a ha b hb => ?_, fun i hi => ?_⟩
  · rw [hbs _ _ _ (by omega) (by omega), hbs _ _ _ (by omega) (by omega)]
    exact a2 p hp
  · rw [hbs _ _ _ (by omega) (by omega)]
    exact b3 a ha b hb
  · rw [h3 137 (by omega)]
    exact Jn_row (b4 i hi) h2 (fun r q1 q2 => h3 r (by omega))
theorem edf_self {s : Str} {d : Nat} (h : edf ed s = some d) : (ed.getD d ([], 0, [])).1 = s := by
  unfold edf at h
  rw [List.findIdx?_eq_some_iff_getElem] at h
  obtain ⟨h1, h2, -⟩ := h
  rw [List.getD_eq_getElem?_getD, List.getElem?_eq_getElem h1]
  simpa using h2
theorem ctE_le {M : Nat} (h1 : el.length ≤ M) (h2 : ∀ x ∈ ed, (mxN x).length ≤ M) (h0 : 1 ≤ M) (k i : Nat) (hi : i < ed.length) : ctE ed el k i ≤ M := by
  have hx : ed.getD i ([], 0, []) ∈ ed := by
    rw [List.getD_eq_getElem?_getD, List.getElem?_eq_getElem hi]
    exact List.getElem_mem hi
  have h3 := h2 _ hx
  have h4 := rpk_le (l := mxN (ed.getD i ([], 0, []))) (mxN (ed.getD i ([], 0, []))).length
  have hsum : ∀ (l : List Nat) (f : Nat → Nat), (∀ e, f e ≤ 1) → (l.map f).sum ≤ l.length := by
    intro l f hf
    induction l with
    | nil => exact Nat.le_refl _
    | cons e l ih => rw [List.map_cons, List.sum_cons, List.length_cons]; have := hf e; omega
  have h5 := hsum (chl (kdc ed el) el.length i 0) (fun e => if fit ed el (ed.getD i ([], 0, [])) e = true then 0 else 1) (fun e => by split <;> omega)
  have h6 := chl_len (κ := kdc ed el) (n := el.length) (q := i) (j := 0)
  unfold ctE
  repeat' split
  all_goals omega
end Cel
