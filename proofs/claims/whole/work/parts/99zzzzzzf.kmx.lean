/-! ===== the reference: mixed content ===== -/
/-- the names of a mixed group, from behind its first word on -/
def mxM (T : Nat → Int) (e k : Nat) : List Str := (mxL T e (e + 1) k).map (fun q => sl T q.1 (q.2 - q.1))
/-- behind the first word of a mixed group -/
def mxQ (T : Nat → Int) (e : Nat) (q : Option Nat) : Option Nat := wd T e [35, 80, 67, 68, 65, 84, 65] (asp T e (wd T e [40] q))
/-- the names of a mixed group, if it begins at all -/
def mxW (T : Nat → Int) (e : Nat) (q : Option Nat) : List Str := match mxQ T e q with
  | none => []
  | some k => mxM T e k
section Kmx
variable {L : Nat → Nat} {rm nd o : Nat} {σ ρ τ : IS} {g g' : KG} {Q : IS → Prop} {R : Int → IS → Prop} {T : Nat → Int} {p e : Nat} {x y : Int} {s : Str} {l : List Str}
theorem mxL_fuelK : ∀ (n m k : Nat), k ≤ e → e < n + k → e < m + k → mxL T e n k = mxL T e m k := by
  intro n
  induction n with
  | zero => intro m k h0 h1 h2; omega
  | succ n ih =>
    intro m k h0 h1 h2
    cases m with
    | zero => omega
    | succ m =>
      show (if mt T e (sk isSp T e k) [124] = true then (match nmg T e true (asp T e (some (sk isSp T e k + 1))) with
        | none => []
        | some j => (sk isSp T e (sk isSp T e k + 1), j) :: mxL T e n j) else []) = (if mt T e (sk isSp T e k) [124] = true then (match nmg T e true (asp T e (some (sk isSp T e k + 1))) with
        | none => []
        | some j => (sk isSp T e (sk isSp T e k + 1), j) :: mxL T e m j) else [])
      by_cases c : mt T e (sk isSp T e k) [124] = true
      · rw [if_pos c, if_pos c]
        cases hj : nmg T e true (asp T e (some (sk isSp T e k + 1))) with
        | none => rfl
        | some j =>
          have hg := mxk_gt h0 c hj
          show _ :: _ = _ :: _
          rw [ih m j (by omega) (by omega) (by omega)]
      · rw [if_neg c, if_neg c]
theorem mxM_s {k : Nat} (hk : k ≤ e) : mxM T e k = if mt T e (sk isSp T e k) [124] = true then (match nmg T e true (some (sk isSp T e (sk isSp T e k + 1))) with
      | none => []
      | some j => sl T (sk isSp T e (sk isSp T e k + 1)) (j - sk isSp T e (sk isSp T e k + 1)) :: mxM T e j) else [] := by
  unfold mxM
  show List.map _ (if mt T e (sk isSp T e k) [124] = true then (match nmg T e true (some (sk isSp T e (sk isSp T e k + 1))) with
        | none => []
        | some j => (sk isSp T e (sk isSp T e k + 1), j) :: mxL T e e j) else []) = _
  by_cases c : mt T e (sk isSp T e k) [124] = true
  · rw [if_pos c, if_pos c]
    cases hj : nmg T e true (some (sk isSp T e (sk isSp T e k + 1))) with
    | none => rfl
    | some j =>
      have hg := mxk_gt hk c hj
      show _ :: _ = _ :: _
      rw [mxL_fuelK e (e + 1) j (by omega) (by omega) (by omega)]
  · rw [if_neg c, if_neg c]; rfl
set_option maxHeartbeats 2000000 in
theorem sp_K_mixed {b : Nat} (q : Option Nat) (hL : KLn L o rm nd) (h : KZ rm nd o σ g) (hq0 : KLq σ (gB g) b l) (hK : KT L σ (p + e)) (hS : SHT T (σ.2 176) e p) (hx : x = enc (mvo p q)) (hqe : ple e q) (hroom : b + l.length + (mxW T e q).length ≤ 50000) (hcap : kcL (gB g) (mxW T e q)) (hq : ∀ τ g2, KZ rm nd o τ g2 → gB g2 = kpL (gB g) (mxW T e q) → g2.2 = g.2 → KLq τ (gB g2) b (l ++ mxW T e q) → (∀ p k, ¬ ((p = 13 ∧ (k = 1 ∨ k = 6)) ∨ (p = 16 ∧ k = 58)) → τ.1 p k = σ.1 p k) → (∀ r, ¬ (211 ≤ r ∧ r ≤ 215) → r ≠ 207 → τ.2 r = σ.2 r) → (∀ i, i < b + l.length → τ.2 207 i = σ.2 207 i) → R (enc (mvo p ((mxQ T e q).bind (mxk T e (e + 1) false)))) τ) : w_KReader_mixed L x R σ := by
  have hK2 := hK.2.2
  have l176 := hL.2.2.2.1
  unfold w_KReader_mixed
  refine kr_word hK hS q hx hqe ti_1127 ?_
  have pl1 : ple e (wd T e [40] q) := fun i hi => wdl_le ti_1127 hqe _ hi
  refine kr_asp hK hS _ rfl pl1 ?_
  have pl2 : ple e (asp T e (wd T e [40] q)) := asp_le pl1
  refine kr_word hK hS _ rfl pl2 ti_1128 ?_
  have em : wd T e [35, 80, 67, 68, 65, 84, 65] (asp T e (wd T e [40] q)) = mxQ T e q := rfl
  rw [em]
  have pl3 : ple e (mxQ T e q) := fun i hi => wdl_le ti_1128 pl2 _ hi
  unfold mxW at hroom hcap hq
  cases hmq : mxQ T e q with
  | none =>
    rw [hmq] at hq
    rw [if_pos (show enc (mvo p none) < 0 from (by show (-1 : Int) < 0; decide))]
    exact hq σ g h rfl rfl (by rw [List.append_nil]; exact hq0) (fun _ _ _ => rfl) (fun _ _ _ => rfl) (fun _ _ => rfl)
  | some k =>
  rw [hmq] at hq hroom hcap pl3
  have hke := pl3 k rfl
  have hq : ∀ τ g2, KZ rm nd o τ g2 → gB g2 = kpL (gB g) (mxM T e k) → g2.2 = g.2 → KLq τ (gB g2) b (l ++ mxM T e k) → (∀ p k, ¬ ((p = 13 ∧ (k = 1 ∨ k = 6)) ∨ (p = 16 ∧ k = 58)) → τ.1 p k = σ.1 p k) → (∀ r, ¬ (211 ≤ r ∧ r ≤ 215) → r ≠ 207 → τ.2 r = σ.2 r) → (∀ i, i < b + l.length → τ.2 207 i = σ.2 207 i) → R (enc (mvo p (mxk T e (e + 1) false k))) τ := hq
  have hroom : b + l.length + (mxM T e k).length ≤ 50000 := hroom
  have hcap : kcL (gB g) (mxM T e k) := hcap
  rw [if_neg (show ¬ enc (mvo p (some k)) < 0 from (by show ¬ ((p + k : Nat) : Int) < 0; omega))]
  refine kr_asp hK hS (some k) rfl pl3 ?_
  refine kr_word hK hS _ rfl (asp_le pl3) ti_1129 ?_
  generalize hB : mxk T e (e + 1) false k = B at hq
  generalize hNN : mxM T e k = NN at *
  refine WL_ind2 (fun nn s14 ρ => ∃ (i : Nat) (acc : List Str) (g2 : KG), nn = e + 2 - i ∧ s14 = (((p + i : Nat) : Int), (acc.length : Int), enc (mvo p (wd T e [124] (asp T e (some i))))) ∧ i ≤ e ∧ B = mxk T e (e + 1) (decide (acc ≠ [])) i ∧ NN = acc ++ mxM T e i ∧ KZ rm nd o ρ g2 ∧ gB g2 = kpL (gB g) acc ∧ g2.2 = g.2 ∧ KLq ρ (gB g2) b (l ++ acc) ∧ (∀ p k, ¬ ((p = 13 ∧ (k = 1 ∨ k = 6)) ∨ (p = 16 ∧ k = 58)) → ρ.1 p k = σ.1 p k) ∧ (∀ r, ¬ (211 ≤ r ∧ r ≤ 215) → r ≠ 207 → ρ.2 r = σ.2 r) ∧ ∀ i, i < b + l.length → ρ.2 207 i = σ.2 207 i) ?_ (e + 2 - k) _ σ ⟨k, [], g, rfl, rfl, hke, hB.symm, hNN.symm, h, rfl, rfl, by rw [List.append_nil]; exact hq0, fun _ _ _ => rfl, fun _ _ _ => rfl, fun _ _ => rfl⟩
  rintro nn s14 ρ ⟨i, acc, g2, rfl, rfl, i1, i2, i3, hZ, e1, e2, hq1, f1, f2, f3⟩ K hK'
  try dsimp only
  have hKρ : KT L ρ (p + e) := by unfold KT; rw [f1 16 17 (by omega)]; exact hK
  have h176 : ρ.2 176 = σ.2 176 := f2 176 (by omega) (by omega)
  have hSρ : SHT T (ρ.2 176) e p := by rw [h176]; exact hS
  have hsi := sk_le (p := isSp) (T := T) i1
  have easp : asp T e (some i) = some (sk isSp T e i) := rfl
  have hmk : mxk T e (e + 1) (decide (acc ≠ [])) i = if mt T e (sk isSp T e i) [124] = true then (match nmg T e true (some (sk isSp T e (sk isSp T e i + 1))) with
      | none => none
      | some j => mxk T e e true j) else (match wd T e [41] (some (sk isSp T e i)) with
      | none => none
      | some z => if mt T e z [42] = true then some (z + 1) else if decide (acc ≠ []) = true then none else some z) := rfl
  have hmn := mxM_s (T := T) i1
  rw [easp, wd_mt]
  have h1' : ([124] : List Int).length = 1 := rfl
  by_cases c124 : mt T e (sk isSp T e i) [124] = true
  · have hle := mt_le [124] (sk isSp T e i) (by decide) hsi.2 c124
    rw [if_pos c124] at hmk hmn
    rw [if_pos c124, if_neg (show ¬ enc (mvo p (some (sk isSp T e i + ([124] : List Int).length))) < 0 from (by show ¬ ((p + (sk isSp T e i + 1) : Nat) : Int) < 0; omega))]
    have hsj := sk_le (p := isSp) (T := T) (show sk isSp T e i + 1 ≤ e by omega)
    refine kr_asp hKρ hSρ (some (sk isSp T e i + 1)) rfl (fun q hq => by cases hq; omega) ?_
    have easp2 : asp T e (some (sk isSp T e i + 1)) = some (sk isSp T e (sk isSp T e i + 1)) := rfl
    rw [easp2]
    refine kr_name hKρ hSρ (some (sk isSp T e (sk isSp T e i + 1))) rfl (fun q hq => by cases hq; exact hsj.2) ?_
    generalize hy : sk isSp T e (sk isSp T e i + 1) = y at *
    cases hnm : nmg T e true (some y) with
    | none =>
      rw [hnm] at hmk hmn
      have hmk' : mxk T e (e + 1) (decide (acc ≠ [])) i = none := hmk
      have hmn' : mxM T e i = [] := hmn
      rw [if_pos (show enc (mvo p none) < 0 from (by show (-1 : Int) < 0; decide))]
      rw [hmn', List.append_nil] at i3
      rw [hmk'] at i2
      subst i3 i2
      exact hq ρ g2 hZ e1 e2 hq1 f1 f2 f3
    | some j =>
      rw [hnm] at hmk hmn
      have hmk' : mxk T e (e + 1) (decide (acc ≠ [])) i = mxk T e e true j := hmk
      have hmn' : mxM T e i = sl T y (j - y) :: mxM T e j := hmn
      have hjl := nmg_lt hnm
      rw [if_neg (show ¬ enc (mvo p (some j)) < 0 from (by show ¬ ((p + j : Nat) : Int) < 0; omega))]
      generalize hsn : sl T y (j - y) = s at *
      have esl : sl (ρ.2 176) (p + y) (j - y) = s := by rw [← hsn]; exact sh_sl hSρ (by omega)
      rw [hmn'] at i3
      have hcs : kcS (gB g2) s := by
        rw [i3] at hcap
        have := (kcL_app.mp hcap).2
        rw [← e1] at this
        exact this.1
      have hln : acc.length + 1 ≤ NN.length := by rw [i3, List.length_append, List.length_cons]; omega
      refine sp_K_list (p := p + y) (n := j - y) (l := l ++ acc) (b := b) hL hZ hq1 (by rw [List.length_append]; omega) (by omega) rfl (by show ((p + j : Nat) : Int) = _; omega) esl hcs (fun ρ1 w1 w2 w3 w4 w5 => ?_)
      have F1 : ∀ p k, ¬ ((p = 13 ∧ (k = 1 ∨ k = 6)) ∨ (p = 16 ∧ k = 58)) → ρ1.1 p k = σ.1 p k := fun pp kk z => by rw [w3 pp kk z]; exact f1 pp kk z
      have R1 : ∀ r, ¬ (211 ≤ r ∧ r ≤ 215) → r ≠ 207 → ρ1.2 r = σ.2 r := fun r z1 z2 => by rw [w4 r z1 z2]; exact f2 r z1 z2
      have R7 : ∀ i, i < b + l.length → ρ1.2 207 i = σ.2 207 i := fun q hq' => by rw [w5 q (by rw [List.length_append]; omega)]; exact f3 q hq'
      have hKρ1 : KT L ρ1 (p + e) := by unfold KT; rw [F1 16 17 (by omega)]; exact hK
      have hSρ1 : SHT T (ρ1.2 176) e p := by rw [R1 176 (by omega) (by omega)]; exact hS
      have w2' : KLq ρ1 (kpS (gB g2) s) b (l ++ (acc ++ [s])) := by rw [← List.append_assoc]; exact w2
      have eB1 : kpS (gB g2) s = kpL (gB g) (acc ++ [s]) := by rw [kpL_app, ← e1]; rfl
      refine ⟨⟨by omega, by omega⟩, ?_⟩
      refine kr_asp hKρ1 hSρ1 (some j) rfl (fun q hq => by cases hq; exact hjl.2.2) ?_
      refine kr_word hKρ1 hSρ1 _ rfl (asp_le (fun q hq => by cases hq; exact hjl.2.2)) ti_1129 ?_
      refine hK' (e + 2 - j) _ _ ⟨j, acc ++ [s], (kpS (gB g2) s, g2.2), rfl, ?_, hjl.2.2, ?_, ?_, w1, eB1, e2, w2', F1, R1, R7⟩ (by omega)
      · rw [List.length_append, List.length_singleton]
        rfl
      · rw [i2, hmk']
        have hd : decide (acc ++ [s] ≠ []) = true := decide_eq_true (by simp)
        rw [hd]
        exact mxk_fuel _ _ _ _ (by omega) (by omega) (by omega)
      · rw [i3, List.append_assoc]; rfl
  · rw [if_neg c124] at hmk hmn
    rw [if_neg c124, if_pos (show enc (mvo p none) < 0 from (by show (-1 : Int) < 0; decide))]
    rw [hmn, List.append_nil] at i3
    rw [hmk] at i2
    have fin_ : ∀ v, v = enc (mvo p B) → R v ρ := fun v hv => by
      subst i3
      rw [hv]
      exact hq ρ g2 hZ e1 e2 hq1 f1 f2 f3
    refine kr_asp hKρ hSρ (some i) rfl (fun q hq => by cases hq; exact i1) ?_
    rw [easp]
    refine kr_word hKρ hSρ (some (sk isSp T e i)) rfl (fun q hq => by cases hq; exact hsi.2) ti_1130 ?_
    have pl4 : ple e (wd T e [41] (some (sk isSp T e i))) := fun j hj => wdl_le ti_1130 (fun q hq => by cases hq; exact hsi.2) _ hj
    refine kr_word hKρ hSρ _ rfl pl4 ti_1131 ?_
    refine fin_ _ ?_
    rw [i2]
    cases hw : wd T e [41] (some (sk isSp T e i)) with
    | none =>
      show (if (-1 : Int) < 0 then (if (acc.length : Int) = 0 then (-1 : Int) else -1) else -1) = -1
      rw [if_pos (by decide)]
      split <;> rfl
    | some z =>
      rw [wd_mt]
      show (if enc (mvo p (if mt T e z [42] = true then some (z + ([42] : List Int).length) else none)) < 0 then (if (acc.length : Int) = 0 then enc (mvo p (some z)) else -1) else enc (mvo p (if mt T e z [42] = true then some (z + ([42] : List Int).length) else none))) = enc (mvo p (if mt T e z [42] = true then some (z + 1) else if decide (acc ≠ []) = true then none else some z))
      by_cases c42 : mt T e z [42] = true
      · rw [if_pos c42, if_pos c42, if_neg (show ¬ enc (mvo p (some (z + ([42] : List Int).length))) < 0 from (by show ¬ ((p + (z + 1) : Nat) : Int) < 0; omega))]
        rfl
      · rw [if_neg c42, if_neg c42, if_pos (show enc (mvo p none) < 0 from (by show (-1 : Int) < 0; decide))]
        cases acc with
        | nil => rfl
        | cons a1 a2 =>
          rw [if_neg (by rw [List.length_cons]; omega)]
          rfl
end Kmx
