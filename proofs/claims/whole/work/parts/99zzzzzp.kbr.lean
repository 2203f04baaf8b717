/-! ===== the reference: names in brackets ===== -/
/-- the names that stand in brackets -/
def brN (T : Nat → Int) (e : Nat) (b : Bool) (k : Nat) : List Str := (brL T e b (e + 1) k).map (fun q => sl T q.1 (q.2 - q.1))
section Kbr
variable {L : Nat → Nat} {rm nd o : Nat} {σ ρ τ : IS} {g g' : KG} {Q : IS → Prop} {R : Int → IS → Prop} {T : Nat → Int} {p e : Nat} {x y : Int} {s : Str} {l : List Str}
theorem brL_fuelK {b : Bool} : ∀ (n m k : Nat), k ≤ e → e < n + k → e < m + k → brL T e b n k = brL T e b m k := by
  intro n
  induction n with
  | zero => intro m k h0 h1 h2; omega
  | succ n ih =>
    intro m k h0 h1 h2
    cases m with
    | zero => omega
    | succ m =>
      show (match nmg T e b (asp T e (some k)) with
        | none => []
        | some j => (sk isSp T e k, j) :: (if mt T e (sk isSp T e j) [124] = true then brL T e b n (sk isSp T e j + 1) else [])) = (match nmg T e b (asp T e (some k)) with
        | none => []
        | some j => (sk isSp T e k, j) :: (if mt T e (sk isSp T e j) [124] = true then brL T e b m (sk isSp T e j + 1) else []))
      cases hj : nmg T e b (asp T e (some k)) with
      | none => rfl
      | some j =>
        have hjl := nmg_lt (i := sk isSp T e k) hj
        have hsk := sk_gt (p := isSp) (T := T) (e := e) (i := k)
        have hsj := sk_le (p := isSp) (T := T) hjl.2.2
        show _ :: _ = _ :: _
        congr 1
        by_cases c : mt T e (sk isSp T e j) [124] = true
        · rw [if_pos c, if_pos c]
          have := mt_le [124] (sk isSp T e j) (by decide) hsj.2 c
          have h1' : ([124] : List Int).length = 1 := rfl
          exact ih m _ (by omega) (by omega) (by omega)
        · rw [if_neg c, if_neg c]
set_option maxHeartbeats 2000000 in
theorem sp_K_brk {bb : Bool} {b k : Nat} {a2 : Int} (hL : KLn L o rm nd) (h : KZ rm nd o σ g) (hq0 : KLq σ (gB g) b l) (hK : KT L σ (p + e)) (hS : SHT T (σ.2 176) e p) (hk : k ≤ e) (ha : a2 = b1 bb) (hroom : b + l.length + (brN T e bb k).length ≤ 50000) (hcap : kcL (gB g) (brN T e bb k)) (hq : ∀ τ g2, KZ rm nd o τ g2 → gB g2 = kpL (gB g) (brN T e bb k) → g2.2 = g.2 → KLq τ (gB g2) b (l ++ brN T e bb k) → (∀ p k, ¬ ((p = 13 ∧ (k = 1 ∨ k = 6)) ∨ (p = 16 ∧ k = 58)) → τ.1 p k = σ.1 p k) → (∀ r, ¬ (211 ≤ r ∧ r ≤ 215) → r ≠ 207 → τ.2 r = σ.2 r) → (∀ i, i < b + l.length → τ.2 207 i = σ.2 207 i) → R (enc (mvo p (brk T e bb (e + 1) k))) τ) :
    WL (fun (K3 : Int → IS → Prop) (s5 : Int) (σ6 : IS) => if s5 < 0 then R (-1) σ6 else w_KReader_anySpaces L s5 (fun v9 σ8 => w_KReader_naming L v9 a2 (fun v11 σ10 => if v11 < 0 then R (-1) σ10 else w_KReader_list L v9 v11 (fun σ13 => w_KReader_anySpaces L v11 (fun v16 σ15 => w_KReader_look L v16 (fun v18 σ17 => if v18 = 41 then inR (v16 + 1) ∧ R (v16 + 1) σ17 else w_KReader_word L v16 1129 (fun v21 σ20 => K3 v21 σ20) σ17) σ15) σ13) σ10) σ8) σ6) ((p + k : Nat) : Int) σ := by
  have hK2 := hK.2.2
  have l176 := hL.2.2.2.1
  generalize hB : brk T e bb (e + 1) k = B at hq
  generalize hNN : brN T e bb k = NN at *
  refine WL_ind2 (fun nn s5 ρ => (∃ (i : Nat) (acc : List Str) (g2 : KG), nn = e + 2 - i ∧ s5 = ((p + i : Nat) : Int) ∧ i ≤ e ∧ B = brk T e bb (e + 1) i ∧ NN = acc ++ brN T e bb i ∧ KZ rm nd o ρ g2 ∧ gB g2 = kpL (gB g) acc ∧ g2.2 = g.2 ∧ KLq ρ (gB g2) b (l ++ acc) ∧ (∀ p k, ¬ ((p = 13 ∧ (k = 1 ∨ k = 6)) ∨ (p = 16 ∧ k = 58)) → ρ.1 p k = σ.1 p k) ∧ (∀ r, ¬ (211 ≤ r ∧ r ≤ 215) → r ≠ 207 → ρ.2 r = σ.2 r) ∧ ∀ i, i < b + l.length → ρ.2 207 i = σ.2 207 i) ∨ (nn = 0 ∧ s5 = -1 ∧ R (-1) ρ)) ?_ (e + 2 - k) _ σ (Or.inl ⟨k, [], g, rfl, rfl, hk, hB.symm, hNN.symm, h, rfl, rfl, by rw [List.append_nil]; exact hq0, fun _ _ _ => rfl, fun _ _ _ => rfl, fun _ _ => rfl⟩)
  rintro nn s5 ρ hI K hK'
  try dsimp only
  rcases hI.symm with ⟨-, rfl, hR⟩ | ⟨i, acc, g2, rfl, rfl, i1, i2, i3, hZ, e1, e2, hq1, f1, f2, f3⟩
  · rw [if_pos (by decide)]
    exact hR
  clear hI
  rw [if_neg (by omega)]
  have hKρ : KT L ρ (p + e) := by unfold KT; rw [f1 16 17 (by omega)]; exact hK
  have h176 : ρ.2 176 = σ.2 176 := f2 176 (by omega) (by omega)
  have hSρ : SHT T (ρ.2 176) e p := by rw [h176]; exact hS
  have hsi := sk_le (p := isSp) (T := T) i1
  refine kr_asp hKρ hSρ (some i) rfl (fun q hq => by cases hq; exact i1) ?_
  have easp : asp T e (some i) = some (sk isSp T e i) := rfl
  rw [easp]
  refine kr_naming hKρ hSρ (some (sk isSp T e i)) rfl (fun q hq => by cases hq; exact hsi.2) bb ha ?_
  have hbk : brk T e bb (e + 1) i = match nmg T e bb (some (sk isSp T e i)) with
      | none => none
      | some j => if mt T e (sk isSp T e j) [124] = true then brk T e bb e (sk isSp T e j + 1) else wd T e [41] (some (sk isSp T e j)) := rfl
  have hbn : brL T e bb (e + 1) i = match nmg T e bb (some (sk isSp T e i)) with
      | none => []
      | some j => (sk isSp T e i, j) :: (if mt T e (sk isSp T e j) [124] = true then brL T e bb e (sk isSp T e j + 1) else []) := rfl
  cases hnm : nmg T e bb (some (sk isSp T e i)) with
  | none =>
    rw [hnm] at hbk hbn
    have hbk' : brk T e bb (e + 1) i = none := hbk
    have hbn' : brN T e bb i = [] := by unfold brN; rw [hbn]; rfl
    rw [if_pos (show enc (mvo p none) < 0 from (by show (-1 : Int) < 0; decide))]
    rw [hbn', List.append_nil] at i3
    rw [hbk'] at i2
    subst i3 i2
    exact hq ρ g2 hZ e1 e2 hq1 f1 f2 f3
  | some j =>
    rw [hnm] at hbk hbn
    have hbk' : brk T e bb (e + 1) i = if mt T e (sk isSp T e j) [124] = true then brk T e bb e (sk isSp T e j + 1) else wd T e [41] (some (sk isSp T e j)) := hbk
    have hjl := nmg_lt hnm
    have hsj := sk_le (p := isSp) (T := T) hjl.2.2
    rw [if_neg (show ¬ enc (mvo p (some j)) < 0 from (by show ¬ ((p + j : Nat) : Int) < 0; omega))]
    have hbn' : brN T e bb i = sl T (sk isSp T e i) (j - sk isSp T e i) :: (if mt T e (sk isSp T e j) [124] = true then brN T e bb (sk isSp T e j + 1) else []) := by
      unfold brN
      rw [hbn]
      show sl T (sk isSp T e i) (j - sk isSp T e i) :: List.map _ (if mt T e (sk isSp T e j) [124] = true then brL T e bb e (sk isSp T e j + 1) else []) = _
      congr 1
      by_cases c : mt T e (sk isSp T e j) [124] = true
      · have := mt_le [124] (sk isSp T e j) (by decide) hsj.2 c
        have h1' : ([124] : List Int).length = 1 := rfl
        rw [if_pos c, if_pos c, brL_fuelK e (e + 1) _ (by omega) (by omega) (by omega)]
      · rw [if_neg c, if_neg c]; rfl
    generalize hsn : sl T (sk isSp T e i) (j - sk isSp T e i) = s at *
    have esl : sl (ρ.2 176) (p + sk isSp T e i) (j - sk isSp T e i) = s := by rw [← hsn]; exact sh_sl hSρ (by omega)
    rw [hbn'] at i3
    have hcs : kcS (gB g2) s := by
      rw [i3] at hcap
      have := (kcL_app.mp hcap).2
      rw [← e1] at this
      exact this.1
    have hln : acc.length + 1 ≤ NN.length := by rw [i3, List.length_append, List.length_cons]; omega
    refine sp_K_list (p := p + sk isSp T e i) (n := j - sk isSp T e i) (l := l ++ acc) (b := b) hL hZ hq1 (by rw [List.length_append]; omega) (by omega) rfl (by show ((p + j : Nat) : Int) = _; omega) esl hcs (fun ρ1 w1 w2 w3 w4 w5 => ?_)
    have F1 : ∀ p k, ¬ ((p = 13 ∧ (k = 1 ∨ k = 6)) ∨ (p = 16 ∧ k = 58)) → ρ1.1 p k = σ.1 p k := fun pp kk z => by rw [w3 pp kk z]; exact f1 pp kk z
    have R1 : ∀ r, ¬ (211 ≤ r ∧ r ≤ 215) → r ≠ 207 → ρ1.2 r = σ.2 r := fun r z1 z2 => by rw [w4 r z1 z2]; exact f2 r z1 z2
    have R7 : ∀ i, i < b + l.length → ρ1.2 207 i = σ.2 207 i := fun q hq' => by rw [w5 q (by rw [List.length_append]; omega)]; exact f3 q hq'
    have hKρ1 : KT L ρ1 (p + e) := by unfold KT; rw [F1 16 17 (by omega)]; exact hK
    have hSρ1 : SHT T (ρ1.2 176) e p := by rw [R1 176 (by omega) (by omega)]; exact hS
    have w2' : KLq ρ1 (kpS (gB g2) s) b (l ++ (acc ++ [s])) := by rw [← List.append_assoc]; exact w2
    have eB1 : kpS (gB g2) s = kpL (gB g) (acc ++ [s]) := by rw [kpL_app, ← e1]; rfl
    refine kr_asp hKρ1 hSρ1 (some j) rfl (fun q hq => by cases hq; exact hjl.2.2) ?_
    have easj : asp T e (some j) = some (sk isSp T e j) := rfl
    rw [easj, show enc (mvo p (some (sk isSp T e j))) = ((p + sk isSp T e j : Nat) : Int) from rfl]
    refine kr_look hKρ1 hSρ1 (sk isSp T e j) rfl ?_
    by_cases c41 : lk T e (sk isSp T e j) = 41
    · rw [if_pos c41]
      have hn124 : ¬ mt T e (sk isSp T e j) [124] = true := fun z => by have := mt_hd z; omega
      rw [if_neg hn124] at hbk' i3
      rw [wd_mt, if_pos (by rw [mt_1, c41]; rfl)] at hbk'
      rw [hbk'] at i2
      subst i2
      subst i3
      refine ⟨⟨by omega, by omega⟩, ?_⟩
      have := hq ρ1 (kpS (gB g2) s, g2.2) w1 eB1 e2 w2' F1 R1 R7
      rw [show ((p + sk isSp T e j : Nat) : Int) + 1 = enc (mvo p (some (sk isSp T e j + [41].length))) from (by show _ = ((p + (sk isSp T e j + 1) : Nat) : Int); omega)]
      exact this
    · rw [if_neg c41]
      refine kr_word hKρ1 hSρ1 (some (sk isSp T e j)) rfl (fun q hq => by cases hq; exact hsj.2) ti_1129 ?_
      rw [wd_mt]
      by_cases c124 : mt T e (sk isSp T e j) [124] = true
      · rw [if_pos c124]
        rw [if_pos c124] at hbk' i3
        have hle := mt_le [124] (sk isSp T e j) (by decide) hsj.2 c124
        have h1' : ([124] : List Int).length = 1 := rfl
        refine hK' (e + 2 - (sk isSp T e j + 1)) _ _ (Or.inl ⟨sk isSp T e j + 1, acc ++ [s], (kpS (gB g2) s, g2.2), rfl, rfl, by omega, ?_, ?_, w1, eB1, e2, w2', F1, R1, R7⟩) (by omega)
        · rw [i2, hbk']
          exact brk_fuel _ _ _ (by omega) (by omega) (by omega)
        · rw [i3, List.append_assoc]; rfl
      · rw [if_neg c124]
        rw [if_neg c124] at hbk' i3
        rw [wd_c rfl c41] at hbk'
        rw [hbk'] at i2
        subst i2
        subst i3
        refine hK' 0 _ _ (Or.inr ⟨rfl, rfl, ?_⟩) (by omega)
        exact hq ρ1 (kpS (gB g2) s, g2.2) w1 eB1 e2 w2' F1 R1 R7
end Kbr
