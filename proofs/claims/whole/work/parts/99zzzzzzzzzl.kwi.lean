/-! ===== the reference's writer: tags, instructions, the whole ===== -/
def WKz (σ τ : IS) : Prop := WKx σ τ ∧ τ.1 17 8 = σ.1 17 8 ∧ τ.2 246 = σ.2 246
section Kwi
variable {L : Nat → Nat} {o : Nat} {σ τ υ : IS} {bk : List Str} {pl : List Int} {ad : List ADc} {el : List Elm} {at_ : List Att} {l W s t : Str} {Q : IS → Prop} {x : Int}
theorem WKz.refl : WKz σ σ := ⟨WKx.refl, rfl, rfl⟩
theorem WKz.trans (h1 : WKz σ τ) (h2 : WKz τ υ) : WKz σ υ := ⟨h1.1.trans h2.1, h2.2.1.trans h1.2.1, h2.2.2.trans h1.2.2⟩
theorem WKp.wz (h : WKp σ τ) : WKz σ τ := ⟨h.wx, h.1 17 8 (by omega) (by omega), h.2 246 (by omega) (by omega)⟩
theorem WKq.wz (h : WKq σ τ) : WKz σ τ := ⟨h.wx, h.1 17 8 (by omega), h.2 246 (by decide) (by decide)⟩
/-- the attributes of one pass, written -/
theorem sp_K_aloop {gl : List Nat} {C : IS → Prop} (hL : L 244 = 262144 ∧ L 176 = 262144) (hL5 : L 245 = 32768) (h17 : σ.1 17 1 = (o : Int)) (hD : KD4 L o σ bk pl ad el at_) (hV : VCh at_) (hN : NCh el at_) (hgl : gl.length ≤ 32768) (hr : ∀ i, i < gl.length → σ.2 245 i = (gl.getD i 0 : Int)) (hm : ∀ j ∈ gl, j < at_.length) (h : WKo l σ W) (hB : σ.1 17 3 = 2 → W.length + ((gl.map (fun j => at_.getD j atD)).flatMap wAt).length ≤ 1000000000)
    (hq : ∀ τ, WKz σ τ → WKo l τ (W ++ (gl.map (fun j => at_.getD j atD)).flatMap wAt) → C τ) :
    WL (fun (K17 : Int → IS → Prop) (s19 : Int) (σ20 : IS) => if s19 < (gl.length : Int) then w_KWriter_say L 1172 (fun σ23 => dyD (σ23.1 17 1) ∧ inL L 245 s19 ∧ inL L (rfo (Int.toNat (σ23.1 17 1)) 8) (σ23.2 245 (Int.toNat s19)) ∧ w_KWriter_name L (σ23.2 (rfo (Int.toNat (σ23.1 17 1)) 8) (Int.toNat (σ23.2 245 (Int.toNat s19)))) (fun σ26 => inL L 245 s19 ∧ w_KWriter_value L (σ26.2 245 (Int.toNat s19)) (fun σ28 => inR (s19 + 1) ∧ K17 (s19 + 1) σ28) σ26) σ23) σ20 else C σ20) 0 σ := by
  have hD' := hD
  obtain ⟨hLn, hBk, hE, hA, hp, hd, hal, hel, hpl, hpool⟩ := hD'
  obtain ⟨l8, l8', l8''⟩ : (∀ k, 8 ≤ k → k ≤ 13 → L (rfo o k) = L (rfo o 8)) ∧ 16500 ≤ L (rfo o 8) ∧ L (rfo o 8) ≤ 32768 := by obtain ⟨-, -, -, -, -, -, -, -, -, -, -, -, -, -, -, -, -, x, -⟩ := hLn; exact x
  have ho := hLn.oo
  have hdy : dyD (o : Int) := by unfold dyD; rcases ho with y | y <;> rw [y] <;> decide
  have e72 : ti 1172 = [32] := ti_1172
  refine WL_ind (fun z ρ => ∃ k : Nat, z = (k : Int) ∧ k ≤ gl.length ∧ WKp σ ρ ∧ WKo l ρ (W ++ ((gl.take k).map (fun j => at_.getD j atD)).flatMap wAt)) (fun z _ => ((gl.length : Int) - z).toNat) ?_ 0 σ ⟨0, rfl, Nat.zero_le _, WKp.refl, by rw [List.take_zero, List.map_nil, List.flatMap_nil, List.append_nil]; exact h⟩
  rintro z ρ ⟨k, rfl, k1, k2, k3⟩ K hK
  try dsimp only
  by_cases c : k < gl.length
  · rw [if_pos (by omega)]
    have hj : gl.getD k 0 < at_.length := hm _ (kg_of c)
    have htk : ((gl.take (k + 1)).map (fun j => at_.getD j atD)).flatMap wAt = ((gl.take k).map (fun j => at_.getD j atD)).flatMap wAt ++ wAt (at_.getD (gl.getD k 0) atD) := by
      rw [List.take_add_one, List.getElem?_eq_getElem c, List.map_append, List.flatMap_append, List.getD_eq_getElem?_getD (l := gl), List.getElem?_eq_getElem c]
      show _ ++ List.flatMap wAt [at_.getD gl[k] atD] = _
      rw [List.flatMap_singleton]
      rfl
    have hbd : σ.1 17 3 = 2 → W.length + (((gl.take k).map (fun j => at_.getD j atD)).flatMap wAt).length + (wAt (at_.getD (gl.getD k 0) atD)).length ≤ 1000000000 := fun e => by
      have h1 := hB e
      have h2 : (gl.map (fun j => at_.getD j atD)).flatMap wAt = ((gl.take (k + 1)).map (fun j => at_.getD j atD)).flatMap wAt ++ ((gl.drop (k + 1)).map (fun j => at_.getD j atD)).flatMap wAt := by rw [← List.flatMap_append, ← List.map_append, List.take_append_drop]
      rw [h2, htk, List.length_append, List.length_append] at h1
      omega
    have r5 : ρ.2 245 k = (gl.getD k 0 : Int) := by rw [k2.2 245 (by omega) (by omega)]; exact hr k c
    obtain ⟨m1, -⟩ := hA.2 _ hj
    generalize hjj : gl.getD k 0 = j at *
    have hwl := wAt_len (t := at_.getD j atD)
    refine sp_K_say hL k3 (fun e => ?_) (fun τ1 t1 t2 => ?_)
    · rw [k2.m3] at e
      have := hbd e
      rw [e72, List.length_append, List.length_singleton]
      omega
    have q1 := k2.trans t1
    have e1 : τ1.1 17 1 = (o : Int) := (q1.1 17 1 (by omega) (by omega)).trans h17
    have e5 : τ1.2 245 k = (j : Int) := by rw [t1.2 245 (by omega) (by omega)]; exact r5
    rw [e1, show Int.toNat (o : Int) = o from rfl, show Int.toNat (k : Int) = k from rfl, e5, show Int.toNat (j : Int) = j from rfl, q1.wx.ro ho (show 8 ≤ 19 by omega)]
    refine ⟨hdy, ⟨by omega, by omega⟩, ⟨by omega, by omega⟩, sp_KW_name hL hLn.1 (by rw [e1]; exact hdy) (q1.wx.bkk hBk) m1 (hN.2 j hj) t2 (fun e => ?_) (fun τ2 u1 u2 => ?_)⟩
    · rw [q1.m3] at e
      have := hbd e
      rw [e72, List.length_append, List.length_append, List.length_singleton]
      omega
    have q2 := q1.trans u1
    have e6 : τ2.2 245 k = (j : Int) := by rw [u1.2 245 (by omega) (by omega)]; exact e5
    rw [e6]
    refine ⟨⟨by omega, by omega⟩, sp_K_value hL ((q2.1 17 1 (by omega) (by omega)).trans h17) (hD.wk q2.wx) hj rfl (hV j hj) u2 (fun e => ?_) (fun τ3 v1 v2 => ⟨⟨by omega, by omega⟩, hK _ _ ⟨k + 1, by omega, by omega, q2.trans v1, ?_⟩ (by omega)⟩)⟩
    · rw [q2.m3] at e
      have := hbd e
      rw [e72]
      simp only [List.length_append, List.length_cons, List.length_nil, ti_1085] at *
      omega
    · rw [htk]
      rw [e72] at v2
      unfold wAt
      simp only [List.append_assoc] at v2 ⊢
      exact v2
  · rw [if_neg (by omega)]
    rw [List.take_of_length_le (by omega)] at k3
    exact hq ρ k2.wz k3
/-- a tag -/
theorem sp_K_start {n : Nat} (hL : L 244 = 262144 ∧ L 176 = 262144) (hL5 : L 245 = 32768 ∧ L 247 = 32768) (hL6 : L 246 = 16384) (h17 : σ.1 17 1 = (o : Int)) (hD : KD4 L o σ bk pl ad el at_) (hV : VCh at_) (hN : NCh el at_) (he : n < el.length) (hx : x = (n : Int)) (hK : KD (EN el at_ (n : Int)) (ats at_ (el.getD n elD))) (h3 : ∀ t ∈ ats at_ (el.getD n elD), nm3 t = 0) {dp : Nat} (h8 : σ.1 17 8 = (dp : Int)) (hdp : dp < 16384) (h : WKo l σ W)
    (hB : σ.1 17 3 = 2 → W.length + (wTg (EN el at_ (el.getD n elD).2.1) (EN el at_ (n : Int)) (el.getD n elD).1 (ats at_ (el.getD n elD))).length ≤ 1000000000)
    (hq : ∀ τ, WKx σ τ → τ.1 17 8 = ((dp + 1 : Nat) : Int) → (∀ j, τ.2 246 j = if j = dp then (n : Int) else σ.2 246 j) → WKo l τ (W ++ wTg (EN el at_ (el.getD n elD).2.1) (EN el at_ (n : Int)) (el.getD n elD).1 (ats at_ (el.getD n elD))) → Q τ) : w_KWriter_start L x Q σ := by
  subst hx
  have hD' := hD
  obtain ⟨hLn, hBk, hE, hA, hp, hd, hal, hel, hpl, hpool⟩ := hD'
  have l3 : ∀ k, 3 ≤ k → k ≤ 6 → L (rfo o k) = 16384 := by obtain ⟨-, -, -, -, -, -, -, -, -, -, -, -, -, -, -, x, -⟩ := hLn; exact x
  have ho := hLn.oo
  have hdy : dyD (o : Int) := by unfold dyD; rcases ho with y | y <;> rw [y] <;> decide
  obtain ⟨n1, -⟩ := hE.2 n he
  have e71 : ti 1171 = [60] := ti_1171
  have e59 : ti 1159 = [62] := ti_1159
  have hwt : wTg (EN el at_ (el.getD n elD).2.1) (EN el at_ (n : Int)) (el.getD n elD).1 (ats at_ (el.getD n elD)) = [60] ++ ((el.getD n elD).1 ++ ((pkA (EN el at_ (el.getD n elD).2.1) (EN el at_ (n : Int)) (ats at_ (el.getD n elD)) true).flatMap wAt ++ ((pkA (EN el at_ (el.getD n elD).2.1) (EN el at_ (n : Int)) (ats at_ (el.getD n elD)) false).flatMap wAt ++ [62]))) := by
    unfold wTg
    rw [pk_wat hK, List.flatMap_append, List.append_assoc]
  rw [hwt] at hB
  have hq' : ∀ τ, WKx σ τ → τ.1 17 8 = ((dp + 1 : Nat) : Int) → (∀ j, τ.2 246 j = if j = dp then (n : Int) else σ.2 246 j) → WKo l τ (W ++ ([60] ++ ((el.getD n elD).1 ++ ((pkA (EN el at_ (el.getD n elD).2.1) (EN el at_ (n : Int)) (ats at_ (el.getD n elD)) true).flatMap wAt ++ ((pkA (EN el at_ (el.getD n elD).2.1) (EN el at_ (n : Int)) (ats at_ (el.getD n elD)) false).flatMap wAt ++ [62]))))) → Q τ := by rw [← hwt]; exact hq
  clear hq
  have hnch := hN.1 n he
  unfold w_KWriter_start
  have hA1 : ∀ v, ∃ A, A = (pkA (EN el at_ (el.getD n elD).2.1) (EN el at_ (n : Int)) (ats at_ (el.getD n elD)) v).flatMap wAt := fun v => ⟨_, rfl⟩
  obtain ⟨A1, hA1'⟩ := hA1 true
  obtain ⟨A2, hA2'⟩ := hA1 false
  rw [← hA1', ← hA2'] at hB hq'
  have hbl : σ.1 17 3 = 2 → W.length + (el.getD n elD).1.length + A1.length + A2.length + 2 ≤ 1000000000 := fun e => by
    have := hB e
    simp only [List.length_append, List.length_cons, List.length_nil] at this
    omega
  refine sp_K_say hL h (fun e => by have := hbl e; rw [e71, List.length_singleton]; omega) (fun τ1 t1 t2 => ?_)
  rw [e71] at t2
  have e1 : τ1.1 17 1 = (o : Int) := (t1.1 17 1 (by omega) (by omega)).trans h17
  rw [e1, show Int.toNat (o : Int) = o from rfl, show Int.toNat (n : Int) = n from rfl, t1.wx.ro ho (show 3 ≤ 19 by omega)]
  refine ⟨hdy, ⟨by omega, by rw [l3 3 (by omega) (by omega)]; omega⟩, sp_KW_name hL hLn.1 (by rw [e1]; exact hdy) (t1.wx.bkk hBk) n1 hnch t2 (fun e => ?_) (fun τ2 u1 u2 => ?_)⟩
  · rw [t1.m3] at e
    have := hbl e
    rw [List.length_append, List.length_singleton]
    omega
  refine WL_ind (fun z ρ => ∃ k : Nat, z = (k : Int) ∧ k ≤ 2 ∧ WKz σ ρ ∧ WKo l ρ (W ++ [60] ++ (el.getD n elD).1 ++ (if 1 ≤ k then A1 else []) ++ (if 2 ≤ k then A2 else []))) (fun z _ => (2 - z).toNat) ?_ 0 τ2 ⟨0, rfl, by omega, t1.wz.trans u1.wz, by rw [if_neg (by omega), if_neg (by omega), List.append_nil, List.append_nil]; exact u2⟩
  rintro z ρ ⟨k, rfl, k1, k2, k3⟩ K hKK
  try dsimp only
  by_cases c : k < 2
  · rw [if_pos (by omega)]
    have hpass : ∀ v : Bool, (v = true ↔ k = 0) → (if (k : Int) = 0 then (1 : Int) else (0 : Int)) = b1 v := fun v hv => by
      cases v with
      | true => rw [if_pos (by have := hv.mp rfl; omega)]; rfl
      | false => rw [if_neg (fun z => by have := hv.mpr (by omega); cases this)]; rfl
    have step : ∀ v : Bool, (v = true ↔ k = 0) → w_KWriter_pick L (n : Int) (b1 v) (fun v16 σ15 => WL (fun (K17 : Int → IS → Prop) (s19 : Int) (σ20 : IS) => if s19 < v16 then w_KWriter_say L 1172 (fun σ23 => dyD (σ23.1 17 1) ∧ inL L 245 s19 ∧ inL L (rfo (Int.toNat (σ23.1 17 1)) 8) (σ23.2 245 (Int.toNat s19)) ∧ w_KWriter_name L (σ23.2 (rfo (Int.toNat (σ23.1 17 1)) 8) (Int.toNat (σ23.2 245 (Int.toNat s19)))) (fun σ26 => inL L 245 s19 ∧ w_KWriter_value L (σ26.2 245 (Int.toNat s19)) (fun σ28 => inR (s19 + 1) ∧ K17 (s19 + 1) σ28) σ26) σ23) σ20 else inR ((k : Int) + 1) ∧ K ((k : Int) + 1) σ20) 0 σ15) ρ := fun v hv => by
      refine sp_K_pick ((k2.1.2.1 1 (by omega)).trans h17) (hD.wk k2.1) hV hN hL5 he rfl hK h3 (fun τ gl g1 g2 g3 g4 g5 => ?_)
      have hA' : (gl.map (fun j => at_.getD j atD)).flatMap wAt = if v = true then A1 else A2 := by
        rw [g5]
        cases v with
        | true => rw [if_pos rfl]; exact hA1'.symm
        | false => rw [if_neg (by decide)]; exact hA2'.symm
      have q2 := k2.trans g1.wz
      refine sp_K_aloop hL hL5.1 ((q2.1.2.1 1 (by omega)).trans h17) (hD.wk q2.1) hV hN g2 g3 g4 (g1.wo k3) (fun e => ?_) (fun τ' w1 w2 => ⟨⟨by omega, by omega⟩, hKK _ _ ⟨k + 1, by omega, by omega, q2.trans w1, ?_⟩ (by omega)⟩)
      · rw [q2.1.m3] at e
        have := hbl e
        rw [hA']
        simp only [List.length_append, List.length_cons, List.length_nil]
        rcases (show k = 0 ∨ k = 1 by omega) with hk0 | hk0
        · have f1 : (if v = true then A1 else A2) = A1 := if_pos (hv.mpr hk0)
          have f2 : (if 1 ≤ k then A1 else []) = [] := if_neg (by omega)
          have f3 : (if 2 ≤ k then A2 else []) = [] := if_neg (by omega)
          rw [f1, f2, f3]
          simp only [List.length_nil]
          omega
        · have f1 : (if v = true then A1 else A2) = A2 := if_neg (fun z => by have := hv.mp z; omega)
          have f2 : (if 1 ≤ k then A1 else []) = A1 := if_pos (by omega)
          have f3 : (if 2 ≤ k then A2 else []) = [] := if_neg (by omega)
          rw [f1, f2, f3]
          simp only [List.length_nil]
          omega
      · rw [hA'] at w2
        rcases (show k = 0 ∨ k = 1 by omega) with hk0 | hk0
        · have f1 : (if v = true then A1 else A2) = A1 := if_pos (hv.mpr hk0)
          have f2 : (if 1 ≤ k then A1 else []) = [] := if_neg (by omega)
          have f3 : (if 2 ≤ k then A2 else []) = [] := if_neg (by omega)
          have f4 : (if 1 ≤ k + 1 then A1 else []) = A1 := if_pos (by omega)
          have f5 : (if 2 ≤ k + 1 then A2 else []) = [] := if_neg (by omega)
          rw [f1, f2, f3, List.append_nil, List.append_nil] at w2
          rw [f4, f5, List.append_nil]
          exact w2
        · have f1 : (if v = true then A1 else A2) = A2 := if_neg (fun z => by have := hv.mp z; omega)
          have f2 : (if 1 ≤ k then A1 else []) = A1 := if_pos (by omega)
          have f3 : (if 2 ≤ k then A2 else []) = [] := if_neg (by omega)
          have f4 : (if 1 ≤ k + 1 then A1 else []) = A1 := if_pos (by omega)
          have f5 : (if 2 ≤ k + 1 then A2 else []) = A2 := if_pos (by omega)
          rw [f1, f2, f3, List.append_nil] at w2
          rw [f4, f5]
          exact w2
    by_cases c0 : k = 0
    · rw [hpass true ⟨fun _ => c0, fun _ => rfl⟩]
      exact step true ⟨fun _ => c0, fun _ => rfl⟩
    · rw [hpass false ⟨fun z => (by cases z), fun z => absurd z c0⟩]
      exact step false ⟨fun z => (by cases z), fun z => absurd z c0⟩
  · rw [if_neg (by omega)]
    rw [if_pos (by omega), if_pos (by omega)] at k3
    refine sp_K_say hL k3 (fun e => ?_) (fun τ3 v1 v2 => ?_)
    · rw [k2.1.m3] at e
      have := hbl e
      rw [e59]
      simp only [List.length_append, List.length_cons, List.length_nil]
      omega
    have q3 := k2.trans v1.wz
    have e8 : τ3.1 17 8 = (dp : Int) := q3.2.1.trans h8
    rw [e8, show Int.toNat (dp : Int) = dp from rfl]
    rw [e59] at v2
    have hy : WKx τ3 (pf (pr τ3 246 dp (n : Int)) 17 8 ((dp : Int) + 1)) := ⟨fun p k a _ => by rw [pf_no a, pr_1], fun k a => by rw [pf_nk (by omega), pr_1], fun r _ _ c => by
      funext j
      rw [pf_2, pr_2, if_neg (fun z => c (by omega))]⟩
    refine ⟨⟨by omega, by omega⟩, ⟨by omega, by omega⟩, hq' _ (q3.1.trans hy) (by rw [pf_eq]; omega) (fun j => ?_) ?_⟩
    · rw [pf_2, pr_2, q3.2.2]
      by_cases cj : j = dp
      · rw [if_pos ⟨rfl, cj⟩, if_pos cj]
      · rw [if_neg (fun z => cj z.2), if_neg cj]
    · obtain ⟨⟨w0, w1, w2⟩, w3, w4, w5, w6⟩ := v2
      have hrw : ∀ r, r ≠ 246 → (pf (pr τ3 246 dp (n : Int)) 17 8 ((dp : Int) + 1)).2 r = τ3.2 r := fun r hr => by
        funext j
        rw [pf_2, pr_2, if_neg (fun z => hr z.1)]
      have hfl : ∀ p k, ¬ (p = 17 ∧ k = 8) → (pf (pr τ3 246 dp (n : Int)) 17 8 ((dp : Int) + 1)).1 p k = τ3.1 p k := fun p k a => by rw [pf_1, if_neg a]; rfl
      simp only [List.append_assoc] at w3 w4 w5 w6
      unfold WKo
      rw [hfl 17 3 (by omega), hfl 17 2 (by omega), hfl 17 4 (by omega), hfl 16 6 (by omega), hfl 17 9 (by omega), hfl 17 5 (by omega), hrw 244 (by decide), hrw 176 (by decide)]
      exact ⟨⟨w0, w1, w2⟩, w3, w4, w5, w6⟩
end Kwi
