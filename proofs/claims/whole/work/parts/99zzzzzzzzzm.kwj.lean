section Kwj
variable {L : Nat → Nat} {o : Nat} {σ τ υ : IS} {bk : List Str} {pl : List Int} {ad : List ADc} {el : List Elm} {at_ : List Att} {l W s t : Str} {Q : IS → Prop} {x : Int}
def okL (s : Str) : Prop := ∀ c ∈ s, 0 ≤ c ∧ c ≤ 1114111
/-- an instruction -/
theorem sp_K_target {i : Nat} {op bh : Bool} (hL : L 244 = 262144 ∧ L 176 = 262144) (h17 : σ.1 17 1 = (o : Int)) (hD : KD4 L o σ bk pl ad el at_) (hx : x = (i : Int)) (hi : i + 2 < 120000) (h8 : σ.1 17 8 = 0 ↔ op = false) (k1 : Kn bk (σ.2 (rfo o 15) i) t) (k2 : Kpc pl (σ.2 (rfo o 15) (i + 1)) s) (k3 : σ.2 (rfo o 15) (i + 2) = (s.length : Int)) (ht : okL t) (hs : okL s) (h : WKo l σ W) (hB : σ.1 17 3 = 2 → W.length + (wPi op bh t s).length ≤ 1000000000) (hq : ∀ τ, WKp σ τ → WKo l τ (W ++ wPi op bh t s) → Q τ) : w_KWriter_target L x (b1 bh) Q σ := by
  subst hx
  have hD' := hD
  obtain ⟨hLn, hBk, hE, hA, hp, hd, hal, hel, hpl, hpool⟩ := hD'
  have l15 : L (rfo o 15) = 120000 := by obtain ⟨-, -, -, -, -, -, -, -, -, -, -, -, -, -, -, -, -, -, x, -⟩ := hLn; exact x
  obtain ⟨lp1, lp2⟩ : 0 ≤ L (rfo o 1) ∧ L (rfo o 1) ≤ 262144 := by obtain ⟨-, -, -, -, -, -, -, -, -, -, -, -, -, -, -, -, x, -⟩ := hLn; exact x
  have ho := hLn.oo
  have hdy : dyD (o : Int) := by unfold dyD; rcases ho with y | y <;> rw [y] <;> decide
  have e66 : ti 1166 = [10] := ti_1166
  have e73 : ti 1173 = ti 1087 := by rw [ti_1173, ti_1087]
  have e74 : ti 1174 = ti 1089 := by rw [ti_1174, ti_1089]
  have e72 : ti 1172 = [32] := ti_1172
  have e58 : ti 1158 = ti 1088 := by rw [ti_1158, ti_1088]
  obtain ⟨P1, hP1⟩ : ∃ P : Str, P = if op = false ∧ bh = true then [10] else [] := ⟨_, rfl⟩
  obtain ⟨P2, hP2⟩ : ∃ P : Str, P = if s = [] then [] else [32] := ⟨_, rfl⟩
  obtain ⟨P3, hP3⟩ : ∃ P : Str, P = if bh = false then [10] else [] := ⟨_, rfl⟩
  have hw : wPi op bh t s = P1 ++ (ti 1087 ++ (t ++ (P2 ++ (s.flatMap crE ++ (ti 1089 ++ P3))))) := by rw [hP1, hP2, hP3]; rfl
  rw [hw] at hB hq
  have hbl : σ.1 17 3 = 2 → W.length + P1.length + (ti 1087).length + t.length + P2.length + (s.flatMap crE).length + (ti 1089).length + P3.length ≤ 1000000000 := fun e => by
    have := hB e
    simp only [List.length_append] at this
    omega
  obtain ⟨p, p1, p2, p3⟩ := k2.at_
  -- behind the first blank line
  have rest : ∀ τ0, WKp σ τ0 → WKo l τ0 (W ++ P1) → w_KWriter_say L 1173 (fun σ5 => dyD (σ5.1 17 1) ∧ inL L (rfo (Int.toNat (σ5.1 17 1)) 15) (i : Int) ∧ w_KWriter_name L (σ5.2 (rfo (Int.toNat (σ5.1 17 1)) 15) (Int.toNat (i : Int))) (fun σ8 => dyD (σ8.1 17 1) ∧ inR ((i : Int) + 2) ∧ inL L (rfo (Int.toNat (σ8.1 17 1)) 15) ((i : Int) + 2) ∧ WJ (fun (s13 : Unit) (σ14 : IS) => WL (fun (K15 : Int → IS → Prop) (s17 : Int) (σ18 : IS) => if s17 < (σ8.2 (rfo (Int.toNat (σ8.1 17 1)) 15) (Int.toNat ((i : Int) + 2))) then dyD (σ18.1 17 1) ∧ inR ((i : Int) + 1) ∧ inL L (rfo (Int.toNat (σ18.1 17 1)) 15) ((i : Int) + 1) ∧ inR ((σ18.2 (rfo (Int.toNat (σ18.1 17 1)) 15) (Int.toNat ((i : Int) + 1))) + s17) ∧ inL L (rfo (Int.toNat (σ18.1 17 1)) 1) ((σ18.2 (rfo (Int.toNat (σ18.1 17 1)) 15) (Int.toNat ((i : Int) + 1))) + s17) ∧ WJ (fun (s32 : Unit) (σ33 : IS) => inR (s17 + 1) ∧ K15 (s17 + 1) σ33) (fun J30 => if (σ18.2 (rfo (Int.toNat (σ18.1 17 1)) 1) (Int.toNat ((σ18.2 (rfo (Int.toNat (σ18.1 17 1)) 15) (Int.toNat ((i : Int) + 1))) + s17))) = 13 then w_KWriter_say L 1158 (fun σ38 => J30 () σ38) σ18 else w_KWriter_put L (σ18.2 (rfo (Int.toNat (σ18.1 17 1)) 1) (Int.toNat ((σ18.2 (rfo (Int.toNat (σ18.1 17 1)) 15) (Int.toNat ((i : Int) + 1))) + s17))) (fun σ36 => J30 () σ36) σ18) else w_KWriter_say L 1174 (fun σ20 => WJ (fun (s24 : Unit) (σ25 : IS) => Q σ25) (fun J22 => if b1 bh = 0 then w_KWriter_say L 1166 (fun σ27 => J22 () σ27) σ20 else J22 () σ20)) σ18) 0 σ14) (fun J11 => if 0 < (σ8.2 (rfo (Int.toNat (σ8.1 17 1)) 15) (Int.toNat ((i : Int) + 2))) then w_KWriter_say L 1172 (fun σ45 => J11 () σ45) σ8 else J11 () σ8)) σ5) τ0 := fun τ0 z1 z2 => by
    refine sp_K_say hL z2 (fun e => ?_) (fun τ1 t1 t2 => ?_)
    · rw [z1.m3] at e
      have := hbl e
      rw [e73, List.length_append]
      omega
    rw [e73] at t2
    have q1 := z1.trans t1
    have e1 : τ1.1 17 1 = (o : Int) := (q1.1 17 1 (by omega) (by omega)).trans h17
    rw [e1, show Int.toNat (o : Int) = o from rfl, show Int.toNat (i : Int) = i from rfl, q1.wx.ro ho (show 15 ≤ 19 by omega)]
    refine ⟨hdy, ⟨by omega, by omega⟩, sp_KW_name hL hLn.1 (by rw [e1]; exact hdy) (q1.wx.bkk hBk) k1 ht t2 (fun e => ?_) (fun τ2 u1 u2 => ?_)⟩
    · rw [q1.m3] at e
      have := hbl e
      rw [List.length_append, List.length_append]
      omega
    have q2 := q1.trans u1
    have e2 : τ2.1 17 1 = (o : Int) := (q2.1 17 1 (by omega) (by omega)).trans h17
    rw [e2, show Int.toNat (o : Int) = o from rfl, show ((i : Int) + 2) = ((i + 2 : Nat) : Int) by omega, show Int.toNat ((i + 2 : Nat) : Int) = i + 2 from rfl, show ((i : Int) + 1) = ((i + 1 : Nat) : Int) by omega, show Int.toNat ((i + 1 : Nat) : Int) = i + 1 from rfl, q2.wx.ro ho (show 15 ≤ 19 by omega), k3]
    refine ⟨hdy, ⟨by omega, by omega⟩, ⟨by omega, by omega⟩, WJ_dir ?_⟩
    try dsimp only
    -- the letters
    have lets : ∀ τ3, WKp σ τ3 → WKo l τ3 (W ++ P1 ++ ti 1087 ++ t ++ P2) → WL (fun (K15 : Int → IS → Prop) (s17 : Int) (σ18 : IS) => if s17 < (s.length : Int) then dyD (σ18.1 17 1) ∧ inR ((i + 1 : Nat) : Int) ∧ inL L (rfo (Int.toNat (σ18.1 17 1)) 15) ((i + 1 : Nat) : Int) ∧ inR ((σ18.2 (rfo (Int.toNat (σ18.1 17 1)) 15) (i + 1)) + s17) ∧ inL L (rfo (Int.toNat (σ18.1 17 1)) 1) ((σ18.2 (rfo (Int.toNat (σ18.1 17 1)) 15) (i + 1)) + s17) ∧ WJ (fun (s32 : Unit) (σ33 : IS) => inR (s17 + 1) ∧ K15 (s17 + 1) σ33) (fun J30 => if (σ18.2 (rfo (Int.toNat (σ18.1 17 1)) 1) (Int.toNat ((σ18.2 (rfo (Int.toNat (σ18.1 17 1)) 15) (i + 1)) + s17))) = 13 then w_KWriter_say L 1158 (fun σ38 => J30 () σ38) σ18 else w_KWriter_put L (σ18.2 (rfo (Int.toNat (σ18.1 17 1)) 1) (Int.toNat ((σ18.2 (rfo (Int.toNat (σ18.1 17 1)) 15) (i + 1)) + s17))) (fun σ36 => J30 () σ36) σ18) else w_KWriter_say L 1174 (fun σ20 => WJ (fun (s24 : Unit) (σ25 : IS) => Q σ25) (fun J22 => if b1 bh = 0 then w_KWriter_say L 1166 (fun σ27 => J22 () σ27) σ20 else J22 () σ20)) σ18) 0 τ3 := fun τ3 y1 y2 => by
      refine WL_ind (fun z ρ => ∃ n : Nat, z = (n : Int) ∧ n ≤ s.length ∧ WKp σ ρ ∧ WKo l ρ (W ++ P1 ++ ti 1087 ++ t ++ P2 ++ (s.take n).flatMap crE)) (fun z _ => ((s.length : Int) - z).toNat) ?_ 0 τ3 ⟨0, rfl, Nat.zero_le _, y1, by rw [List.take_zero, List.flatMap_nil, List.append_nil]; exact y2⟩
      rintro z ρ ⟨n, rfl, n1, n2, n3⟩ K hK
      try dsimp only
      by_cases cn : n < s.length
      · have e3 : ρ.1 17 1 = (o : Int) := (n2.1 17 1 (by omega) (by omega)).trans h17
        rw [if_pos (by omega), e3, show Int.toNat (o : Int) = o from rfl, n2.wx.ro ho (show 15 ≤ 19 by omega), n2.wx.ro ho (show 1 ≤ 19 by omega), p1, show (p : Int) + (n : Int) = ((p + n : Nat) : Int) by omega, show Int.toNat ((p + n : Nat) : Int) = p + n from rfl, hpool (p + n) (by omega), p3 n cn]
        have hc := hs _ (gD_mem cn)
        have hle := fm_le (f := crE) cn
        refine ⟨hdy, ⟨by omega, by omega⟩, ⟨by omega, by omega⟩, ⟨by omega, by omega⟩, ⟨by omega, by omega⟩, WJ_dir ?_⟩
        try dsimp only
        have nx : ∀ τ4, WKp ρ τ4 → WKo l τ4 (W ++ P1 ++ ti 1087 ++ t ++ P2 ++ (s.take n).flatMap crE ++ crE (s.getD n 0)) → inR ((n : Int) + 1) ∧ K ((n : Int) + 1) τ4 := fun τ4 v1 v2 => ⟨⟨by omega, by omega⟩, hK _ _ ⟨n + 1, by omega, by omega, n2.trans v1, by rw [fm_take cn, ← List.append_assoc]; exact v2⟩ (by omega)⟩
        by_cases c13 : s.getD n 0 = 13
        · rw [if_pos c13]
          have hcr : crE (s.getD n 0) = ti 1088 := by unfold crE; rw [if_pos c13]
          rw [hcr] at nx hle
          refine sp_K_say hL n3 (fun e => ?_) (fun τ4 v1 v2 => nx τ4 v1 (by rw [e58] at v2; exact v2))
          rw [n2.m3] at e
          have := hbl e
          rw [e58]
          simp only [List.length_append]
          omega
        · rw [if_neg c13]
          have hcr : crE (s.getD n 0) = [s.getD n 0] := by unfold crE; rw [if_neg c13]
          rw [hcr] at nx hle
          refine sp_K_put hL n3 hc.1 hc.2 (fun e => ?_) nx
          rw [n2.m3] at e
          have := hbl e
          rw [List.length_singleton] at hle
          simp only [List.length_append]
          omega
      · rw [if_neg (by omega)]
        rw [List.take_of_length_le (by omega)] at n3
        refine sp_K_say hL n3 (fun e => ?_) (fun τ4 v1 v2 => WJ_dir ?_)
        · rw [n2.m3] at e
          have := hbl e
          rw [e74]
          simp only [List.length_append]
          omega
        rw [e74] at v2
        try dsimp only
        have q4 := n2.trans v1
        cases bh with
        | false =>
          rw [if_pos (by decide)]
          have h3 : P3 = [10] := by rw [hP3, if_pos rfl]
          refine sp_K_say hL v2 (fun e => ?_) (fun τ5 w1 w2 => hq τ5 (q4.trans w1) ?_)
          · rw [q4.m3] at e
            have := hbl e
            rw [h3, List.length_singleton] at this
            rw [e66]
            simp only [List.length_append, List.length_singleton]
            omega
          · rw [e66] at w2
            rw [h3]
            simp only [List.append_assoc] at w2 ⊢
            exact w2
        | true =>
          rw [if_neg (by decide)]
          have h3 : P3 = [] := by rw [hP3, if_neg (by decide)]
          refine hq τ4 q4 ?_
          rw [h3, List.append_nil]
          simp only [List.append_assoc] at v2 ⊢
          exact v2
    by_cases cs : s = []
    · rw [if_neg (by rw [cs]; show ¬ (0 : Int) < ((0 : Nat) : Int); omega)]
      have h2 : P2 = [] := by rw [hP2, if_pos cs]
      exact lets τ2 q2 (by rw [h2, List.append_nil]; exact u2)
    · rw [if_pos (by have := List.length_pos_iff.mpr cs; omega)]
      have h2 : P2 = [32] := by rw [hP2, if_neg cs]
      refine sp_K_say hL u2 (fun e => ?_) (fun τ3 v1 v2 => lets τ3 (q2.trans v1) (by rw [h2]; rw [e72] at v2; exact v2))
      rw [q2.m3] at e
      have := hbl e
      rw [h2, List.length_singleton] at this
      rw [e72]
      simp only [List.length_append, List.length_singleton]
      omega
  unfold w_KWriter_target
  refine WJ_dir ?_
  try dsimp only
  by_cases c : op = false ∧ bh = true
  · have h1 : P1 = [10] := by rw [hP1, if_pos c]
    rw [if_pos ⟨by rw [c.2]; decide, h8.mpr c.1⟩]
    refine sp_K_say hL h (fun e => ?_) (fun τ0 v1 v2 => rest τ0 v1 (by rw [h1]; rw [e66] at v2; exact v2))
    have := hbl e
    rw [h1, List.length_singleton] at this
    rw [e66, List.length_singleton]
    omega
  · have h1 : P1 = [] := by rw [hP1, if_neg c]
    rw [if_neg (fun z => c ⟨h8.mp z.2, by
      cases bh with
      | true => rfl
      | false => exact absurd (by decide) z.1⟩)]
    exact rest σ WKp.refl (by rw [h1, List.append_nil]; exact h)
end Kwj
section Kwk
variable {L : Nat → Nat} {o : Nat} {σ τ υ : IS} {bk : List Str} {pl : List Int} {ad : List ADc} {el : List Elm} {at_ : List Att} {l W s t : Str} {Q : IS → Prop} {x : Int} {st : List Evt}
/-- what is wanted of a document that is written -/
def WDo (el : List Elm) (at_ : List Att) (st : List Evt) : Prop := (VCh at_ ∧ NCh el at_) ∧ (∀ e, e < el.length → KD (EN el at_ (e : Int)) (ats at_ (el.getD e elD)) ∧ ∀ t ∈ ats at_ (el.getD e elD), nm3 t = 0) ∧ (∃ q, stR (el.map (fun x => x.2.1)) st ([], 0) = some q) ∧ (∀ v ∈ st, ∀ c, v = .inl c → c ≤ 1114111) ∧ (∀ t s, Sum.inr (t, s) ∈ st → okL t ∧ okL s)
theorem wr_txt {sk : List Nat} {m : Nat} : ∀ (x : Str) {r : List Evt}, (∀ c ∈ x, 0 ≤ c) → wrS el at_ (x.map (fun c => (Sum.inl c : Evt)) ++ r) sk m = x.flatMap (escL false) ++ wrS el at_ r sk m
  | [], r, _ => rfl
  | c :: x, r, h => by
    have h1 := h c List.mem_cons_self
    show wrS el at_ (.inl c :: (x.map (fun c => (Sum.inl c : Evt)) ++ r)) sk m = _
    rw [wrS_c, if_neg (by omega), if_neg (by omega), wr_txt x (fun d hd => h d (List.mem_cons_of_mem _ hd)), List.flatMap_cons, List.append_assoc]
theorem stR_txt {pp : List Int} : ∀ (x : Str) {r : List Evt} {q : List Nat × Nat}, (∀ c ∈ x, 0 ≤ c) → stR pp (x.map (fun c => (Sum.inl c : Evt)) ++ r) q = stR pp r q
  | [], r, q, _ => rfl
  | c :: x, r, (sk, m), h => by
    have h1 := h c List.mem_cons_self
    show stR pp (.inl c :: (x.map (fun c => (Sum.inl c : Evt)) ++ r)) (sk, m) = _
    rw [stR_c, if_neg (by omega), if_neg (by omega), stR_txt x (fun d hd => h d (List.mem_cons_of_mem _ hd))]
/-- what is open, as the writer keeps it -/
def OPw (ρ : IS) (sk : List Nat) : Prop := ρ.1 17 8 = (sk.length : Int) ∧ ∀ i, i < sk.length → ρ.2 246 i = (sk.getD (sk.length - 1 - i) 0 : Int)
theorem OPw.kp {ρ : IS} {sk : List Nat} (h : OPw ρ sk) (h1 : τ.1 17 8 = ρ.1 17 8) (h2 : τ.2 246 = ρ.2 246) : OPw τ sk := by
  unfold OPw
  rw [h1, h2]
  exact h
/-- THE WHOLE: the canonical letters are written -/
theorem sp_K_write (hL : L 244 = 262144 ∧ L 176 = 262144) (hL5 : L 245 = 32768 ∧ L 247 = 32768) (hL6 : L 246 = 16384) (h17 : σ.1 17 1 = (o : Int)) (hD : KD4 L o σ bk pl ad el at_) (hS : KSt o σ bk pl st el.length) (hcap : (kNs st).1 ≤ 119990) (hW : WDo el at_ st) (hm : 0 ≤ σ.1 17 3 ∧ σ.1 17 3 ≤ 3 ∧ (σ.1 17 3 = 1 ∨ σ.1 17 3 = 2 → σ.1 17 2 = 16)) (h1 : σ.1 17 3 = 1 → σ.1 16 6 = 0) (h2 : σ.1 17 3 = 2 → σ.1 16 6 = (l.length : Int) ∧ l.length ≤ 262144 ∧ ∀ i, i < l.length → σ.2 176 i = l.getD i 0)
    (hB : σ.1 17 3 = 2 → (wrS el at_ st [] 0).length ≤ 1000000000) (hq : ∀ τ, WKx σ τ → WKo l τ (wrS el at_ st [] 0) → Q τ) : w_KWriter_write L Q σ := by
  obtain ⟨⟨hV, hN⟩, hW1, ⟨q0, hW2⟩, hW3, hW4⟩ := hW
  obtain ⟨G, ⟨g1, g1'⟩, g2, g3, g4, ⟨g5, g5'⟩, -⟩ := hS
  have hkel : kel G ≤ 119990 := by rw [g5'] at hcap; exact hcap
  have hD' := hD
  obtain ⟨hLn, hBk, hE, hA, hp, hd, hal, hel, hpl, hpool⟩ := hD'
  have l15 : L (rfo o 15) = 120000 := by obtain ⟨-, -, -, -, -, -, -, -, -, -, -, -, -, -, -, -, -, -, x, -⟩ := hLn; exact x
  have l3 : ∀ k, 3 ≤ k → k ≤ 6 → L (rfo o k) = 16384 := by obtain ⟨-, -, -, -, -, -, -, -, -, -, -, -, -, -, -, x, -⟩ := hLn; exact x
  obtain ⟨lp1, lp2⟩ : 0 ≤ L (rfo o 1) ∧ L (rfo o 1) ≤ 262144 := by obtain ⟨-, -, -, -, -, -, -, -, -, -, -, -, -, -, -, -, x, -⟩ := hLn; exact x
  have ho := hLn.oo
  have hdy : dyD (o : Int) := by unfold dyD; rcases ho with y | y <;> rw [y] <;> decide
  have e59 : ti 1159 = [62] := ti_1159
  have e75 : ti 1175 = ti 1086 := by rw [ti_1175, ti_1086]
  have hX0 : WKx σ (pf (pf (pf (pf σ 17 4 0) 17 9 0) 17 8 0) 17 5 0) := ⟨fun p k a _ => by rw [pf_no a, pf_no a, pf_no a, pf_no a], fun k a => by rw [pf_nk (by omega), pf_nk (by omega), pf_nk (by omega), pf_nk (by omega)], fun _ _ _ _ => rfl⟩
  have hw0 : WKo l (pf (pf (pf (pf σ 17 4 0) 17 9 0) 17 8 0) 17 5 0) [] := by
    have e6 : (pf (pf (pf (pf σ 17 4 0) 17 9 0) 17 8 0) 17 5 0).1 16 6 = σ.1 16 6 := by rw [pf_no (by decide), pf_no (by decide), pf_no (by decide), pf_no (by decide)]
    unfold WKo
    rw [hX0.m3, hX0.2.1 2 (by omega), e6]
    refine ⟨hm, ?_, fun _ i hi => absurd hi (Nat.not_lt_zero _), fun e _ => ⟨h1 e, fun i hi => absurd hi (Nat.not_lt_zero _)⟩, fun e => ⟨h2 e, ?_, Or.inl pf_eq, fun _ => List.nil_prefix, fun _ => pf_eq⟩⟩
    · rw [pf_nk (by decide), pf_nk (by decide), pf_nk (by decide), pf_eq]; rfl
    · rw [pf_nk (by decide), pf_nk (by decide), pf_eq]; rfl
  unfold w_KWriter_write
  generalize hT : wrS el at_ st [] 0 = T at *
  refine WL_ind (fun (z : Int × Int) ρ => ∃ (G2 : List KEv) (sk : List Nat) (m i : Nat) (W : Str), z = ((m : Int), (i : Int)) ∧ WKx σ ρ ∧ kev (σ.2 (rfo o 15)) bk pl G2 i ∧ i + kel G2 = kel G ∧ (∀ l, .inr (.inl l) ∈ G2 → ∀ c ∈ l, 0 ≤ c) ∧ (∃ d, st = d ++ kfl G2 m) ∧ (∃ q, stR (el.map (fun x => x.2.1)) (kfl G2 m) (sk, m) = some q) ∧ OPw ρ sk ∧ (sk.length ≤ m ∧ m ≤ el.length ∧ ∀ e ∈ sk, e < el.length) ∧ WKo l ρ W ∧ W ++ wrS el at_ (kfl G2 m) sk m = T) (fun z _ => ((kel G : Int) - z.2).toNat) ?_ _ _ ⟨G, [], 0, 0, [], rfl, hX0, g2, Nat.zero_add _, fun l hl => (g4 l hl).2, ⟨[], by rw [g1]; rfl⟩, ⟨q0, by rw [g1]; exact hW2⟩, ⟨by rw [pf_nk (by decide), pf_eq]; rfl, fun i hi => absurd hi (Nat.not_lt_zero _)⟩, ⟨Nat.le_refl _, Nat.zero_le _, fun e he => by cases he⟩, hw0, by rw [g1, List.nil_append]; exact hT⟩
  rintro z ρ ⟨G2, sk, m, i, W, rfl, x1, x2, x3, x4, ⟨d, x5⟩, ⟨q, x6⟩, ⟨x7, x7'⟩, ⟨x8, x8', x8''⟩, x9, x10⟩ K hK
  try dsimp only
  have r1 : ρ.1 17 1 = (o : Int) := (x1.2.1 1 (by omega)).trans h17
  have rE : ρ.2 (rfo o 15) = σ.2 (rfo o 15) := x1.ro ho (by omega)
  have rc : ρ.1 o 16 = (kel G : Int) := by rw [x1.fo ho]; exact g3
  have hDρ := hD.wk x1
  rw [r1, show Int.toNat (o : Int) = o from rfl, rc, show Int.toNat (i : Int) = i from rfl, rE]
  refine ⟨hdy, ?_⟩
  have hbd : ∀ {p r : Str}, W ++ (p ++ r) = T → ρ.1 17 3 = 2 → W.length + p.length ≤ 1000000000 := fun {p r} e1 e2 => by
    rw [x1.m3] at e2
    have := hB e2
    rw [← e1] at this
    simp only [List.length_append] at this
    omega
  cases G2 with
  | nil =>
    have : i = kel G := by rw [← x3]; rfl
    rw [if_neg (by omega)]
    have hw : wrS el at_ (kfl [] m) sk m = [] := rfl
    rw [hw, List.append_nil] at x10
    exact hq ρ x1 (by rw [← x10]; exact x9)
  | cons v r =>
    have hpos : i < kel G := by
      have : 1 ≤ kel (v :: r) := by
        rcases v with b | b | b
        · show 1 ≤ 1 + kel r; omega
        · show 1 ≤ 3 + kel r; omega
        · show 1 ≤ 4 + kel r; omega
      omega
    rw [if_pos (by omega)]
    refine ⟨⟨by omega, by omega⟩, ⟨by omega, by omega⟩, WJ_dir ?_⟩
    try dsimp only
    have x4r : ∀ l, .inr (.inl l) ∈ r → ∀ c ∈ l, 0 ≤ c := fun l hl => x4 l (List.mem_cons_of_mem _ hl)
    rcases v with b | x | ⟨t, s⟩
    · cases b with
      | true =>
        obtain ⟨k1, k2⟩ := x2
        rw [if_pos rfl] at k1
        have hk : kfl (.inl true :: r) m = .inl (-3 - (m : Int)) :: kfl r (m + 1) := rfl
        have hl : kel (.inl true :: r) = 1 + kel r := rfl
        rw [hk] at x5 x6 x10
        rw [stR_c, if_neg (by omega), if_pos (by omega)] at x6
        rw [wrS_c, if_neg (by omega), if_pos (by omega)] at x10
        split at x6
        · rename_i hcc
          have hm : m < el.length := by have := hcc.2.1; rw [List.length_map] at this; exact this
          rw [if_pos k1]
          refine sp_K_start hL hL5 hL6 r1 hDρ hV hN hm rfl (hW1 m hm).1 (hW1 m hm).2 x7 (by omega) x9 (hbd x10) (fun τ t1 t2 t3 t4 => ⟨⟨by omega, by omega⟩, hK _ _ ⟨r, m :: sk, m + 1, i + 1, _, by rw [show ((m : Int) + 1) = ((m + 1 : Nat) : Int) by omega, show ((i : Int) + 1) = ((i + 1 : Nat) : Int) by omega], x1.trans t1, k2, by omega, x4r, ⟨d ++ [.inl (-3 - (m : Int))], by rw [x5, List.append_assoc]; rfl⟩, ⟨q, x6⟩, ⟨?_, fun j hj => ?_⟩, ⟨by rw [List.length_cons]; omega, by omega, fun e he => ?_⟩, t4, by rw [List.append_assoc]; exact x10⟩ (by dsimp only; omega)⟩)
          · rw [t2, List.length_cons]
          · rw [t3]
            rw [List.length_cons] at hj ⊢
            by_cases cj : j = sk.length
            · rw [if_pos cj, cj, show sk.length + 1 - 1 - sk.length = 0 by omega]
              rfl
            · rw [if_neg cj, x7' j (by omega), show sk.length + 1 - 1 - j = (sk.length - 1 - j) + 1 by omega]
              rfl
          · rcases List.mem_cons.mp he with z | z
            · rw [z]; exact hm
            · exact x8'' e z
        · cases x6
      | false =>
        obtain ⟨k1, k2⟩ := x2
        rw [if_neg (by decide)] at k1
        have hk : kfl (.inl false :: r) m = .inl (-1) :: kfl r m := rfl
        have hl : kel (.inl false :: r) = 1 + kel r := rfl
        rw [hk] at x5 x6 x10
        rw [stR_c, if_pos rfl] at x6
        rw [wrS_c, if_pos rfl] at x10
        cases sk with
        | nil => cases x6
        | cons e sk =>
          dsimp only at x6 x10
          have hem : e < el.length := x8'' e List.mem_cons_self
          rw [List.length_cons] at x7 x8
          have hX1 : WKx ρ (pf ρ 17 8 (ρ.1 17 8 - 1)) := ⟨fun p k a _ => pf_no a, fun k a => pf_nk (by omega), fun _ _ _ _ => rfl⟩
          have e8 : (pf ρ 17 8 (ρ.1 17 8 - 1)).1 17 8 = (sk.length : Int) := by rw [pf_eq, x7]; omega
          have hw1 : WKo l (pf ρ 17 8 (ρ.1 17 8 - 1)) W := by
            obtain ⟨⟨w0, w1, w2⟩, w3, w4, w5, w6⟩ := x9
            have e6 : (pf ρ 17 8 (ρ.1 17 8 - 1)).1 16 6 = ρ.1 16 6 := pf_no (by decide)
            unfold WKo
            rw [pf_nk (by decide), pf_nk (by decide), pf_nk (by decide), e6, pf_nk (by decide), pf_nk (by decide)]
            exact ⟨⟨w0, w1, w2⟩, w3, w4, w5, w6⟩
          obtain ⟨n1, -⟩ := hE.2 e hem
          rw [k1, if_neg (by decide), if_pos rfl]
          have hbl : ρ.1 17 3 = 2 → W.length + (ti 1086).length + (el.getD e elD).1.length + 1 ≤ 1000000000 := fun z => by
            have := hbd x10 z
            unfold wEn at this
            simp only [List.length_append, List.length_cons, List.length_nil] at this
            omega
          refine ⟨⟨by omega, by omega⟩, sp_K_say hL hw1 (fun z => ?_) (fun τ1 t1 t2 => ?_)⟩
          · rw [hX1.m3] at z
            have := hbl z
            rw [e75]
            omega
          rw [e75] at t2
          have q1 := x1.trans (hX1.trans t1.wx)
          have e1 : τ1.1 17 1 = (o : Int) := (q1.2.1 1 (by omega)).trans h17
          have e9 : τ1.1 17 8 = (sk.length : Int) := (t1.wz.2.1).trans e8
          have e10 : τ1.2 246 sk.length = (e : Int) := by
            rw [t1.wz.2.2, pf_2, x7' sk.length (by rw [List.length_cons]; omega), List.length_cons, show sk.length + 1 - 1 - sk.length = 0 by omega]
            rfl
          rw [e1, show Int.toNat (o : Int) = o from rfl, e9, show Int.toNat (sk.length : Int) = sk.length from rfl, e10, show Int.toNat (e : Int) = e from rfl, q1.ro ho (show 3 ≤ 19 by omega)]
          refine ⟨hdy, ⟨by omega, by omega⟩, ⟨by omega, by rw [l3 3 (by omega) (by omega)]; omega⟩, sp_KW_name hL hLn.1 (by rw [e1]; exact hdy) (q1.bkk hBk) n1 (hN.1 e hem) t2 (fun z => ?_) (fun τ2 u1 u2 => ?_)⟩
          · rw [q1.m3, ← x1.m3] at z
            have := hbl z
            rw [List.length_append]
            omega
          have q2 := q1.trans u1.wx
          refine sp_K_say hL u2 (fun z => ?_) (fun τ3 v1 v2 => hK _ _ ⟨r, sk, m, i + 1, _, by rw [show ((i : Int) + 1) = ((i + 1 : Nat) : Int) by omega], q2.trans v1.wx, k2, by omega, x4r, ⟨d ++ [.inl (-1)], by rw [x5, List.append_assoc]; rfl⟩, ⟨q, x6⟩, ⟨?_, fun j hj => ?_⟩, ⟨by omega, x8', fun e' he => x8'' e' (List.mem_cons_of_mem _ he)⟩, v2, ?_⟩ (by dsimp only; omega))
          · rw [q2.m3, ← x1.m3] at z
            have := hbl z
            rw [e59, List.length_append, List.length_append, List.length_singleton]
            omega
          · rw [v1.wz.2.1, u1.wz.2.1, e9]
          · rw [v1.wz.2.2, u1.wz.2.2, t1.wz.2.2, pf_2, x7' j (by rw [List.length_cons]; omega), List.length_cons, show sk.length + 1 - 1 - j = (sk.length - 1 - j) + 1 by omega]
            rfl
          · rw [e59]
            unfold wEn at x10
            simp only [List.append_assoc] at x10 ⊢
            exact x10
    · obtain ⟨k1, k2, k3, k4⟩ := x2
      have hx0 := x4 x List.mem_cons_self
      have hk : kfl (.inr (.inl x) :: r) m = x.map (fun c => .inl c) ++ kfl r m := rfl
      have hl : kel (.inr (.inl x) :: r) = 3 + kel r := rfl
      rw [hk] at x5 x6 x10
      rw [stR_txt x hx0] at x6
      rw [wr_txt x hx0] at x10
      have hxc : okL x := fun c hc => ⟨hx0 c hc, hW3 (.inl c) (by rw [x5]; exact List.mem_append_right _ (List.mem_append_left _ (List.mem_map.mpr ⟨c, hc, rfl⟩))) c rfl⟩
      obtain ⟨p, p1, p2, p3⟩ := k2.at_
      rw [k1, if_neg (by decide), if_neg (by decide), if_pos rfl]
      have hbl := hbd x10
      refine WL_ind (fun z υ => ∃ n : Nat, z = (n : Int) ∧ n ≤ x.length ∧ WKp ρ υ ∧ WKo l υ (W ++ (x.take n).flatMap (escL false))) (fun z _ => ((x.length : Int) - z).toNat) ?_ 0 ρ ⟨0, rfl, Nat.zero_le _, WKp.refl, by rw [List.take_zero, List.flatMap_nil, List.append_nil]; exact x9⟩
      rintro z υ ⟨n, rfl, n1, n2, n3⟩ K' hK'
      try dsimp only
      have qv := x1.trans n2.wx
      have e1 : υ.1 17 1 = (o : Int) := (qv.2.1 1 (by omega)).trans h17
      rw [e1, show Int.toNat (o : Int) = o from rfl, qv.ro ho (show 15 ≤ 19 by omega), qv.ro ho (show 1 ≤ 19 by omega), show ((i : Int) + 1 + 1) = ((i + 2 : Nat) : Int) by omega, show Int.toNat ((i + 2 : Nat) : Int) = i + 2 from rfl, show ((i : Int) + 1) = ((i + 1 : Nat) : Int) by omega, show Int.toNat ((i + 1 : Nat) : Int) = i + 1 from rfl, k3, p1]
      refine ⟨hdy, ⟨by omega, by omega⟩, ⟨by omega, by omega⟩, ?_⟩
      by_cases cn : n < x.length
      · rw [if_pos (by omega), show (p : Int) + (n : Int) = ((p + n : Nat) : Int) by omega, show Int.toNat ((p + n : Nat) : Int) = p + n from rfl, hpool (p + n) (by omega), p3 n cn]
        have hc := hxc _ (gD_mem cn)
        have hle := fm_le (f := escL false) cn
        refine ⟨⟨by omega, by omega⟩, ⟨by omega, by omega⟩, ⟨by omega, by omega⟩, sp_K_escape (v := false) hL n3 hc.1 hc.2 (fun e => ?_) (fun τ4 v1 v2 => ⟨⟨by omega, by omega⟩, hK' _ _ ⟨n + 1, by omega, by omega, n2.trans v1, by rw [fm_take cn, ← List.append_assoc]; exact v2⟩ (by omega)⟩)⟩
        rw [n2.m3] at e
        have := hbl e
        rw [List.length_append]
        omega
      · rw [if_neg (by omega)]
        rw [List.take_of_length_le (by omega)] at n3
        exact ⟨⟨by omega, by omega⟩, hK _ _ ⟨r, sk, m, i + 3, _, by rw [show (((i + 1 : Nat) : Int) + 2) = ((i + 3 : Nat) : Int) by omega], qv, k4, by omega, x4r, ⟨d ++ x.map (fun c => .inl c), by rw [x5, List.append_assoc]⟩, ⟨q, x6⟩, (show OPw ρ sk from ⟨x7, x7'⟩).kp n2.wz.2.1 n2.wz.2.2, ⟨x8, x8', x8''⟩, n3, by rw [List.append_assoc]; exact x10⟩ (by dsimp only; omega)⟩
    · obtain ⟨k1, k2, k3, k4, k5⟩ := x2
      dsimp only at k2 k3 k4
      have hk : kfl (.inr (.inr (t, s)) :: r) m = .inr (t, s) :: kfl r m := rfl
      have hl : kel (.inr (.inr (t, s)) :: r) = 4 + kel r := rfl
      rw [hk] at x5 x6 x10
      have x6' : stR (el.map (fun x => x.2.1)) (kfl r m) (sk, m) = some q := x6
      rw [wrS_pi] at x10
      obtain ⟨o1, o2⟩ := hW4 t s (by rw [x5]; exact List.mem_append_right _ List.mem_cons_self)
      rw [k1, if_neg (by decide), if_neg (by decide), if_neg (by decide)]
      have hb1 : (if (0 : Int) < (m : Int) then (1 : Int) else (0 : Int)) = b1 (decide (0 < m)) := by
        by_cases c : 0 < m
        · rw [if_pos (by omega), decide_eq_true c]; rfl
        · rw [if_neg (by omega), decide_eq_false c]; rfl
      rw [hb1, show ((i : Int) + 1) = ((i + 1 : Nat) : Int) by omega]
      refine sp_K_target (i := i + 1) (op := !sk.isEmpty) (bh := decide (0 < m)) hL r1 hDρ rfl (by omega) ?_ (by rw [rE]; exact k2) (by rw [rE]; exact k3) (by rw [rE]; exact k4) o1 o2 x9 (hbd x10) (fun τ t1 t2 => ⟨⟨by omega, by omega⟩, hK _ _ ⟨r, sk, m, i + 4, _, by rw [show (((i + 1 : Nat) : Int) + 3) = ((i + 4 : Nat) : Int) by omega], x1.trans t1.wx, k5, by omega, x4r, ⟨d ++ [.inr (t, s)], by rw [x5, List.append_assoc]; rfl⟩, ⟨q, x6'⟩, (show OPw ρ sk from ⟨x7, x7'⟩).kp t1.wz.2.1 t1.wz.2.2, ⟨x8, x8', x8''⟩, t2, by rw [List.append_assoc]; exact x10⟩ (by dsimp only; omega)⟩)
      rw [x7]
      cases sk with
      | nil => exact ⟨fun _ => rfl, fun _ => rfl⟩
      | cons e sk => exact ⟨fun z => absurd z (by rw [List.length_cons]; omega), fun z => by cases z⟩
end Kwk
