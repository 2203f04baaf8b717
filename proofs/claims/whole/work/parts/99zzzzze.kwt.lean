/-! ===== the reference: whether a value is as it is wanted ===== -/
/-- a name or a token -/
def kwd (nm : Bool) (l : List Int) : Bool := (!l.isEmpty) && ((!nm || isSt (l.getD 0 0)) && l.all isNm)
/-- letters of one that has begun -/
def kwp (nm : Bool) (l : List Int) : Bool := (l.isEmpty || (!nm || isSt (l.getD 0 0))) && l.all isNm
section Kwt
variable {L : Nat → Nat} {rm nd o : Nat} {σ ρ τ : IS} {g g' : KG} {a a' A : AS} {bs bs' : List Nat} {Q : IS → Prop} {R : Int → IS → Prop} {x y v w : Int} {s t : Str} {nm : Bool} {l : List Int}
theorem st_nm {c : Int} (h : isNm c = true) : noSt c = !isSt c := by
  cases hs : isSt c with
  | true => exact st_no hs
  | false =>
    rw [isNm_eq, hs] at h
    exact h
theorem kwd_kwp : kwd nm l = ((!l.isEmpty) && kwp nm l) := by
  unfold kwd kwp
  cases l.isEmpty <;> rfl
theorem mdo_ff : ∀ {l : List Int}, mdo nm false false l = l.all isNm
  | [] => rfl
  | c :: r => by
    rw [mdo_c, if_neg (fun z => Bool.false_ne_true z.2.1), List.all_cons]
    cases hc : isNm c with
    | true => rw [if_pos ⟨rfl, fun z => Bool.false_ne_true z.1⟩, mdo_ff]; rfl
    | false => rw [if_neg (fun z => Bool.false_ne_true z.1)]; rfl
theorem mdo_1 : mdo nm false true l = kwd nm l := by
  cases l with
  | nil => rfl
  | cons c r =>
    rw [mdo_c, if_neg (fun z => Bool.false_ne_true z.2.1)]
    show _ = ((!false) && ((!nm || isSt c) && (isNm c && r.all isNm)))
    cases hc : isNm c with
    | false => rw [if_neg (fun z => Bool.false_ne_true z.1)]; cases nm <;> cases isSt c <;> rfl
    | true =>
      rw [st_nm hc]
      cases hn : nm with
      | false => rw [if_pos ⟨rfl, fun z => Bool.false_ne_true z.2.1⟩, mdo_ff]; rfl
      | true =>
        cases hs : isSt c with
        | true => rw [if_pos ⟨rfl, fun z => Bool.false_ne_true z.2.2⟩, mdo_ff]; rfl
        | false => rw [if_neg (fun z => z.2 ⟨rfl, rfl, rfl⟩)]; rfl
/-- a letter more -/
theorem kwp_s {c : Int} : kwp nm (l ++ [c]) = (kwp nm l && (isNm c && (!l.isEmpty || (!nm || isSt c)))) := by
  unfold kwp
  rw [List.all_append]
  cases l with
  | nil =>
    show ((false || (!nm || isSt c)) && (true && (isNm c && true))) = (((true || (!nm || isSt 0)) && true) && (isNm c && (false || (!nm || isSt c))))
    cases nm <;> cases isSt c <;> cases isNm c <;> rfl
  | cons d r =>
    show ((false || (!nm || isSt d)) && ((d :: r).all isNm && (isNm c && true))) = (((false || (!nm || isSt d)) && (d :: r).all isNm) && (isNm c && (true || (!nm || isSt c))))
    cases nm <;> cases isSt d <;> cases (d :: r).all isNm <;> cases isNm c <;> rfl
theorem mdo_t {c : Int} {r : List Int} {b pre : Bool} (hc : c ≠ 32) : (pre && mdo nm true b (c :: r)) = ((pre && (isNm c && (!b || (!nm || isSt c)))) && mdo nm true false r) := by
  rw [mdo_c, if_neg (fun z => hc z.1)]
  cases hn : isNm c with
  | false => rw [if_neg (fun z => Bool.false_ne_true z.1)]; cases pre <;> rfl
  | true =>
    rw [st_nm hn]
    cases b <;> cases nm <;> cases isSt c <;> cases pre <;> simp
theorem mdo_s {r : List Int} {b : Bool} : mdo nm true b (32 :: r) = (!b && mdo nm true true r) := by
  rw [mdo_c]
  cases b with
  | false => rw [if_pos ⟨rfl, rfl, rfl⟩]; rfl
  | true =>
    rw [if_neg (fun z => by cases z.2.2)]
    rw [if_neg (fun z => absurd z.1 (by decide))]
    rfl
theorem sp_K_isWord {p n : Nat} {a3 : Int} (hL : KLn L o rm nd) (hd : σ.1 16 2 = (o : Int)) (hrow : ∀ i, i < n → σ.2 (rfo o 1) (p + i) = l.getD i 0) (hl : l.length = n) (hp : p + n ≤ L (rfo o 1)) (hx : x = (p : Int)) (hy : y = (n : Int)) (ha : a3 = b1 nm) (hq : R (b1 (kwd nm l)) σ) : w_KReader_isWord L x y a3 R σ := by
  subst hx hy
  have ho := hL.2.1
  have hdy : dyD (o : Int) := by
    show (o : Int) = 14 ∨ (o : Int) = 15
    omega
  have l1 := hL.2.2.2.2.2.2.2.2.2.2.2.2.2.2.2.2.1
  unfold w_KReader_isWord
  refine WJ_of (fun z ρ => ρ = σ ∧ z = b1 ((!l.isEmpty) && (!nm || isSt (l.getD 0 0)))) (fun J hJ => ?_) ?_
  · refine WJ_dir ?_
    by_cases c : 0 < n
    · rw [if_pos (by omega)]
      refine WJ_dir ?_
      have hne : l.isEmpty = false := by
        cases l with
        | nil => have : 0 = n := hl; omega
        | cons _ _ => rfl
      cases hn : nm with
      | false =>
        rw [ha, hn, if_pos (by decide)]
        exact hJ _ _ ⟨rfl, by rw [hne, hn]; rfl⟩
      | true =>
        rw [ha, hn, if_neg (by decide), hd, show Int.toNat (o : Int) = o from rfl, show Int.toNat (p : Int) = p from rfl]
        have h0 := hrow 0 c
        rw [Nat.add_zero] at h0
        rw [h0]
        refine ⟨hdy, ⟨by omega, by omega⟩, sp_K_isStart ?_⟩
        cases hs : isSt (l.getD 0 0) with
        | true => rw [if_neg (by decide)]; exact hJ _ _ ⟨rfl, by rw [hne, hn, hs]; rfl⟩
        | false => rw [if_pos (by decide)]; exact hJ _ _ ⟨rfl, by rw [hne, hn, hs]; rfl⟩
    · rw [if_neg (by omega)]
      have hne : l = [] := List.eq_nil_of_length_eq_zero (by omega)
      exact hJ _ _ ⟨rfl, by rw [hne]; rfl⟩
  rintro z ρ ⟨rfl, rfl⟩
  generalize hg0 : ((!l.isEmpty) && (!nm || isSt (l.getD 0 0))) = g0
  have hk : kwd nm l = (g0 && l.all isNm) := by
    unfold kwd
    rw [← hg0, Bool.and_assoc]
  rw [hk] at hq
  refine WL_ind (fun s ρ' => ρ' = ρ ∧ ∃ k : Nat, s.2 = (k : Int) ∧ k ≤ n ∧ s.1 = b1 (g0 && (l.take k).all isNm)) (fun s _ => ((n : Int) - s.2).toNat) ?_ (b1 g0, 0) ρ ⟨rfl, 0, rfl, Nat.zero_le _, by show b1 g0 = b1 (g0 && true); rw [Bool.and_true]⟩
  rintro ⟨s1, s2⟩ ρ' ⟨rfl, k, hs2, k1, hs1⟩ K hI
  have hs2' : s2 = (k : Int) := hs2
  have hs1' : s1 = b1 (g0 && (l.take k).all isNm) := hs1
  subst hs2' hs1'
  try dsimp only
  by_cases c : k < n
  · rw [if_pos (by omega)]
    refine WJ_dir ?_
    refine WJ_dir ?_
    have etk : (l.take (k + 1)).all isNm = ((l.take k).all isNm && isNm (l.getD k 0)) := by
      rw [List.take_succ, List.all_append, List.getD_eq_getElem?_getD, List.getElem?_eq_getElem (by omega)]
      simp
    have hstep : ∀ u : Int, u = b1 (g0 && (l.take (k + 1)).all isNm) → inR ((k : Int) + 1) ∧ K (u, (k : Int) + 1) ρ' := fun u hu => ⟨⟨by omega, by omega⟩, hI _ _ ⟨rfl, k + 1, by show (k : Int) + 1 = _; omega, by omega, hu⟩ (by show ((n : Int) - ((k : Int) + 1)).toNat < ((n : Int) - (k : Int)).toNat; omega)⟩
    cases hgd : (g0 && (l.take k).all isNm) with
    | false =>
      rw [if_pos (by decide)]
      refine hstep 0 ?_
      rw [etk, ← Bool.and_assoc, hgd]
      rfl
    | true =>
      rw [if_neg (by decide), hd, show Int.toNat (o : Int) = o from rfl, show (p : Int) + (k : Int) = ((p + k : Nat) : Int) by omega, show Int.toNat ((p + k : Nat) : Int) = p + k from rfl, hrow k c]
      refine ⟨hdy, ⟨by omega, by omega⟩, ⟨by omega, by omega⟩, sp_K_isNaming ?_⟩
      cases hn : isNm (l.getD k 0) with
      | true => rw [if_neg (by decide)]; refine hstep 1 ?_; rw [etk, ← Bool.and_assoc, hgd, hn]; rfl
      | false => rw [if_pos (by decide)]; refine hstep 0 ?_; rw [etk, ← Bool.and_assoc, hgd, hn]; rfl
  · rw [if_neg (by omega)]
    have hkn : l.take k = l := List.take_of_length_le (by omega)
    rw [hkn]
    exact ⟨b1_01 _, hq⟩
end Kwt
