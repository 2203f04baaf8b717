/-! ===== the reference: a model is read ===== -/
section Kmo
variable {L : Nat → Nat} {rm nd o : Nat} {σ ρ τ : IS} {g g' : KG} {Q : IS → Prop} {R : Int → IS → Prop} {T : Nat → Int} {p e : Nat} {x y : Int} {s : Str} {l : List Str}
/-- what stands between the parts of the groups that are open -/
def GRP (ρ : IS) (st : List Int) : Prop := ∀ j, j < st.length → ρ.2 175 (st.length - 1 - j) = st.getD j 0
theorem GRP.psh {st : List Int} {v : Int} (h : GRP ρ st) (hr : ∀ i, τ.2 175 i = if i = st.length then v else ρ.2 175 i) : GRP τ (v :: st) := fun j hj => by
  rw [List.length_cons] at hj ⊢
  rw [hr]
  cases j with
  | zero => rw [if_pos (by omega)]; rfl
  | succ j =>
    rw [if_neg (by omega), show st.length + 1 - 1 - (j + 1) = st.length - 1 - j by omega]
    exact h j (by omega)
theorem GRP.pop {st : List Int} {v : Int} (h : GRP ρ (v :: st)) (hr : τ.2 175 = ρ.2 175) : GRP τ st := fun j hj => by
  have := h (j + 1) (by rw [List.length_cons]; omega)
  rw [List.length_cons, show st.length + 1 - 1 - (j + 1) = st.length - 1 - j by omega] at this
  rw [hr]
  exact this
theorem mdk_s {N : Nat} {s : Int} {st : List Int} {due : Bool} {k n d : Nat} : mdk T e (N + 1) (s :: st) due k n d = if due = true then (if lk T e (sk isSp T e k) = 40 then mdk T e N (0 :: s :: st) true (sk isSp T e k + 1) n (if d < st.length + 2 then st.length + 2 else d) else (match nmg T e true (some (sk isSp T e k)) with
        | none => none
        | some j => mdk T e N (s :: st) false (oft T e j) (n + 1) d))
      else if lk T e (sk isSp T e k) = 41 then mdk T e N st false (oft T e (sk isSp T e k + 1)) n d
      else if (lk T e (sk isSp T e k) = 124 ∨ lk T e (sk isSp T e k) = 44) ∧ (s = 0 ∨ s = lk T e (sk isSp T e k)) then mdk T e N (lk T e (sk isSp T e k) :: st) true (sk isSp T e k + 1) n d
      else none := rfl
set_option maxHeartbeats 4000000 in
theorem sp_K_model {c : Nat} (h175 : L 175 = 65536) (hK : KT L σ (p + e)) (hS : SHT T (σ.2 176) e p) (hce : c ≤ e) (h65 : e ≤ 65536) (h76 : σ.1 16 76 = 0) (h77 : σ.1 16 77 = 0) (hx : x = ((p + c : Nat) : Int)) (hq : ∀ τ, (∀ pp kk, ¬ (pp = 16 ∧ (kk = 76 ∨ kk = 77)) → τ.1 pp kk = σ.1 pp kk) → (∀ r, r ≠ 175 → τ.2 r = σ.2 r) → (∀ r, mdl T e c = some r → τ.1 16 76 = (r.2.1 : Int) ∧ τ.1 16 77 = b1 (decide (60 < r.2.2))) → R (enc (mvo p ((mdl T e c).map (fun r => r.1)))) τ) : w_KReader_model L x R σ := by
  subst hx
  have hK2 := hK.2.2
  unfold w_KReader_model
  generalize hRES : mdl T e c = RES at hq
  refine WL_ind2 (fun nn s3 ρ => ((∀ pp kk, ¬ (pp = 16 ∧ (kk = 76 ∨ kk = 77)) → ρ.1 pp kk = σ.1 pp kk) ∧ ∀ r, r ≠ 175 → ρ.2 r = σ.2 r) ∧ ((nn = e + 3 ∧ s3 = (0, ((p + c : Nat) : Int), 1) ∧ ρ = σ) ∨ (∃ (s : Int) (st : List Int) (due : Bool) (k n d : Nat), nn = e + 2 - k ∧ k ≤ e ∧ 1 ≤ k ∧ s3 = (((st.length + 1 : Nat) : Int), ((p + sk isSp T e k : Nat) : Int), b1 due) ∧ RES = mdk T e (e + 2) (s :: st) due k n d ∧ GRP ρ (s :: st) ∧ ρ.1 16 76 = (n : Int) ∧ ρ.1 16 77 = b1 (decide (60 < d)) ∧ st.length + 1 ≤ k ∧ n ≤ k) ∨ (nn = 0 ∧ ∃ k n d : Nat, s3 = (0, ((p + k : Nat) : Int), 0) ∧ RES = some (k, n, d) ∧ ρ.1 16 76 = (n : Int) ∧ ρ.1 16 77 = b1 (decide (60 < d))) ∨ (nn = 0 ∧ s3.2.1 = -1 ∧ RES = none))) ?_ (e + 3) _ σ ⟨⟨fun _ _ _ => rfl, fun _ _ => rfl⟩, Or.inl ⟨rfl, rfl, rfl⟩⟩
  rintro nn s3 ρ ⟨⟨F, RR⟩, hI⟩ K hI'
  try dsimp only
  have hKρ : KT L ρ (p + e) := by unfold KT; rw [F 16 17 (by omega)]; exact hK
  have hSρ : SHT T (ρ.2 176) e p := by rw [RR 176 (by decide)]; exact hS
  refine WJ_dir ?_
  rcases hI with ⟨rfl, rfl, rfl⟩ | ⟨s, st, due, k, n, d, rfl, hk, hk1, rfl, hm, hG, h6, h7, hls, hnk⟩ | ⟨rfl, k, n, d, rfl, hm, h6, h7⟩ | ⟨rfl, h1, hm⟩
  · -- at the first
    try dsimp only
    rw [if_neg (by omega), if_pos (Or.inr (by decide))]
    refine kr_look hK hS c rfl ?_
    refine WJ_dir ?_
    unfold mdl at hRES
    by_cases c4 : lk T e c = 40
    · have hct := lk_lt (by decide) c4
      have hmt : mt T e c [40] = true := by show ((lk T e c == 40) && true) = true; rw [c4]; rfl
      rw [if_pos hmt] at hRES
      rw [if_pos ⟨by decide, c4⟩, show Int.toNat (0 : Int) = 0 from rfl, h77, if_pos rfl, if_neg (by decide)]
      refine ⟨⟨by omega, by omega⟩, ⟨by omega, by omega⟩, ⟨by omega, by omega⟩, ?_⟩
      have F1 : ∀ pp kk, ¬ (pp = 16 ∧ (kk = 76 ∨ kk = 77)) → (pf (pr ρ 175 0 0) 16 77 0).1 pp kk = ρ.1 pp kk := fun pp kk z => by rw [pf_1, if_neg (by omega), pr_1]
      have R1 : ∀ r, r ≠ 175 → (pf (pr ρ 175 0 0) 16 77 0).2 r = ρ.2 r := fun r z => by rw [pfr, prn z]
      have hK1 : KT L (pf (pr ρ 175 0 0) 16 77 0) (p + e) := by unfold KT; rw [F1 16 17 (by omega)]; exact hK
      have hS1 : SHT T ((pf (pr ρ 175 0 0) 16 77 0).2 176) e p := by rw [R1 176 (by decide)]; exact hS
      refine kr_asp hK1 hS1 (some (c + 1)) (by show ((p + c : Nat) : Int) + 1 = ((p + (c + 1) : Nat) : Int); omega) (fun i hi => by cases hi; omega) ?_
      refine hI' (e + 2 - (c + 1)) _ _ ⟨⟨F1, R1⟩, Or.inr (Or.inl ⟨0, [], true, c + 1, 0, 1, rfl, by omega, by omega, rfl, hRES.symm, ?_, ?_, ?_, by show 0 + 1 ≤ c + 1; omega, by omega⟩)⟩ (by omega)
      · refine GRP.psh (ρ := ρ) (st := []) (fun j hj => absurd hj (Nat.not_lt_zero j)) (fun i => ?_)
        rw [pfr, prr]
        rfl
      · rw [pf_nk (by decide), pr_1]; exact h76
      · rw [pf_eq]; rfl
    · have hmt : mt T e c [40] = false := by
        show ((lk T e c == 40) && true) = false
        have : (lk T e c == 40) = false := by simpa using c4
        rw [this]; rfl
      rw [if_neg (by rw [hmt]; decide)] at hRES
      rw [if_neg (fun z => c4 z.2), if_neg (by decide)]
      refine WJ_dir ?_
      rw [if_pos rfl]
      dsimp only
      rw [h76]
      refine ⟨⟨by omega, by omega⟩, ?_⟩
      refine WJ_dir ?_
      rw [if_pos (by decide)]
      exact hI' 0 _ _ ⟨⟨fun pp kk z => by rw [pf_1, if_neg (by omega)], fun _ _ => rfl⟩, Or.inr (Or.inr (Or.inr ⟨rfl, rfl, hRES.symm⟩))⟩ (by omega)
  · -- in a group
    try dsimp only
    have hyl := sk_le (p := isSp) (T := T) hk
    rw [if_neg (by omega), if_pos (Or.inl (by omega))]
    refine kr_look hKρ hSρ (sk isSp T e k) rfl ?_
    refine WJ_dir ?_
    rw [mdk_s] at hm
    generalize hy : sk isSp T e k = y at *
    have hgs : ρ.2 175 st.length = s := by
      have := hG 0 (by rw [List.length_cons]; omega)
      rw [List.length_cons, show st.length + 1 - 1 - 0 = st.length by omega] at this
      exact this
    cases due with
    | true =>
      rw [if_pos rfl] at hm
      by_cases c4 : lk T e y = 40
      · have hct := lk_lt (by decide) c4
        rw [if_pos c4] at hm
        rw [if_pos ⟨by decide, c4⟩, show Int.toNat ((st.length + 1 : Nat) : Int) = st.length + 1 from rfl, h7]
        refine ⟨⟨by omega, by omega⟩, ⟨by omega, by omega⟩, ⟨by omega, by omega⟩, ?_⟩
        have e77 : (if b1 (decide (60 < d)) = 0 then (if (60 : Int) < ((st.length + 1 : Nat) : Int) + 1 then (1 : Int) else 0) else 1) = b1 (decide (60 < (if d < st.length + 2 then st.length + 2 else d))) := by
          by_cases cd : 60 < d
          · rw [decide_eq_true cd, if_neg (by decide), decide_eq_true (by split <;> omega)]
            rfl
          · rw [decide_eq_false cd, if_pos (by decide)]
            by_cases cs : 60 < st.length + 2
            · rw [if_pos (by omega), if_pos (by omega), decide_eq_true cs]
              rfl
            · rw [if_neg (by omega), decide_eq_false (by split <;> omega)]
              rfl
        rw [e77]
        generalize hd' : (if d < st.length + 2 then st.length + 2 else d) = d' at *
        have F1 : ∀ pp kk, ¬ (pp = 16 ∧ (kk = 76 ∨ kk = 77)) → (pf (pr ρ 175 (st.length + 1) 0) 16 77 (b1 (decide (60 < d')))).1 pp kk = ρ.1 pp kk := fun pp kk z => by rw [pf_1, if_neg (by omega), pr_1]
        have R1 : ∀ r, r ≠ 175 → (pf (pr ρ 175 (st.length + 1) 0) 16 77 (b1 (decide (60 < d')))).2 r = ρ.2 r := fun r z => by rw [pfr, prn z]
        have hK1 : KT L (pf (pr ρ 175 (st.length + 1) 0) 16 77 (b1 (decide (60 < d')))) (p + e) := by unfold KT; rw [F1 16 17 (by omega)]; exact hKρ
        have hS1 : SHT T ((pf (pr ρ 175 (st.length + 1) 0) 16 77 (b1 (decide (60 < d')))).2 176) e p := by rw [R1 176 (by decide)]; exact hSρ
        refine kr_asp hK1 hS1 (some (y + 1)) (by show ((p + y : Nat) : Int) + 1 = ((p + (y + 1) : Nat) : Int); omega) (fun i hi => by cases hi; omega) ?_
        refine hI' (e + 2 - (y + 1)) _ _ ⟨⟨fun pp kk z => by rw [F1 pp kk z, F pp kk z], fun r z => by rw [R1 r z, RR r z]⟩, Or.inr (Or.inl ⟨0, s :: st, true, y + 1, n, d', rfl, by omega, by omega, ?_, ?_, ?_, ?_, ?_, by rw [List.length_cons]; omega, by omega⟩)⟩ (by omega)
        · rw [List.length_cons]; rfl
        · rw [hm]; exact mdk_fuel _ _ _ _ _ _ _ (by omega) (by omega) (by omega)
        · refine hG.psh (fun i => ?_)
          rw [pfr, prr, List.length_cons]
        · rw [pf_nk (by decide), pr_1]; exact h6
        · exact pf_eq
      · rw [if_neg c4] at hm
        rw [if_neg (fun z => c4 z.2), if_neg (by decide)]
        refine WJ_of (fun (s88 : Int) υ => υ = ρ ∧ s88 = enc (mvo p (nmg T e true (some y)))) (fun J hJ => ?_) ?_
        · rw [if_neg (by omega)]
          exact kr_name hKρ hSρ (some y) rfl (fun i hi => by cases hi; exact hyl.2) (hJ _ _ ⟨rfl, rfl⟩)
        rintro s88 υ ⟨rfl, rfl⟩
        rw [h6]
        refine ⟨⟨by omega, by omega⟩, ?_⟩
        refine WJ_dir ?_
        have F1 : ∀ pp kk, ¬ (pp = 16 ∧ (kk = 76 ∨ kk = 77)) → (pf υ 16 76 ((n : Int) + 1)).1 pp kk = υ.1 pp kk := fun pp kk z => by rw [pf_1, if_neg (by omega)]
        have hK1 : KT L (pf υ 16 76 ((n : Int) + 1)) (p + e) := by unfold KT; rw [F1 16 17 (by omega)]; exact hKρ
        cases hn : nmg T e true (some y) with
        | none =>
          rw [hn] at hm
          rw [if_pos (show enc (mvo p none) < 0 from (by show (-1 : Int) < 0; decide))]
          exact hI' 0 _ _ ⟨⟨fun pp kk z => by rw [F1 pp kk z, F pp kk z], fun r z => RR r z⟩, Or.inr (Or.inr (Or.inr ⟨rfl, rfl, hm⟩))⟩ (by omega)
        | some j =>
          rw [hn] at hm
          have hm : RES = mdk T e (e + 1) (s :: st) false (oft T e j) (n + 1) d := hm
          have hnl := nmg_lt hn
          have hol := oft_le (T := T) hnl.2.2
          rw [if_neg (show ¬ enc (mvo p (some j)) < 0 from (by show ¬ ((p + j : Nat) : Int) < 0; omega))]
          refine kr_often hK1 hSρ (i := j) rfl hnl.2.2 ?_
          refine kr_asp hK1 hSρ (some (oft T e j)) rfl (fun i hi => by cases hi; exact hol.2) ?_
          refine hI' (e + 2 - oft T e j) _ _ ⟨⟨fun pp kk z => by rw [F1 pp kk z, F pp kk z], fun r z => RR r z⟩, Or.inr (Or.inl ⟨s, st, false, oft T e j, n + 1, d, rfl, hol.2, by omega, rfl, ?_, hG, ?_, ?_, by omega, by omega⟩)⟩ (by omega)
          · rw [hm]; exact mdk_fuel _ _ _ _ _ _ _ (by omega) (by omega) (by omega)
          · rw [pf_eq]; omega
          · rw [pf_nk (by decide)]; exact h7
    | false =>
      rw [if_neg (by decide)] at hm
      rw [if_neg (fun z => z.1 (by decide)), if_pos (by decide)]
      by_cases c4 : lk T e y = 41
      · have hct := lk_lt (by decide) c4
        have hol := oft_le (T := T) (e := e) (k := y + 1) (by omega)
        rw [if_pos c4] at hm
        rw [if_pos c4]
        refine ⟨⟨by omega, by omega⟩, ⟨by omega, by omega⟩, ?_⟩
        refine kr_often hKρ hSρ (i := y + 1) (by omega) (by omega) ?_
        refine WJ_dir ?_
        rw [show ((st.length + 1 : Nat) : Int) + (-1) = (st.length : Int) by omega]
        cases st with
        | nil =>
          rw [if_neg (by rw [List.length_nil]; omega)]
          have hm2 : RES = some (oft T e (y + 1), n, d) := hm
          exact hI' 0 _ _ ⟨⟨F, RR⟩, Or.inr (Or.inr (Or.inl ⟨rfl, oft T e (y + 1), n, d, rfl, hm2, h6, h7⟩))⟩ (by omega)
        | cons s' st' =>
          rw [List.length_cons] at hls ⊢
          rw [if_pos (by omega)]
          refine kr_asp hKρ hSρ (some (oft T e (y + 1))) rfl (fun i hi => by cases hi; exact hol.2) ?_
          refine hI' (e + 2 - oft T e (y + 1)) _ _ ⟨⟨F, RR⟩, Or.inr (Or.inl ⟨s', st', false, oft T e (y + 1), n, d, rfl, hol.2, by omega, rfl, ?_, hG.pop rfl, h6, h7, by omega, by omega⟩)⟩ (by omega)
          rw [hm]; exact mdk_fuel _ _ _ _ _ _ _ (by omega) (by omega) (by omega)
      · rw [if_neg c4] at hm
        rw [if_neg c4, show ((st.length + 1 : Nat) : Int) - 1 = (st.length : Int) by omega, show Int.toNat (st.length : Int) = st.length from rfl, hgs]
        refine ⟨⟨fun _ => ⟨⟨by omega, by omega⟩, ⟨by omega, by omega⟩, fun _ => ⟨⟨by omega, by omega⟩, ⟨by omega, by omega⟩⟩⟩, fun _ _ => ⟨⟨by omega, by omega⟩, ⟨by omega, by omega⟩, fun _ => ⟨⟨by omega, by omega⟩, ⟨by omega, by omega⟩⟩⟩⟩, ?_⟩
        unfold LETI
        refine ⟨⟨by omega, by omega⟩, ⟨by omega, by omega⟩, ?_⟩
        refine WJ_dir ?_
        have F1 : ∀ v : Int, (pr ρ 175 st.length v).1 = ρ.1 := fun v => pr_1
        have R1 : ∀ v : Int, ∀ r, r ≠ 175 → (pr ρ 175 st.length v).2 r = ρ.2 r := fun v r z => prn z
        by_cases c5 : (lk T e y = 124 ∨ lk T e y = 44) ∧ (s = 0 ∨ s = lk T e y)
        · rw [if_pos c5] at hm
          have hye : y < e := by
            refine Classical.byContradiction (fun z => ?_)
            have := c5.1
            rw [lk_ge z] at this
            omega
          have hnb : nb (lk T e y) = lk T e y := by rcases c5.1 with z | z <;> rw [z] <;> decide
          have ht : (if lk T e y = 124 then (if s = 0 then (1 : Int) else (if s = lk T e y then (1 : Int) else 0)) else (if lk T e y = 44 then (if s = 0 then (1 : Int) else (if s = lk T e y then (1 : Int) else 0)) else 0)) = 1 := by
            rcases c5.1 with z | z
            · rw [if_pos z]
              rcases c5.2 with w | w
              · rw [if_pos w]
              · rw [if_pos w]; split <;> rfl
            · rw [if_neg (by omega), if_pos z]
              rcases c5.2 with w | w
              · rw [if_pos w]
              · rw [if_pos w]; split <;> rfl
          rw [ht, if_neg (by decide), hnb]
          refine ⟨⟨by omega, by omega⟩, ?_⟩
          have hK1 : KT L (pr ρ 175 st.length (lk T e y)) (p + e) := by unfold KT; rw [F1]; exact hKρ
          have hS1 : SHT T ((pr ρ 175 st.length (lk T e y)).2 176) e p := by rw [R1 _ 176 (by decide)]; exact hSρ
          refine kr_asp hK1 hS1 (some (y + 1)) (by show ((p + y : Nat) : Int) + 1 = ((p + (y + 1) : Nat) : Int); omega) (fun i hi => by cases hi; omega) ?_
          refine hI' (e + 2 - (y + 1)) _ _ ⟨⟨fun pp kk z => by rw [F1, F pp kk z], fun r z => by rw [R1 _ r z, RR r z]⟩, Or.inr (Or.inl ⟨lk T e y, st, true, y + 1, n, d, rfl, by omega, by omega, rfl, ?_, ?_, h6, h7, by omega, by omega⟩)⟩ (by omega)
          · rw [hm]; exact mdk_fuel _ _ _ _ _ _ _ (by omega) (by omega) (by omega)
          · exact (hG.pop (τ := ρ) rfl).psh (fun i => by rw [prr])
        · rw [if_neg c5] at hm
          have ht : (if lk T e y = 124 then (if s = 0 then (1 : Int) else (if s = lk T e y then (1 : Int) else 0)) else (if lk T e y = 44 then (if s = 0 then (1 : Int) else (if s = lk T e y then (1 : Int) else 0)) else 0)) = 0 := by
            by_cases z : lk T e y = 124
            · rw [if_pos z, if_neg (fun w => c5 ⟨Or.inl z, Or.inl w⟩), if_neg (fun w => c5 ⟨Or.inl z, Or.inr w⟩)]
            · rw [if_neg z]
              by_cases z2 : lk T e y = 44
              · rw [if_pos z2, if_neg (fun w => c5 ⟨Or.inr z2, Or.inl w⟩), if_neg (fun w => c5 ⟨Or.inr z2, Or.inr w⟩)]
              · rw [if_neg z2]
          rw [ht, if_pos rfl]
          exact hI' 0 _ _ ⟨⟨fun pp kk z => by rw [F1, F pp kk z], fun r z => by rw [R1 _ r z, RR r z]⟩, Or.inr (Or.inr (Or.inr ⟨rfl, rfl, hm⟩))⟩ (by omega)
  · -- read
    try dsimp only
    rw [if_neg (by omega), if_neg (by rintro (z | z); exact absurd z (by decide); exact z rfl)]
    rw [hm] at hq
    refine hq ρ F RR (fun r hr => ?_)
    rw [← Option.some.inj hr]
    exact ⟨h6, h7⟩
  · rw [h1, if_pos (by decide)]
    rw [hm] at hq
    exact hq ρ F RR (fun r hr => by cases hr)
end Kmo
