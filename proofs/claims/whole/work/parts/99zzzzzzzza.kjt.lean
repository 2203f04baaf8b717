/-! ===== the reference judges a text ===== -/
section Kjt
variable {L : Nat → Nat} {rm nd o : Nat} {σ τ : IS} {bk : List Str} {l : List Int} {Q : Int → IS → Prop} {R : (Nat × Nat) ⊕ AS} {wide : Bool} {INV : AS → List Str → (Nat → Nat) → Prop}
/-- the picture of a text that was not yet read -/
theorem RK.first (hL : KLn L o rm nd) (hb : KBk σ bk) (hB : KB rm nd o σ) (h6 : σ.1 16 6 = (l.length : Int)) (hrow : ∀ j, j < l.length → σ.2 176 j = l.getD j 0) (hch : ∀ c ∈ l, 0 ≤ c ∧ c ≤ 1114111) (hlen : l.length ≤ 262144) (h25 : σ.1 16 25 = (l.length : Int))
    (tf : ∀ p k, ¬ (p = 16 ∧ (k = 14 ∨ k = 15 ∨ k = 16 ∨ k = 17)) → τ.1 p k = σ.1 p k) (t14 : τ.1 16 14 = 1) (t15 : τ.1 16 15 = 1) (t16 : τ.1 16 16 = 0) (t17 : τ.1 16 17 = (l.length : Int)) (tr : ∀ r, ¬ (178 ≤ r ∧ r ≤ 181) → τ.2 r = σ.2 r) (t178 : τ.2 178 0 = (l.length : Int)) (t179 : τ.2 179 0 = -1) (t180 : τ.2 180 0 = 0) (t181 : τ.2 181 0 = 0) : RK rm nd o τ (bk, l, [], fun _ => 0) (a0 l) := by
  have ho := hL.2.1
  have r1 := rf_1 ho
  obtain ⟨⟨b2, b0, b1'⟩, b3, bz, bo, b17, bv, bs⟩ := hB
  have z16 : ∀ k, k = 19 ∨ k = 20 ∨ k = 21 ∨ k = 22 ∨ k = 26 ∨ k = 32 ∨ k = 34 ∨ k = 40 ∨ k = 47 ∨ k = 56 ∨ k = 58 ∨ k = 64 ∨ k = 66 → τ.1 16 k = 0 := fun k z => by rw [tf 16 k (by omega)]; exact bz k (by omega)
  have zo : ∀ k, k = 2 ∨ k = 7 ∨ k = 14 ∨ k = 16 ∨ k = 20 → τ.1 o k = 0 := fun k z => by rw [tf o k (by omega)]; exact bo k z
  have hb' : KBk τ bk := hb.dep ⟨tf 13 1 (by omega), tf 13 6 (by omega)⟩ (fun r y1 y2 => tr r (by omega))
  have e0 : aF (a0 l) = [(l, 0, 0)] := rfl
  have eN : ∀ k, aN (a0 l) k = if k = 0 ∨ k = 8 then l.length else 0 := fun _ => rfl
  have lv0 : lvl [(l, 0, 0)] 0 = (l, 0, 0) := rfl
  refine ⟨⟨hb'.1, hb'.2, ⟨by rw [tf 16 6 (by omega)]; exact h6, hlen, fun i hi => by rw [tr 176 (by omega)]; exact hrow i hi, hch⟩, ⟨zo 2 (by omega), fun i hi => absurd hi (Nat.not_lt_zero _)⟩, ⟨by rw [tf 16 2 (by omega)]; exact b2, by rw [tf 16 0 (by omega)]; exact b0, by rw [tf 16 1 (by omega)]; exact b1'⟩, fun k hk => by rw [tr _ (by omega)]; exact bv k hk⟩, ?_, ?_, ?_, ?_, ?_, ?_, ?_, ?_, ?_, ?_, ?_, ?_, ?_⟩
  · rw [e0]
    refine ⟨t14, Nat.zero_lt_one, ⟨?_, ?_⟩, ?_, fun i hi => ?_, fun i hi => ?_⟩
    · rw [show [(l, 0, 0)].length - 1 = 0 from rfl, lv0]
      exact Kpc.mk' (p := 0) t16 (by show 0 + l.length ≤ l.length; omega) (fun j hj => by rw [Nat.zero_add]; rfl)
    · rw [show [(l, 0, 0)].length - 1 = 0 from rfl, lv0, t16, t17]
      show (l.length : Int) = 0 + (l.length : Int)
      omega
    · rw [show [(l, 0, 0)].length - 1 = 0 from rfl, t178, t17]
    · have hi0 : i = 0 := by rw [List.length_singleton] at hi; omega
      subst hi0
      rw [lv0, t179, t180, t181, t15]
      exact ⟨rfl, rfl, ⟨by omega, by omega⟩, fun j hj => absurd hj (Nat.not_lt_zero _)⟩
    · rw [List.length_singleton] at hi; omega
  · exact ⟨z16 32 (by omega), fun i hi => absurd hi (Nat.not_lt_zero _)⟩
  · refine ⟨by rw [tf 16 25 (by omega), h25, eN, if_pos (by omega)], ?_, ?_, ?_, ?_, ?_, fun k hk => ?_⟩
    · rw [tr _ (by omega), bs 5 (by omega)]; rfl
    · rw [z16 26 (by omega)]; rfl
    · rw [z16 19 (by omega)]; rfl
    · rw [z16 21 (by omega)]; rfl
    · rw [z16 22 (by omega)]; rfl
    · rw [tr _ (by omega), bs k (by omega)]
  · exact ⟨z16 20 (by omega), fun s hs => by cases hs⟩
  · exact ⟨z16 40 (by omega), fun i hi => absurd hi (Nat.not_lt_zero _), by rw [z16 47 (by omega)]; omega, by rw [z16 58 (by omega)]; omega⟩
  · exact ⟨z16 56 (by omega), fun i hi => absurd hi (Nat.not_lt_zero _)⟩
  · exact ⟨z16 34 (by omega), fun i hi => absurd hi (Nat.not_lt_zero _)⟩
  · exact ⟨zo 7 (by omega), fun i hi => absurd hi (Nat.not_lt_zero _)⟩
  · exact ⟨z16 64 (by omega), fun k hk => absurd hk (Nat.not_lt_zero _), fun _ => 0, z16 66 (by omega), Nat.le_refl _, fun k hk => absurd hk (Nat.not_lt_zero _)⟩
  · exact ⟨zo 14 (by omega), fun i hi => absurd hi (Nat.not_lt_zero _)⟩
  · have e17 : τ.1 o 17 = -1 := by rw [tf o 17 (by omega)]; exact b17
    refine ⟨[], ⟨rfl, rfl⟩, trivial, zo 16 (by omega), fun x hx => (by cases hx), ⟨zo 20 (by omega), ?_⟩, Or.inl ⟨e17, fun x hx => (by cases hx)⟩⟩
    rw [e17]
    rfl
  · rw [tf 16 3 (by omega)]; exact b3
  · exact ⟨by rw [t178, eN, if_pos (by omega)], fun h => absurd h (Nat.lt_irrefl 1), by rw [z16 47 (by omega)]; rfl, by rw [z16 58 (by omega)]; rfl⟩
/-- whether it stands alone -/
theorem RK.n5 {g : KG} {a : AS} {st : Nat} (hL : KLn L o rm nd) (h : RK rm nd o σ g a) (hst : st ≤ 1) : RK rm nd o (pf σ 16 21 (st : Int)) g (sN a 5 st) := by
  have ho := hL.2.1
  have hF : ∀ p k' : Nat, ¬ (p = 16 ∧ k' = 21) → (pf σ 16 21 (st : Int)).1 p k' = σ.1 p k' := fun p k' x => by rw [pf_1, if_neg x]
  have hR : ∀ r : Nat, ¬ (r < 0) → (pf σ 16 21 (st : Int)).2 r = σ.2 r := fun _ _ => rfl
  refine (RK.mk' ho h kle.refl cle.refl cle.refl (h.1.dep ho (fun p k x => hF p k (by omega)) (fun r x => hR r (by omega))) (Or.inl ⟨fun k x y => hF 16 k (by omega), fun r x y => hR r (by omega), rfl⟩) (Or.inl ⟨hF 16 32 (by omega), fun r x y => hR r (by omega), rfl, rfl⟩) (Or.inr ?_) (Or.inl ⟨hF 16 20 (by omega), hF 16 24 (by omega), rfl⟩) (Or.inl ⟨hF 16 40 (by omega), hF 16 47 (by omega), hF 16 58 (by omega), fun r x => hR r (by omega), rfl⟩) (Or.inl ⟨hF 16 56 (by omega), hF 16 58 (by omega), fun r x y => hR r (by omega), rfl⟩) (Or.inl ⟨hF 16 34 (by omega), hR 187 (by omega), rfl⟩) (Or.inl ⟨hF o 7 (by omega), fun k x y => hR _ (by have := rf_3 ho x y; omega), rfl⟩) (Or.inl ⟨hF 16 64 (by omega), hF 16 66 (by omega), fun r x y => hR r (by omega), hR 181 (by omega), rfl, rfl, rfl⟩) (Or.inl ⟨hF o 14 (by omega), fun k x y => hR _ (by have := rf_8 ho x y; omega), rfl, rfl⟩) (Or.inl ⟨fun k x => hF o k (by omega), hR _ (by have := rf_1 ho; omega), rfl, rfl, rfl⟩) (hF 16 3 (by omega)) (Or.inl ⟨hF 16 18 (by omega), hR 178 (by omega), rfl, rfl, rfl, hF 16 47 (by omega), hF 16 58 (by omega), rfl, rfl⟩))
  obtain ⟨n1, n2, n3, n4, n5, n6, n7⟩ := h.2.2.2.1
  refine ⟨by rw [hF 16 25 (by omega)]; exact n1, by rw [hR _ (by omega)]; exact n2, by rw [hF 16 26 (by omega)]; exact n3, by rw [hF 16 19 (by omega)]; exact n4, ?_, by rw [hF 16 22 (by omega)]; exact n6, fun k hk => by rw [hR _ (by omega)]; exact n7 k hk⟩
  rw [pf_eq]
  show (st : Int) = if (if 5 = 5 then st else aN a 5) = 1 then 1 else 0
  rw [if_pos rfl]
  rcases (show st = 0 ∨ st = 1 by omega) with y | y <;> rw [y] <;> rfl
theorem sp_K_loopB {f : Nat} (hf : f ≠ 0) (h3 : σ.1 16 3 = (f : Int)) (hq : Q 0 σ) : wLp L Q σ := by
  unfold wLp
  refine WL_ind (fun _ ρ => ρ = σ) (fun _ _ => 0) ?_ () σ rfl
  rintro _ ρ rfl K hI
  try dsimp only
  refine WJ_dir ?_
  rw [if_neg (by omega)]
  dsimp only
  rw [if_pos (by omega)]
  exact hq
/-- a text of characters -/
theorem sp_K_judgeText {N : Nat} (hL : KLn L o rm nd)
    (hI : ∀ a bk v, INV a bk v → bk.Nodup → GK rm nd a ∧ KW L o a ∧ kcL bk (stN rm a) ∧ (∀ k, k ≠ 22 → v k ≤ 300000000) ∧ aN a 1 ≤ 300000000 ∧ (kNs (aS a)).1 ≤ 120000)
    (hSt : ∀ a bk v a', INV a bk v → stp rm nd a = .inr a' → gmu rm a' < gmu rm a ∧ ∀ v', (∀ k, k ≠ 22 → v' k = v k + stV rm a k) → INV a' (kpL bk (stN rm a)) v')
    (hb : KBk σ bk) (hB : KB rm nd o σ) (h6 : σ.1 16 6 = (l.length : Int)) (h7 : σ.1 16 7 = (l.length : Int)) (hrow : ∀ j, j < l.length → σ.2 176 j = l.getD j 0) (hch : ∀ c ∈ l, 0 ≤ c ∧ c ≤ 1114111) (hlen : l.length ≤ 262144) (h8 : σ.1 16 8 = 0 ↔ wide = false)
    (hN : 2 * rm + 1 < N) (hI0 : l.length ≤ rm → INV (a0 l) bk (fun _ => 0)) (hI1 : l.length ≤ rm → hasH l = true → ∀ st k, st ≤ 1 → 0 < k ∧ k ≤ l.length → INV (adv (sN (a0 l) 5 st) k) bk (fun _ => 0))
    (hR : R = if rm < l.length then .inl (4, 0) else rdA rm nd N wide (a0 l))
    (hbad : ∀ (f p : Nat) ρ, R = .inl (f, p) → f ≠ 0 → ρ.1 16 3 = (f : Int) → ρ.1 16 4 = (p : Int) → Q 0 ρ)
    (hgood : ∀ a' ρ g', R = .inr a' → RK rm nd o ρ g' a' → KC rm g' a' → INV a' (gB g') (gV g') → fin a' = true → ((∀ a bk v, INV a bk v → aE a = []) → gC g' = l) → dyD (ρ.1 16 2) ∧ w_KReader_finish L (fun σ20 => Q 1 σ20) (pf (pf ρ 16 4 (-1)) (Int.toNat (ρ.1 16 2)) 21 (ρ.1 16 25))) : w_KReader_judgeText L Q σ := by
  have hrm := hL.2.2.1.1
  have ho := hL.2.1
  unfold w_KReader_judgeText
  rw [hB.1.2.1, h7]
  by_cases c : rm < l.length
  · rw [if_pos (by omega)]
    rw [if_pos c] at hR
    exact hbad 4 0 _ hR (by decide) (by rw [pf_nk (by decide), pf_eq]; rfl) (by rw [pf_eq]; rfl)
  · rw [if_neg (by omega)]
    rw [if_neg c] at hR
    have z := hB.2.2.1
    have l178 := hL.2.2.2.2.2.1
    unfold w_KReader_push
    refine WJ_dir ?_
    have y14 : (pf σ 16 25 (l.length : Int)).1 16 14 = 0 := by rw [pf_nk (by decide)]; exact z 14 (by omega)
    have y15 : (pf σ 16 25 (l.length : Int)).1 16 15 = 0 := by rw [pf_nk (by decide)]; exact z 15 (by omega)
    have y64 : (pf σ 16 25 (l.length : Int)).1 16 64 = 0 := by rw [pf_nk (by decide)]; exact z 64 (by omega)
    try dsimp only
    rw [y14, y15, y64, if_neg (by decide), show Int.toNat 0 = 0 from rfl]
    refine ⟨⟨by decide, by rw [l178 178 (by omega) (by omega)]; decide⟩, ⟨by decide, by rw [l178 179 (by omega) (by omega)]; decide⟩, ⟨by decide, by rw [l178 180 (by omega) (by omega)]; decide⟩, ⟨by decide, by rw [l178 181 (by omega) (by omega)]; decide⟩, ⟨by decide, by decide⟩, ⟨by decide, by decide⟩, ?_⟩
    generalize hτ : pf (pf (pf (pf (pr (pr (pr (pr (pf σ 16 25 (l.length : Int)) 178 0 (l.length : Int)) 179 0 (-1)) 180 0 0) 181 0 0) 16 15 (0 + 1)) 16 14 (0 + 1)) 16 16 0) 16 17 (l.length : Int) = τ
    have tf : ∀ p k, ¬ (p = 16 ∧ (k = 14 ∨ k = 15 ∨ k = 16 ∨ k = 17)) → τ.1 p k = (pf σ 16 25 (l.length : Int)).1 p k := fun p k y => by
      rw [← hτ, pf_1, if_neg (fun w => y ⟨w.1, by omega⟩), pf_1, if_neg (fun w => y ⟨w.1, by omega⟩), pf_1, if_neg (fun w => y ⟨w.1, by omega⟩), pf_1, if_neg (fun w => y ⟨w.1, by omega⟩)]
      rfl
    have tr : ∀ r, ¬ (178 ≤ r ∧ r ≤ 181) → τ.2 r = (pf σ 16 25 (l.length : Int)).2 r := fun r y => by
      funext x
      rw [← hτ, pf_2, pf_2, pf_2, pf_2, pr_2, if_neg (by omega), pr_2, if_neg (by omega), pr_2, if_neg (by omega), pr_2, if_neg (by omega)]
    have t17 : τ.1 16 17 = (l.length : Int) := by rw [← hτ, pf_eq]
    have t16 : τ.1 16 16 = 0 := by rw [← hτ, pf_nk (by decide), pf_eq]
    have t14 : τ.1 16 14 = 1 := by rw [← hτ, pf_nk (by decide), pf_nk (by decide), pf_eq]; rfl
    have t15 : τ.1 16 15 = 1 := by rw [← hτ, pf_nk (by decide), pf_nk (by decide), pf_nk (by decide), pf_eq]; rfl
    have t178 : τ.2 178 0 = (l.length : Int) := by rw [← hτ, pf_2, pf_2, pf_2, pf_2, pr_2, if_neg (by decide), pr_2, if_neg (by decide), pr_2, if_neg (by decide), pr_2, if_pos ⟨rfl, rfl⟩]
    have t179 : τ.2 179 0 = -1 := by rw [← hτ, pf_2, pf_2, pf_2, pf_2, pr_2, if_neg (by decide), pr_2, if_neg (by decide), pr_2, if_pos ⟨rfl, rfl⟩]
    have t180 : τ.2 180 0 = 0 := by rw [← hτ, pf_2, pf_2, pf_2, pf_2, pr_2, if_neg (by decide), pr_2, if_pos ⟨rfl, rfl⟩]
    have t181 : τ.2 181 0 = 0 := by rw [← hτ, pf_2, pf_2, pf_2, pf_2, pr_2, if_pos ⟨rfl, rfl⟩]
    have hRK : RK rm nd o τ (bk, l, [], fun _ => 0) (a0 l) := by
      refine RK.first (σ := pf σ 16 25 (l.length : Int)) hL (hb.dep ⟨pf_no (by decide), pf_no (by decide)⟩ (fun _ _ _ => rfl)) ?_ (by rw [pf_nk (by decide)]; exact h6) hrow hch hlen pf_eq tf t14 t15 t16 t17 tr t178 t179 t180 t181
      obtain ⟨⟨q1, q2, q3⟩, q4, q5, q6, q7, q8, q9⟩ := hB
      exact ⟨⟨by rw [pf_nk (by decide)]; exact q1, by rw [pf_nk (by decide)]; exact q2, by rw [pf_nk (by decide)]; exact q3⟩, by rw [pf_nk (by decide)]; exact q4, fun k hk => by rw [pf_nk (by omega)]; exact q5 k hk, fun k hk => by rw [pf_no (by omega)]; exact q6 k hk, by rw [pf_no (by omega)]; exact q7, q8, q9⟩
    clear hτ
    have hKC : KC rm ((bk, l, [], fun _ => 0) : KG) (a0 l) := by
      refine ⟨?_, ?_, ?_, rfl⟩
      · show 0 + rem (a0 l) ≤ l.length; rw [rem_a0]; omega
      · show l.length + rem (a0 l) ≤ l.length + l.length; rw [rem_a0]; exact Nat.le_refl _
      · show l.length ≤ rm; omega
    have hgm : gmu rm (a0 l) = 2 * rm + 1 := by
      show 2 * (rm - l.length) + ([2 * l.length + 1] : List Nat).sum = _
      rw [List.sum_cons, List.sum_nil]
      omega
    have hKT : KT L τ l.length := ⟨t17, hL.2.2.2.1, hlen⟩
    have hcs : chs τ l.length := fun i hi => by
      rw [tr 176 (by omega)]
      show 0 ≤ σ.2 176 i ∧ σ.2 176 i ≤ 1114111
      rw [hrow i hi]
      exact hch _ (getD_mem hi)
    have hSH : SHT (gd l) (τ.2 176) l.length 0 := fun k hk => by
      rw [Nat.zero_add, tr 176 (by omega)]
      exact hrow k hk
    have hKT0 : KT L τ (0 + l.length) := by rw [Nat.zero_add]; exact hKT
    refine kr_says (T := gd l) (p := 0) (e := l.length) hKT0 hSH 0 rfl (Nat.zero_le _) ti_1102 ?_
    have hplain : hasH l = false → wLp L Q τ := by
      intro hh
      have hR' : R = arn rm nd N (a0 l) := by
        rw [hR]
        unfold rdA
        rw [show cur (a0 l) = l from rfl, hh, if_neg (by decide)]
      exact sp_K_loop hL hI hSt hRK hKC (hI0 (by omega)) (by rw [t15, hgm]; omega) (by omega) hR' hbad hgood
    refine WJ_of (fun _ ρ => wLp L Q ρ) (fun J hJ => ?_) (fun _ ρ hw => hw)
    cases hm : mt (gd l) l.length 0 [60, 63, 120, 109, 108] with
    | false =>
      rw [if_pos (by decide)]
      refine hJ _ _ (hplain ?_)
      unfold hasH
      rw [hm]; rfl
    | true =>
      rw [if_neg (by decide)]
      refine kr_look (T := gd l) (p := 0) (e := l.length) hKT0 hSH 5 rfl (sp_K_isSpace ?_)
      have h5l : 5 ≤ l.length := mt_l0 (l := [60, 63, 120, 109, 108]) (by decide) hm
      have hsp : isSp (lk (gd l) l.length 5) = (decide (5 < l.length) && isSp (gd l 5)) := by
        by_cases c5 : 5 < l.length
        · rw [lk_b c5, decide_eq_true c5]; rfl
        · unfold lk
          rw [if_neg c5, decide_eq_false c5]; rfl
      cases hs5 : isSp (lk (gd l) l.length 5) with
      | false =>
        rw [if_pos (by decide)]
        refine hJ _ _ (hplain ?_)
        unfold hasH
        rw [← hsp, hs5, hm]; rfl
      | true =>
        rw [if_neg (by decide)]
        have hh : hasH l = true := by
          unfold hasH
          rw [← hsp, hs5, hm]; rfl
        have hR' : R = match hdk (gd l) l.length 0 with
          | none => .inl (5, 0)
          | some (st, en, k) => if encB (gd l) wide en = true then arn rm nd N (adv (sN (a0 l) 5 st) k) else .inl (2, 0) := by
          rw [hR]
          unfold rdA
          rw [show cur (a0 l) = l from rfl, hh, if_pos rfl]
          rfl
        have hKT' : KT L (pf τ 16 4 0) l.length := ⟨by rw [pf_nk (by decide)]; exact t17, hL.2.2.2.1, hlen⟩
        have h3 : (pf τ 16 4 0).1 16 3 = 0 := by rw [pf_nk (by decide)]; exact hRK.f3
        have h88 : (pf τ 16 4 0).1 16 8 = 0 ↔ wide = false := by
          rw [pf_nk (by decide), tf 16 8 (by omega), pf_nk (by decide)]
          exact h8
        have hmt' : mt ((pf τ 16 4 0).2 176) l.length 0 [60, 63, 120, 109, 108] = true := by
          have := sh_mt hSH [60, 63, 120, 109, 108] 0
          rw [Nat.zero_add, Nat.zero_add] at this
          show mt (τ.2 176) l.length 0 _ = true
          rw [this]; exact hm
        have hsh := sh_hdk hSH 0
        rw [Nat.zero_add, Nat.zero_add] at hsh
        have hencE : ∀ en : Option (Nat × Nat), (∀ i n, en = some (i, n) → i + n ≤ l.length) → encB (τ.2 176) wide (en.map (fun y => (0 + y.1, y.2))) = encB (gd l) wide en := by
          intro en hen
          cases en with
          | none => rfl
          | some q =>
            obtain ⟨i, n⟩ := q
            show decide ((sl (τ.2 176) (0 + i) n).map lowr = _) = decide ((sl (gd l) i n).map lowr = _)
            rw [sh_sl hSH (hen i n rfl)]
        refine sp_K_head (wide := wide) hKT' hcs h3 h88 h5l hmt' ⟨fun hn => ?_, fun st en k hk => ⟨fun he => ?_, fun he => ?_⟩⟩
        · have hn' : hdk (τ.2 176) l.length 0 = none := hn
          rw [hsh] at hn'
          cases hd : hdk (gd l) l.length 0 with
          | some q => rw [hd] at hn'; cases hn'
          | none =>
            rw [hd] at hR'
            exact hJ _ _ (sp_K_loopB (f := 5) (by decide) pf_eq (hbad 5 0 _ hR' (by decide) pf_eq (by rw [pf_nk (by decide), pf_eq]; rfl)))
        · have hk' : hdk (τ.2 176) l.length 0 = some (st, en, k) := hk
          have he' : encB (τ.2 176) wide en = true := he
          rw [hsh] at hk'
          cases hd : hdk (gd l) l.length 0 with
          | none => rw [hd] at hk'; cases hk'
          | some q =>
            obtain ⟨st0, en0, k0⟩ := q
            rw [hd] at hk' hR'
            have hk'' := Option.some.inj hk'
            have f1 : st0 = st := congrArg Prod.fst hk''
            have f2 : en0.map (fun y => (0 + y.1, y.2)) = en := congrArg (fun y => y.2.1) hk''
            have f3 : 0 + k0 = k := congrArg (fun y => y.2.2) hk''
            rw [Nat.zero_add] at f3
            subst f1 f3
            obtain ⟨g1, g2, g3, g4⟩ := hdk_le hd
            rw [← f2, hencE en0 g4] at he'
            dsimp only at hR'
            rw [if_pos he'] at hR'
            refine hJ _ _ ?_
            have hRn := (hRK.p4 hL 0).n5 (st := st0) hL g1
            have hRg := hRn.go (k := k0) hL (show k0 ≤ l.length from g3)
            have e16 : (pf (pf τ 16 4 0) 16 21 (st0 : Int)).1 16 16 + (k0 : Int) = (k0 : Int) := by rw [pf_nk (by decide), pf_nk (by decide), t16]; omega
            rw [e16] at hRg
            have hgm2 : gmu rm (adv (sN (a0 l) 5 st0) k0) ≤ 2 * rm + 1 := by
              show 2 * (rm - l.length) + ([2 * (l.drop k0).length + 1] : List Nat).sum ≤ _
              rw [List.sum_cons, List.sum_nil, List.length_drop]
              omega
            have hKC2 : KC rm ((bk, l, [], fun _ => 0) : KG) (adv (sN (a0 l) 5 st0) k0) := KC_adv (a := sN (a0 l) 5 st0) hKC (show k0 ≤ l.length from g3)
            exact sp_K_loop hL hI hSt hRg hKC2 (hI1 (by omega) hh st0 k0 g1 ⟨g2, g3⟩) (by rw [pf_nk (by decide), pf_nk (by decide), pf_nk (by decide), t15]; omega) (by omega) hR' hbad hgood
        · have hk' : hdk (τ.2 176) l.length 0 = some (st, en, k) := hk
          have he' : encB (τ.2 176) wide en = false := he
          rw [hsh] at hk'
          cases hd : hdk (gd l) l.length 0 with
          | none => rw [hd] at hk'; cases hk'
          | some q =>
            obtain ⟨st0, en0, k0⟩ := q
            rw [hd] at hk' hR'
            have hk'' := Option.some.inj hk'
            have f2 : en0.map (fun y => (0 + y.1, y.2)) = en := congrArg (fun y => y.2.1) hk''
            obtain ⟨g1, g2, g3, g4⟩ := hdk_le hd
            rw [← f2, hencE en0 g4] at he'
            dsimp only at hR'
            rw [if_neg (by rw [he']; decide)] at hR'
            exact hJ _ _ (sp_K_loopB (f := 2) (by decide) pf_eq (hbad 2 0 _ hR' (by decide) pf_eq (by rw [pf_nk (by decide), pf_eq]; rfl)))
end Kjt
