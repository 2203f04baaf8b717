/-! ===== items of the class: types of attributes, kept ===== -/
section JI18
variable {L : Nat → Nat} {rm nd : Nat} {ρ0 ρ ρ' ρ'' : IS} {A : AS} {Q : IS → Prop}
theorem brL_fuel {T : Nat → Int} {e : Nat} {b : Bool} : ∀ (n m k : Nat), k ≤ e → e < n + k → e < m + k → brL T e b n k = brL T e b m k := by
  intro n
  induction n with
  | zero => intro m k h0 h1 h2; omega
  | succ n ih =>
    intro m k h0 h1 h2
    cases m with
    | zero => omega
    | succ m =>
      show (match nmg T e b (asp T e (some k)) with
        | none => []
        | some j => (sk isSp T e k, j) :: (if mt T e (sk isSp T e j) [124] = true then brL T e b n (sk isSp T e j + 1) else [])) = (match nmg T e b (asp T e (some k)) with
        | none => []
        | some j => (sk isSp T e k, j) :: (if mt T e (sk isSp T e j) [124] = true then brL T e b m (sk isSp T e j + 1) else []))
      cases hn : nmg T e b (asp T e (some k)) with
      | none => rfl
      | some j =>
        dsimp only
        have g0 := sk_le (p := isSp) (T := T) h0
        have g1 := nmg_lt (i := sk isSp T e k) hn
        have g2 := sk_le (p := isSp) (T := T) g1.2.2
        by_cases c : mt T e (sk isSp T e j) [124] = true
        · rw [if_pos c, if_pos c]
          have g3 := wd_bad (l := [124]) ti_1039 (by decide) c
          have g4 : [(124 : Int)].length = 1 := rfl
          rw [ih m _ (by omega) (by omega) (by omega)]
        · rw [if_neg c, if_neg c]
theorem brL_step {T : Nat → Int} {e : Nat} {b : Bool} {k j : Nat} (h0 : k ≤ e) (hn : nmg T e b (asp T e (some k)) = some j) : brL T e b (e + 1) k = (sk isSp T e k, j) :: (if mt T e (sk isSp T e j) [124] = true then brL T e b (e + 1) (sk isSp T e j + 1) else []) := by
  have h1 : brL T e b (e + 1) k = (match nmg T e b (asp T e (some k)) with
    | none => []
    | some j => (sk isSp T e k, j) :: (if mt T e (sk isSp T e j) [124] = true then brL T e b e (sk isSp T e j + 1) else [])) := rfl
  rw [h1, hn]
  dsimp only
  have g0 := sk_le (p := isSp) (T := T) h0
  have g1 := nmg_lt (i := sk isSp T e k) hn
  have g2 := sk_le (p := isSp) (T := T) g1.2.2
  by_cases c : mt T e (sk isSp T e j) [124] = true
  · rw [if_pos c, if_pos c]
    have g3 := wd_bad (l := [124]) ti_1039 (by decide) c
    have g4 : [(124 : Int)].length = 1 := rfl
    rw [brL_fuel e (e + 1) _ (by omega) (by omega) (by omega)]
  · rw [if_neg c, if_neg c]
/-- what reading with keeping leaves as it was -/
def AK (ρ0 ρ : IS) : Prop := sgr ρ0 ρ ∧ jtp ρ = jtp ρ0 ∧ ρ.2 101 = ρ0.2 101 ∧ ∀ o k, ¬ (o = 1 ∧ (k = 13 ∨ k = 14)) → ¬ (o = 2 ∧ (k = 2 ∨ (7 ≤ k ∧ k ≤ 11))) → ¬ (o = 4 ∧ k = 16) → ρ.1 o k = ρ0.1 o k
theorem AK.refl : AK ρ ρ := ⟨sgr.refl, rfl, rfl, fun _ _ _ _ _ => rfl⟩
theorem AK.trans (h : AK ρ0 ρ) (h' : AK ρ ρ') : AK ρ0 ρ' := ⟨h.1.trans h'.1, h'.2.1.trans h.2.1, h'.2.2.1.trans h.2.2.1, fun o k x1 x2 x3 => (h'.2.2.2 o k x1 x2 x3).trans (h.2.2.2 o k x1 x2 x3)⟩
theorem AK.jpp {P : Int} {b e q : Nat} {ls : List Str} (h : AP L rm nd A P b ls ρ) (hj : jp e 0 ρ (some q) ρ') : AK ρ ρ' := by
  obtain ⟨c1, c2, c3, c4⟩ := hj.cells
  exact ⟨(SI_of h.si.1 (σ' := ρ') (c1 1 14 (by omega) (by omega)) (by rw [c1 1 3 (by omega) (by omega)]; have := h.si.1.1; omega) (fun r _ _ => by rw [c2]) (fun i _ => by rw [c2])).2, by unfold jtp; rw [c1 1 3 (by omega) (by omega)], by rw [c2], fun o k x1 x2 x3 => c1 o k x2 (by omega)⟩
set_option maxRecDepth 10000 in
set_option maxHeartbeats 1000000 in
theorem j_readList1 {P : Int} {b e q0 k : Nat} {all : List Str} (hln : JLn L rm nd) (bb : Bool) {a2 : Int} (ha : a2 = b1 bb) (hAP : AP L rm nd A P b [] ρ0) (h3 : ρ0.1 2 3 = (e : Int)) (h2 : ρ0.1 2 2 = (q0 : Int)) (hq0 : q0 ≤ e) (he : e ≤ jtp ρ0) (hk : brt (ρ0.2 101) e bb (some q0) = some k) (hall : all = (brL (ρ0.2 101) e bb (e + 1) (q0 + 1)).map (fun z => sl (ρ0.2 101) z.1 (z.2 - z.1))) (hw : jw ρ0 + all.length < L 102) (hl : b + all.length < L 124) (hb : b + all.length ≤ 200000)
    (hq : ∀ ρ, AP L rm nd A P b all ρ → AK ρ0 ρ → ρ.1 2 2 = (k : Int) → jw ρ ≤ jw ρ0 + all.length → Q ρ) : w_Doctype_readList L 1 a2 Q ρ0 := by
  have hS0 := hAP.js hln h3 he
  have he1 : e < 1000000 := by have := hS0.2.1; have := hS0.2.2.1; omega
  generalize hT : ρ0.2 101 = T at *
  have hj0 : jp e 0 ρ0 (some q0) ρ0 := jp.start' hS0 hq0 h2
  have hbr : (wd T e [40] (some q0)).bind (brk T e bb (e + 1)) = some k := hk
  have hw40 : wd T e [40] (some q0) = some (q0 + 1) := by
    cases hc : wd T e [40] (some q0) with
    | none => rw [hc] at hbr; cases hbr
    | some w => have := wd1 (by decide) hc; rw [this.1]
  rw [hw40, Option.bind_some] at hbr
  have hq1 : q0 + 1 ≤ e := by have := wd1 (by decide) hw40; omega
  unfold w_Doctype_readList
  refine p_need hS0 (by omega) ti_1037 (by decide) hj0 (fun τ1 h1 => ?_)
  rw [hT, hw40] at h1
  have hAP1 := hAP.mv hln h1
  have hAK1 := AK.jpp hAP h1
  have hjw1 : jw τ1 = jw ρ0 := h1.store.1
  refine WL_ind (fun (s : Int × Int) (ρ : IS) => (s.1 = 1 ∧ ∃ (q : Nat) (ls : List Str), AP L rm nd A P b ls ρ ∧ AK ρ0 ρ ∧ ρ.1 2 2 = (q : Int) ∧ q ≤ e ∧ 0 ≤ s.2 ∧ s.2 ≤ (q : Int) ∧ brk T e bb (e + 1) q = some k ∧ all = ls ++ (brL T e bb (e + 1) q).map (fun z => sl T z.1 (z.2 - z.1)) ∧ jw ρ ≤ jw ρ0 + ls.length) ∨ (s.1 = 0 ∧ ∃ q : Nat, AP L rm nd A P b all ρ ∧ AK ρ0 ρ ∧ ρ.1 2 2 = (q : Int) ∧ q ≤ e ∧ wd T e [41] (some q) = some k ∧ jw ρ ≤ jw ρ0 + all.length)) (fun s _ => (2 * (1000000 - s.2) + s.1).toNat) ?_ (1, 0) τ1 (Or.inl ⟨rfl, q0 + 1, [], hAP1, hAK1, h1.at.1, hq1, Int.le_refl _, by dsimp only; omega, hbr, hall, by rw [hjw1]; exact Nat.le_add_right _ _⟩)
  rintro ⟨s, t⟩ ρ hI0 K hI
  dsimp only at hI0 hI ⊢
  have hJSof : ∀ {ls : List Str} {ρ : IS}, AP L rm nd A P b ls ρ → AK ρ0 ρ → JS L ρ e := fun {ls ρ} x1 x2 => x1.js hln (by rw [x2.2.2.2 2 3 (by omega) (by omega) (by omega)]; exact h3) (by rw [x2.2.1]; exact he)
  rcases hI0 with ⟨rfl, q, ls, hA, hK, hz, hqe, ht0, htq, hbk, hal, hjw⟩ | ⟨rfl, q, hA, hK, hz, hqe, hwk, hjw⟩
  · have hS := hJSof hA hK
    have hTρ : ρ.2 101 = T := by rw [hK.2.2.1]; exact hT
    have hjq : jp e 0 ρ (some q) ρ := jp.start' hS hqe hz
    rw [if_pos ⟨by omega, by decide, hS.2.2.2.1⟩]
    rw [brk_step hqe] at hbk
    cases hn : nmg T e bb (asp T e (some q)) with
    | none => rw [hn] at hbk; cases hbk
    | some j =>
    rw [hn] at hbk
    dsimp only at hbk
    rw [brL_step hqe hn, List.map_cons] at hal
    have g1 := nmg_lt (i := sk isSp T e q) hn
    have g2 := sk_le (p := isSp) (T := T) g1.2.2
    have g0 := sk_le (p := isSp) (T := T) hqe
    have hlen : ls.length + 1 ≤ all.length := by rw [hal, List.length_append, List.length_cons]; omega
    refine p_skipSpace hS (by omega) hjq (fun v8 ρ1 h1' _ _ => ?_)
    rw [hTρ] at h1'
    refine WJ_of (fun s ρ2 => s = ((sk isSp T e q : Nat) : Int) ∧ jp e 0 ρ (some j) ρ2) (fun J hJ => ?_) ?_
    · cases bb with
      | false =>
        rw [if_pos (by rw [ha]; rfl)]
        exact p_readToken hS (by omega) h1' (fun v ρ2 h2' hv _ => hJ _ _ ⟨hv _ rfl, by rw [hTρ, hn] at h2'; exact h2'⟩)
      | true =>
        rw [if_neg (by rw [ha]; decide)]
        exact p_readName hS (by omega) h1' (fun v ρ2 h2' hv _ => hJ _ _ ⟨hv _ rfl, by rw [hTρ, hn] at h2'; exact h2'⟩)
    · rintro s11 ρ2 ⟨rfl, h2'⟩
      have hA2 := hA.mv hln h2'
      have hK2 := hK.trans (AK.jpp hA h2')
      have hjw2 : jw ρ2 = jw ρ := h2'.store.1
      have hT2 : ρ2.2 101 = T := by rw [hK2.2.2.1]; exact hT
      refine WJ_of (fun _ ρ5 => AP L rm nd A P b (ls ++ [sl T (sk isSp T e q) (j - sk isSp T e q)]) ρ5 ∧ AK ρ0 ρ5 ∧ ρ5.1 2 2 = (j : Int) ∧ jw ρ5 ≤ jw ρ0 + (ls.length + 1)) (fun J hJ => ?_) ?_
      · rw [if_neg (by decide), h2'.at.1]
        refine ⟨⟨by omega, by omega⟩, ?_⟩
        have hjt2 : jtp ρ2 = jtp ρ0 := hK2.2.1
        refine hA2.int (s := sk isSp T e q) (n := j - sk isSp T e q) hln (by omega) (by omega) rfl (by omega) (fun x ρ3 hA3 hg3 hJn hjw3 hjt3 hfr => ?_)
        rw [hT2] at hJn
        refine hA3.lst hln hJn (by omega) (by omega) (fun ρ4 hA4 hg4 hjw4 hjt4 hf4 hr4 => hJ _ _ ⟨hA4, ⟨?_, ?_, ?_, fun o k x1 x2 x3 => ?_⟩, ?_, ?_⟩)
        · exact (hK2.1.trans hg3).trans hg4
        · rw [hjt4, hjt3]; exact hK2.2.1
        · rw [hr4 101 (by decide), hfr.2 101 (by omega)]; exact hK2.2.2.1
        · rw [hf4 o k x3, hfr.1 o k x1]; exact hK2.2.2.2 o k x1 x2 x3
        · rw [hf4 2 2 (by omega), hfr.1 2 2 (by omega)]; exact h2'.at.1
        · omega
      · rintro _ ρ5 ⟨hA5, hK5, hz5, hjw5⟩
        have hS5 := hJSof hA5 hK5
        have hT5 : ρ5.2 101 = T := by rw [hK5.2.2.1]; exact hT
        refine p_skipSpace hS5 (by omega) (show jp e 0 ρ5 (some j) ρ5 from jp.start' hS5 g1.2.2 hz5) (fun v18 ρ6 h6 _ _ => p_skip hS5 (by omega) ti_1039 (by decide) h6 (fun v20 ρ7 h7 h01 hv => ⟨⟨by omega, by omega⟩, ?_⟩))
        rw [hT5] at h7 hv
        have hv' := hv (sk isSp T e j) rfl
        have h7' : jp e 0 ρ5 (if mt T e (sk isSp T e j) [124] = true then some (sk isSp T e j + 1) else some (sk isSp T e j)) ρ7 := h7
        by_cases c : mt T e (sk isSp T e j) [124] = true
        · rw [if_pos c] at h7' hbk hal
          rw [c] at hv'
          have hv1 : v20 = 1 := hv'
          refine hI _ _ (Or.inl ⟨hv1, sk isSp T e j + 1, ls ++ [sl T (sk isSp T e q) (j - sk isSp T e q)], hA5.mv hln h7', hK5.trans (AK.jpp hA5 h7'), h7'.at.1, h7'.at.2, by dsimp only; omega, by dsimp only; omega, hbk, by rw [hal, List.append_assoc]; rfl, ?_⟩) (by dsimp only; omega)
          rw [h7'.store.1, List.length_append, List.length_singleton]
          exact hjw5
        · rw [if_neg c] at h7' hbk hal
          have hv1 : v20 = 0 := by rw [hv']; unfold b1; rw [if_neg c]
          have hal' : all = ls ++ [sl T (sk isSp T e q) (j - sk isSp T e q)] := hal
          refine hI _ _ (Or.inr ⟨hv1, sk isSp T e j, by rw [hal']; exact hA5.mv hln h7', hK5.trans (AK.jpp hA5 h7'), h7'.at.1, h7'.at.2, hbk, ?_⟩) (by dsimp only; omega)
          rw [h7'.store.1, hal', List.length_append, List.length_singleton]
          exact hjw5
  · rw [if_neg (fun y => y.2.1 rfl)]
    have hS := hJSof hA hK
    have hTρ : ρ.2 101 = T := by rw [hK.2.2.1]; exact hT
    refine p_need hS (by omega) ti_1040 (by decide) (show jp e 0 ρ (some q) ρ from jp.start' hS hqe hz) (fun τ' h' => ?_)
    rw [hTρ, hwk] at h'
    exact hq τ' (hA.mv hln h') (hK.trans (AK.jpp hA h')) h'.at.1 (by rw [h'.store.1]; exact hjw)
end JI18
