/-! ===== the reference: parameters, the end of a text ===== -/
section Kpf
variable {L : Nat → Nat} {rm nd o : Nat} {σ τ : IS} {g g' : KG} {a a' A : AS} {Q : IS → Prop} {R : Int → IS → Prop} {T : Nat → Int} {x : Int} {s : Str}
theorem sN_cm {j k x y : Nat} (h : j ≠ k) : sN (sN A j x) k y = sN (sN A k y) j x := by
  have e : (fun i => if i = k then y else if i = j then x else aN A i) = (fun i => if i = j then x else if i = k then y else aN A i) := by
    funext i
    by_cases c : i = k
    · rw [if_pos c, if_neg (by omega), if_pos c]
    · rw [if_neg c, if_neg c]
  exact congrArg (fun f => (A.1, A.2.1, f, A.2.2.2)) e
theorem qI_prf (hL : KLn L o rm nd) (h : RK rm nd o σ g a) (hG : GK rm nd a) (hC : KC rm g a) (hs : σ.1 16 15 ≤ 1000000) (h1' : 1 ≤ (cur a).length) (hq : KO rm nd o σ g Q (iPrf rm a) [] (fun _ => 0)) : w_KReader_parameterReference L Q σ := by
  obtain ⟨p, q, t, hF, h1, h2, hK, hc, hS, hp⟩ := h.at_ hL
  have hK2 := hK.2.2
  have ho := hL.2.1
  have l176 := hL.2.2.2.1
  have heL := hG.2.2.2.2.2.2.2.1.1
  unfold w_KReader_parameterReference
  rw [h1]
  refine ⟨⟨by omega, by omega⟩, kr_name hK hS (some 1) rfl (fun i hi => by cases hi; exact h1') ?_⟩
  refine kr_word hK hS _ rfl nmg_le ti_1100 ?_
  have epc : pcp (gd (cur a)) (cur a).length 0 = wd (gd (cur a)) (cur a).length [59] (nmg (gd (cur a)) (cur a).length true (some 1)) := rfl
  refine sp_K_written rfl h.f3 (fun hn => ?_) (fun k0 hk0 hv => ?_)
  · rw [if_pos rfl]
    refine hq.1 5 ?_ _ pf_eq (pf_nk (by decide))
    unfold iPrf
    rw [epc, mvo_eq_none.mp hn]
    cases nmg (gd (cur a)) (cur a).length true (some 1) <;> rfl
  rw [if_neg (by decide)]
  obtain ⟨k, hk, e1⟩ := mvo_eq_some.mp hk0
  cases hn : nmg (gd (cur a)) (cur a).length true (some 1) with
  | none => rw [hn] at hk; cases hk
  | some n =>
    have hnl := nmg_lt hn
    have hkl : k ≤ (cur a).length := wdl_le ti_1100 nmg_le _ hk
    rw [hn] at hk
    rw [hk]
    have e2 : enc (mvo p (some n)) - (p : Int) - 1 = ((n - 1 : Nat) : Int) := by show ((p + n : Nat) : Int) - _ - 1 = _; omega
    have e3 : enc (mvo p (some n)) = ((p + n : Nat) : Int) := rfl
    rw [h1, e2]
    refine ⟨(h.dy ho).2, ⟨by omega, by omega⟩, ⟨by omega, by omega⟩, ⟨by omega, by omega⟩, ?_⟩
    have esl : sl (σ.2 176) (p + 1) (n - 1) = sl (gd (cur a)) 1 (n - 1) := sh_sl hS (by omega)
    refine sp_K_bf (p := p + 1) (n := n - 1) hL h ⟨by omega, by omega⟩ (by omega) rfl esl (fun v hvf => ?_)
    refine sp_K_entityOf (b := true) hL h heL hvf rfl ?_
    have hid : iPrf rm a = match eno (aE a) (sl (gd (cur a)) 1 (n - 1)) true with
        | none => .inl 9
        | some i => match ent rm a i k with
          | .inl f => .inl f
          | .inr a' => .inr (sN a' 6 1) := by
      unfold iPrf
      rw [epc, hn, hk]
      rfl
    cases hen : eno (aE a) (sl (gd (cur a)) 1 (n - 1)) true with
    | none =>
      rw [hen] at hid
      rw [if_pos (show enc none < 0 by decide)]
      refine sp_K_fail h.f3 ?_
      exact hq.1 9 hid _ pf_eq (pf_nk (by decide))
    | some i =>
      rw [hen] at hid
      have hi : i < (aE a).length := eno_lt hen
      have hid2 : iPrf rm a = match ent rm a i k with
          | .inl f => .inl f
          | .inr a' => .inr (sN a' 6 1) := hid
      rw [ent_eq hF] at hid2
      rw [if_neg (show ¬ enc (some i) < 0 by show ¬ ((i : Nat) : Int) < 0; omega)]
      refine sp_K_fits hL h heL hC.2.2.1 hi rfl (fun f1 => ?_) (fun f1 f2 => ?_) (fun f1 f2 => ?_)
      · rw [if_pos rfl]
        rw [if_pos f1] at hid2
        exact hq.1 4 hid2 _ pf_eq (pf_nk (by decide))
      · rw [if_pos rfl]
        rw [if_neg f1, if_pos f2] at hid2
        exact hq.1 10 hid2 _ pf_eq (pf_nk (by decide))
      · rw [if_neg (by decide)]
        rw [if_neg f1, if_neg f2] at hid2
        have hn0 := (h.n0 (v := aN a 0 + (((aE a).getD i ([], false, [])).2.2).length) hL).n6 hL
        refine sp_K_goThrough (i := i) (k := k) (q := q) (t := t) hL hn0 hG.2.2.2.2.2.2.2.2.1 heL hi rfl hF hkl ?_ ?_ (fun τ hτ t1 t2 => ?_)
        · rw [pf_nk (by decide), pf_nk (by decide), h1]
          show ((p + k : Nat) : Int) = _
          omega
        · rw [pf_nk (by decide), pf_nk (by decide)]
          exact hs
        · have e4 : sN (sF (sN (sN a 0 (aN a 0 + (((aE a).getD i ([], false, [])).2.2).length)) 6 1) ((((aE a).getD i ([], false, [])).2.2, i + 1, (aO a).length) :: ((cur a).drop k, q) :: t)) 7 (if t = [] then aN a 8 - (cur a).length else aN a 7) = sN (sN (sF (sN a 0 (aN a 0 + (((aE a).getD i ([], false, [])).2.2).length)) ((((aE a).getD i ([], false, [])).2.2, i + 1, (aO a).length) :: ((cur a).drop k, q) :: t)) 7 (if t = [] then aN a 8 - (cur a).length else aN a 7)) 6 1 := sN_cm (A := sF (sN a 0 (aN a 0 + (((aE a).getD i ([], false, [])).2.2).length)) ((((aE a).getD i ([], false, [])).2.2, i + 1, (aO a).length) :: ((cur a).drop k, q) :: t)) (by decide)
          have hτ' : RK rm nd o τ g (sN (sF (sN (sN a 0 (aN a 0 + (((aE a).getD i ([], false, [])).2.2).length)) 6 1) ((((aE a).getD i ([], false, [])).2.2, i + 1, (aO a).length) :: ((cur a).drop k, q) :: t)) 7 (if t = [] then aN a 8 - (cur a).length else aN a 7)) := hτ
          rw [e4] at hτ'
          have hke := KC_ent (n := (aO a).length) (y := if t = [] then aN a 8 - (cur a).length else aN a 7) hF hC hkl f1
          exact hq.2 _ hid2 τ g hτ' rfl (fun _ => rfl) (fun _ _ => rfl) hke (by rw [t1, pf_nk (by decide), pf_nk (by decide)]) (by rw [t2, pf_nk (by decide), pf_nk (by decide)]; omega)
/-- a text has ended -/
theorem RK.pop {f : Frm} {t : List Frm} (hL : KLn L o rm nd) (h : RK rm nd o σ g a) (hG : GO (aE a) (aF a)) (hF' : aF a = f :: t) (ht : 0 < t.length) (hf1 : 0 < f.2.1) (hO : (aO a).length ≤ f.2.2) (t14 : τ.1 16 14 = σ.1 16 14 - 1) (t16 : τ.1 16 16 = σ.2 177 (t.length - 1)) (t17 : τ.1 16 17 = σ.2 178 (t.length - 1)) (tF : ∀ p k', ¬ (p = 16 ∧ (k' = 14 ∨ k' = 16 ∨ k' = 17)) → τ.1 p k' = σ.1 p k') (r186 : ∀ j : Nat, τ.2 186 j = if j + 1 = f.2.1 then 0 else σ.2 186 j) (tR : ∀ r, r ≠ 186 → τ.2 r = σ.2 r) : RK rm nd o τ g (sF a t) := by
  have ho := hL.2.1
  have hfr := h.2.1
  have hen := h.2.2.1
  have hop := h.2.2.2.2.2.2.2.2.2.1
  have hpl := h.pl
  rw [hF'] at hfr hop
  have hF := tF
  have hR : ∀ r, ¬ (r = 186) → τ.2 r = σ.2 r := tR
  refine (RK.mk' ho h kle.refl cle.refl cle.refl (h.1.dep ho (fun p k x => hF p k (by omega)) (fun r x => hR r (by omega))) (Or.inr ?_) (Or.inr ?_) (Or.inl ⟨fun k x => hF 16 k (by omega), hR _ (by have := rf_1 ho; omega), rfl⟩) (Or.inl ⟨hF 16 20 (by omega), hF 16 24 (by omega), rfl⟩) (Or.inl ⟨hF 16 40 (by omega), hF 16 47 (by omega), hF 16 58 (by omega), fun r x => hR r (by omega), rfl⟩) (Or.inl ⟨hF 16 56 (by omega), hF 16 58 (by omega), fun r x y => hR r (by omega), rfl⟩) (Or.inl ⟨hF 16 34 (by omega), hR 187 (by omega), rfl⟩) (Or.inl ⟨hF o 7 (by omega), fun k x y => hR _ (by have := rf_3 ho x y; omega), rfl⟩) (Or.inr ?_) (Or.inl ⟨hF o 14 (by omega), fun k x y => hR _ (by have := rf_8 ho x y; omega), rfl, rfl⟩) (Or.inl ⟨fun k x => hF o k (by omega), hR _ (by have := rf_1 ho; omega), rfl, rfl, rfl⟩) (hF 16 3 (by omega)) (Or.inr ?_))
  · exact hfr.pop' ht t14 (hF 16 15 (by omega)) t16 t17 (fun r x y => hR r (by omega))
  · refine KEn.bs hen (hF 16 32 (by omega)) (fun r x y => hR r (by omega)) (fun j hj => ?_)
    have hnd := hG.1
    rw [hF', List.map_cons, List.nodup_cons] at hnd
    show τ.2 186 j = if (j + 1) ∈ t.map (fun f => f.2.1) then 1 else 0
    have hb : bsy a = f.2.1 :: t.map (fun f => f.2.1) := by unfold bsy; rw [hF']; rfl
    have := (hen.2 j hj).2.2.2.2
    rw [r186]
    by_cases c : j + 1 = f.2.1
    · rw [if_pos c, if_neg (by rw [c]; exact hnd.1)]
    · rw [if_neg c, this, hb]
      by_cases d : (j + 1) ∈ t.map (fun f => f.2.1)
      · rw [if_pos (List.mem_cons_of_mem _ d), if_pos d]
      · rw [if_neg d, if_neg (fun z => (List.mem_cons.mp z).elim c d)]
  · exact hop.pop' hO (hF 16 64 (by omega)) (hF 16 66 (by omega)) (fun r x y => hR r (by omega)) (hR 181 (by omega))
  · refine ⟨by rw [hR 178 (by omega)]; exact hpl.1, fun z => ?_, (hF 16 47 (by omega)).trans hpl.2.2.1, (hF 16 58 (by omega)).trans hpl.2.2.2⟩
    rw [hF 16 18 (by omega)]
    exact hpl.2.1 (by rw [hF', List.length_cons]; have : 1 < t.length := z; omega)
theorem qI_fin (hL : KLn L o rm nd) (h : RK rm nd o σ g a) (hG : GK rm nd a) (hC : KC rm g a) (hcur : cur a = []) (hq : KO rm nd o σ g Q (iFin a) [] (fun _ => 0)) : w_KReader_item L Q σ := by
  obtain ⟨p, q, t, hF, h1, h2, hK, hc, hS, hp⟩ := h.at_ hL
  have hN := h.2.2.2.1
  have n4 : σ.1 16 19 = (aN a 4 : Int) := hN.2.2.2.1
  have h64 : σ.1 16 64 = ((aO a).length : Int) := h.2.2.2.2.2.2.2.2.2.1.1
  have hGO := hG.2.2.2.2.2.2.2.2.1
  have hlen := hGO.len
  have heL := hG.2.2.2.2.2.2.2.1.1
  have e14 : σ.1 16 14 = ((t.length + 1 : Nat) : Int) := by rw [h.2.1.1, hF]; rfl
  have hfr := h.2.1
  rw [hF, List.length_cons] at hlen
  have top := hfr.2.2.2.2.1 t.length (by rw [hF, List.length_cons]; omega)
  rw [hF, lvl_top] at top
  unfold w_KReader_item
  rw [if_pos (by rw [h1, h2, hcur]; rfl)]
  refine WJ_dir ?_
  by_cases c : t = []
  · rw [if_pos (by rw [e14, c]; rfl)]
    refine sp_K_fail h.f3 ?_
    exact hq.1 6 (by unfold iFin; rw [hF, c]) _ pf_eq (pf_nk (by decide))
  · have ht : 0 < t.length := List.length_pos_iff.mpr c
    have l77 := hL.2.2.2.2.2.1 177 (by omega) (by omega)
    have l78 := hL.2.2.2.2.2.1 178 (by omega) (by omega)
    have l79 := hL.2.2.2.2.2.1 179 (by omega) (by omega)
    have l80 := hL.2.2.2.2.2.1 180 (by omega) (by omega)
    have l86 := hL.2.2.2.2.2.2.1 186 (by omega) (by omega)
    have hid : iFin a = if aN a 4 = 2 ∧ (aO a).length ≠ q.2 then .inl 14 else .inr (sF a t) := by
      unfold iFin
      rw [hF]
      cases t with
      | nil => exact absurd rfl c
      | cons _ _ => rfl
    rw [if_neg (by omega), e14, show ((t.length + 1 : Nat) : Int) - 1 = (t.length : Int) by omega, show Int.toNat (t.length : Int) = t.length from rfl, n4, h64, top.2.1]
    refine ⟨fun _ => ⟨⟨by omega, by omega⟩, ⟨by omega, by omega⟩⟩, ?_⟩
    by_cases d : aN a 4 = 2 ∧ (aO a).length ≠ q.2
    · rw [if_pos ⟨by omega, fun z => d.2 (by have z' : ((aO a).length : Int) = (q.2 : Int) := z; omega)⟩]
      refine sp_K_fail h.f3 ?_
      rw [if_pos d] at hid
      exact hq.1 14 hid _ pf_eq (pf_nk (by decide))
    · rw [if_neg (fun z => d ⟨by omega, fun y => z.2 (by show ((aO a).length : Int) = (q.2 : Int); omega)⟩)]
      rw [if_neg d] at hid
      have hq1 : 0 < q.1 := by
        have := hG.2.2.2.2.2.2.2.2.2.1 0 (by rw [hF, List.length_cons]; omega)
        rw [hF] at this
        exact this
      have hq2 : q.1 ≤ (aE a).length := hGO.2 (cur a, q) (by rw [hF]; exact List.mem_cons_self)
      have top1 : σ.2 179 t.length + 1 = (q.1 : Int) := top.1
      have hO : (aO a).length ≤ q.2 := by
        by_cases y : aN a 4 = 2
        · have : (aO a).length = q.2 := Classical.byContradiction (fun z => d ⟨y, z⟩)
          omega
        · have : aO a = [] := Classical.byContradiction (fun z => y (hG.2.2.2.1.2.mpr z))
          rw [this]
          exact Nat.zero_le _
      unfold w_KReader_pop
      rw [e14, show ((t.length + 1 : Nat) : Int) - 1 = (t.length : Int) by omega, show Int.toNat (t.length : Int) = t.length from rfl, show (t.length : Int) - 1 = ((t.length - 1 : Nat) : Int) by omega, show Int.toNat ((t.length - 1 : Nat) : Int) = t.length - 1 from rfl, show σ.2 179 t.length = ((q.1 - 1 : Nat) : Int) by omega, show Int.toNat ((q.1 - 1 : Nat) : Int) = q.1 - 1 from rfl]
      refine ⟨⟨by omega, by omega⟩, ⟨by omega, by omega⟩, ⟨by omega, by omega⟩, ⟨by omega, by omega⟩, ⟨by omega, by omega⟩, ⟨by omega, by omega⟩, ⟨by omega, by omega⟩, ?_⟩
      have hrem : rem (sF a t) = rem a := by
        unfold rem
        rw [hF, hcur, List.map_cons, List.sum_cons]
        show _ = 0 + _
        rw [Nat.zero_add]
        rfl
      refine hq.2 _ hid _ g (h.pop hL hGO hF ht hq1 hO ?_ ?_ ?_ (fun p k' z => ?_) (fun j => ?_) (fun r z => ?_)) rfl (fun _ => rfl) (fun _ _ => rfl) ?_ ?_ ?_
      · rw [pf_nk (by decide), pf_nk (by decide), pr_1, pf_eq, e14]; omega
      · rw [pf_nk (by decide), pf_eq]
      · rw [pf_eq]
      · rw [pf_1, if_neg (by omega), pf_1, if_neg (by omega), pr_1, pf_1, if_neg (by omega)]
      · rw [pf_2, pf_2, pr_2]
        by_cases y : j = q.1 - 1
        · rw [if_pos ⟨rfl, y⟩, if_pos (by show j + 1 = q.1; omega)]
        · rw [if_neg (fun w => y w.2), if_neg (by show ¬ j + 1 = q.1; omega), pf_2]
      · funext j
        rw [pf_2, pf_2, pr_2, if_neg (fun w => z w.1), pf_2]
      · unfold KC
        rw [hrem]
        exact hC
      · rw [pf_nk (by decide), pf_nk (by decide), pr_1, pf_nk (by decide)]
      · rw [pf_nk (by decide), pf_nk (by decide), pr_1, pf_nk (by decide)]; omega
end Kpf
