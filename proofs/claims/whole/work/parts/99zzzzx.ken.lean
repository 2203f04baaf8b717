/-! ===== items of the reference: entities ===== -/
/-- the name that a declaration of an entity keeps -/
def nmE (a : AS) : List Str := match iEnt a, enF (gd (cur a)) (cur a).length 0, nmg (gd (cur a)) (cur a).length true (enF (gd (cur a)) (cur a).length 0) with
  | .inr _, some f, some n => [sl (gd (cur a)) f (n - f)]
  | _, _, _ => []
section Ken
variable {L : Nat → Nat} {rm nd o : Nat} {σ τ : IS} {g g' : KG} {a a' A : AS} {Q : IS → Prop} {R : Int → IS → Prop} {T : Nat → Int} {x y v w : Int} {s : Str} {e : Nat}
theorem isNm_no {c : Int} (h : isNm c = true) : c ≠ 37 ∧ c ≠ 38 := by
  constructor
  · intro z; rw [z] at h; exact absurd h (by decide)
  · intro z; rw [z] at h; exact absurd h (by decide)
/-- one step of an entity's text -/
theorem enx_step {b n i M' : Nat} {q : Int} {acc : List Int} {Rr : Nat ⊕ List Int} (hq : q = 34 ∨ q = 39) (hbn : b + n < e) (hil : i < n) (hei : etg T e q (e + 1) (b + i) = some (b + n + 1)) (hRs : Rr = enx M' (sl T (b + i) (n - i)) acc) (hM : n - i < M') :
    (T (b + i) = 37 ∧ Rr = .inl 13) ∨
    (T (b + i) = 38 ∧ T (b + i + 1) = 35 ∧ ∃ j, rfp (gd (sl T (b + i) (n - i))) (sl T (b + i) (n - i)).length (some 0) = some j ∧ rfp T e (some (b + i)) = some (b + (i + j)) ∧ i + j ≤ n ∧ 2 < j ∧ etg T e q (e + 1) (b + (i + j)) = some (b + n + 1) ∧ gd (sl T (b + i) (n - i)) 1 = 35 ∧ ((isCh (rfN (sl T (b + i) (n - i)) j) = true ∧ Rr = enx (M' - 1) (sl T (b + (i + j)) (n - (i + j))) (acc ++ [rfN (sl T (b + i) (n - i)) j])) ∨ (isCh (rfN (sl T (b + i) (n - i)) j) = false ∧ Rr = .inl 12))) ∨
    (T (b + i) = 38 ∧ T (b + i + 1) ≠ 35 ∧ ∃ j, 2 < j ∧ i + j ≤ n ∧ etg T e q (e + 1) (b + (i + j)) = some (b + n + 1) ∧ (∀ r, 0 < r → r < j → T (b + i + r) ≠ 37 ∧ T (b + i + r) ≠ 38) ∧ Rr = enx (M' - 1) (sl T (b + (i + j)) (n - (i + j))) (acc ++ sl T (b + i) j)) ∨
    (T (b + i) ≠ 37 ∧ T (b + i) ≠ 38 ∧ etg T e q (e + 1) (b + (i + 1)) = some (b + n + 1) ∧ Rr = enx (M' - 1) (sl T (b + (i + 1)) (n - (i + 1))) (acc ++ [T (b + i)])) := by
  have hi2 : b + i < e := by omega
  obtain ⟨m, hm⟩ : ∃ m, n - i = m + 1 := ⟨n - i - 1, by omega⟩
  have hl : sl T (b + i) (n - i) = T (b + i) :: sl T (b + i + 1) m := by rw [hm, sl_cons2]
  obtain ⟨M1, rfl⟩ : ∃ M1, M' = M1 + 1 := ⟨M' - 1, by omega⟩
  rw [Nat.add_sub_cancel]
  have hei0 : (if b + i < e then (if T (b + i) = q then some (b + i + 1) else if T (b + i) = 38 then (match rfp T e (some (b + i)) with
      | none => none
      | some j => etg T e q e j) else if T (b + i) = 37 then (match pcp T e (b + i) with
      | none => none
      | some j => etg T e q e j) else etg T e q e (b + i + 1)) else none) = some (b + n + 1) := hei
  have hnq : T (b + i) ≠ q := by
    intro z
    rw [if_pos hi2, if_pos z] at hei0
    have := Option.some.inj hei0
    omega
  rw [if_pos hi2, if_neg hnq] at hei0
  have hRs' := hRs
  rw [hl, enx_cons] at hRs'
  have hup : ∀ k, b + i < k → k ≤ b + n → etg T e q e k = some (b + n + 1) → etg T e q (e + 1) k = some (b + n + 1) := fun k h1 h2 hk => by
    rw [← hk]
    exact etg_fuel _ _ _ (by omega) (by omega)
  by_cases c37 : T (b + i) = 37
  · rw [if_pos c37] at hRs'
    exact Or.inl ⟨c37, hRs'⟩
  right
  rw [if_neg c37] at hRs'
  by_cases c38 : T (b + i) = 38
  · rw [if_pos c38] at hei0
    rw [if_neg (by simp [c38])] at hRs'
    cases hrf : rfp T e (some (b + i)) with
    | none => rw [hrf] at hei0; cases hei0
    | some ja =>
      rw [hrf] at hei0
      dsimp only at hei0
      have hlt := (etg_ltl hq _ _ _ hei0).1
      have hrfe := rfp_end hrf (show ja ≤ b + n by omega) (by omega)
      have hlen : (T (b + i) :: sl T (b + i + 1) m).length = n - i := by rw [List.length_cons, sl_len2, hm]
      have hSH : SHT (gd (T (b + i) :: sl T (b + i + 1) m)) T (T (b + i) :: sl T (b + i + 1) m).length (b + i) := by
        refine sht_sl ?_
        rw [hlen, hl]
      have hsh := sh_rfp hSH (some 0)
      rw [mvo_some, hlen, show b + i + (n - i) = b + n by omega, show b + i + 0 = b + i by omega, hrfe] at hsh
      obtain ⟨j, hj, hjj⟩ := mvo_eq_some.mp hsh.symm
      rw [← hlen] at hj
      have hjp := rfp_pos hj
      rw [hlen] at hjp
      have hj' : rfp (gd (T (b + i) :: sl T (b + i + 1) m)) ((sl T (b + i + 1) m).length + 1) (some 0) = some j := hj
      rw [hj'] at hRs'
      dsimp only at hRs'
      have hja : ja = b + (i + j) := by omega
      rw [hja] at hei0 hrf
      have hdr : (T (b + i) :: sl T (b + i + 1) m).drop j = sl T (b + (i + j)) (n - (i + j)) := by
        rw [← hl, sl_drop2, show b + i + j = b + (i + j) by omega, show n - i - j = n - (i + j) by omega]
      have htk : (T (b + i) :: sl T (b + i + 1) m).take j = sl T (b + i) j := by
        rw [← hl, sl_take2 (by omega)]
      rw [hdr, htk] at hRs'
      have g1 : gd (T (b + i) :: sl T (b + i + 1) m) 1 = T (b + i + 1) := by
        rw [← hSH 1 (by rw [hlen]; omega)]
      by_cases c35 : T (b + i + 1) = 35
      · left
        rw [g1, if_pos c35] at hRs'
        refine ⟨c38, c35, j, ?_, ?_, by omega, by omega, hup _ (by omega) (by omega) hei0, ?_, ?_⟩
        · rw [hl]; exact hj
        · rw [hja]
        · rw [hl, g1]; exact c35
        · rw [hl]
          cases hc : isCh (rfN (T (b + i) :: sl T (b + i + 1) m) j) with
          | true => rw [hc, if_pos rfl] at hRs'; exact Or.inl ⟨rfl, hRs'⟩
          | false => rw [hc, if_neg (by decide)] at hRs'; exact Or.inr ⟨rfl, hRs'⟩
      · right; left
        rw [g1, if_neg c35] at hRs'
        refine ⟨c38, c35, j, by omega, by omega, hup _ (by omega) (by omega) hei0, fun r r1 r2 => ?_, hRs'⟩
        have hnam := rfp_nam hrf c35
        by_cases cr : b + i + r = b + (i + j) - 1
        · rw [cr, hnam.2.1]
          exact ⟨by decide, by decide⟩
        · exact isNm_no (nmg_all hnam.1 (b + i + r) (by omega) (by omega))
  · right; right
    rw [if_neg c38, if_neg c37] at hei0
    rw [if_pos c38] at hRs'
    refine ⟨c37, c38, hup _ (by omega) (by omega) hei0, ?_⟩
    rw [hRs', show b + (i + 1) = b + i + 1 by omega, show n - (i + 1) = m by omega]
/-- a character is put behind the others -/
theorem RK.ch1 {c : Int} (hL : KLn L o rm nd) (h : RK rm nd o σ g a) (hc : 0 ≤ c ∧ c ≤ 1114111) (hl : (gC g).length < 262144) : RK rm nd o (pf (pr σ 176 (gC g).length c) 16 6 (((gC g).length : Int) + 1)) (gB g, gC g ++ [c], gP g, gV g) a := by
  have ho := hL.2.1
  have r1 := rf_1 ho
  have hF : ∀ p k, ¬ (p = 16 ∧ k = 6) → (pf (pr σ 176 (gC g).length c) 16 6 (((gC g).length : Int) + 1)).1 p k = σ.1 p k := fun p k x => by rw [pf_1, if_neg x, pr_1]
  have hR : ∀ r : Nat, ¬ (r = 176) → (pf (pr σ 176 (gC g).length c) 16 6 (((gC g).length : Int) + 1)).2 r = σ.2 r := fun r z => by funext j; rw [pf_2, pr_2, if_neg (fun y => z y.1)]
  have hZ : KZ rm nd o (pf (pr σ 176 (gC g).length c) 16 6 (((gC g).length : Int) + 1)) (gB g, gC g ++ [c], gP g, gV g) := by
    obtain ⟨⟨h1, h2, h3, h4⟩, h5, ⟨h6, h7, h8, h9⟩, ⟨h10, h11⟩, h12, h13⟩ := h.1
    have eb : ∀ s, bstr (pf (pr σ 176 (gC g).length c) 16 6 (((gC g).length : Int) + 1)) s = bstr σ s := fun s => by unfold bstr bst bln; rw [hR 212 (by omega), hR 213 (by omega), hR 214 (by omega)]
    refine ⟨⟨?_, by rw [hF 13 6 (by omega)]; exact h2, by rw [hF 13 1 (by omega)]; exact h3, fun i hi => by rw [eb]; exact h4 i hi⟩, h5, ⟨?_, ?_, fun i hi => ?_, fun d hd => ?_⟩, ⟨by rw [hF o 2 (by omega)]; exact h10, by rw [hR (rfo o 1) (by omega)]; exact h11⟩, ?_, by rw [hR (rfo o 18) (by omega)]; exact h13⟩
    · unfold BK at h1 ⊢
      rw [hF 13 1 (by omega), hF 13 6 (by omega), hR 211 (by omega), hR 213 (by omega), hR 214 (by omega), hR 215 (by omega)]
      simp only [eb]
      exact h1
    · rw [pf_eq]
      show _ = ((gC g ++ [c]).length : Int)
      rw [List.length_append, List.length_singleton]; omega
    · show (gC g ++ [c]).length ≤ _
      rw [List.length_append, List.length_singleton]; omega
    · have hi' : i < (gC g ++ [c]).length := hi
      rw [List.length_append, List.length_singleton] at hi'
      show _ = (gC g ++ [c]).getD i 0
      rw [pf_2, pr_2, getD_snoc]
      by_cases y : i = (gC g).length
      · rw [if_pos ⟨rfl, y⟩, if_neg (by omega), if_pos y]
      · rw [if_neg (fun z => y z.2), if_pos (by omega)]
        exact h8 i (by omega)
    · have hd' : d ∈ gC g ++ [c] := hd
      rcases List.mem_append.mp hd' with y | y
      · exact h9 d y
      · rw [List.mem_singleton] at y; rw [y]; exact hc
    · rw [hF 16 2 (by omega), hF 16 0 (by omega), hF 16 1 (by omega)]
      exact h12
  exact (RK.mk' ho h kle.refl ⟨[c], rfl⟩ cle.refl hZ (Or.inl ⟨fun k x y => hF 16 k (by omega), fun r x y => hR r (by omega), rfl⟩) (Or.inl ⟨hF 16 32 (by omega), fun r x y => hR r (by omega), rfl, rfl⟩) (Or.inl ⟨fun k x => hF 16 k (by omega), hR _ (by have := rf_1 ho; omega), rfl⟩) (Or.inl ⟨hF 16 20 (by omega), hF 16 24 (by omega), rfl⟩) (Or.inl ⟨hF 16 40 (by omega), hF 16 47 (by omega), hF 16 58 (by omega), fun r x => hR r (by omega), rfl⟩) (Or.inl ⟨hF 16 56 (by omega), hF 16 58 (by omega), fun r x y => hR r (by omega), rfl⟩) (Or.inl ⟨hF 16 34 (by omega), hR 187 (by omega), rfl⟩) (Or.inl ⟨hF o 7 (by omega), fun k x y => hR _ (by have := rf_3 ho x y; omega), rfl⟩) (Or.inl ⟨hF 16 64 (by omega), hF 16 66 (by omega), fun r x y => hR r (by omega), hR 181 (by omega), rfl, rfl, rfl⟩) (Or.inl ⟨hF o 14 (by omega), fun k x y => hR _ (by have := rf_8 ho x y; omega), rfl, rfl⟩) (Or.inl ⟨fun k x => hF o k (by omega), hR _ (by have := rf_1 ho; omega), rfl, rfl, rfl⟩) (hF 16 3 (by omega)) (Or.inl ⟨hF 16 18 (by omega), hR 178 (by omega), rfl, rfl, rfl, hF 16 47 (by omega), hF 16 58 (by omega), rfl, rfl⟩))
/-- what stands where the entity's own text ends -/
theorem en_eq {t : Option Nat} {b : Bool} : (if etx T e t = none then (if ¬ wd T e [78, 68, 65, 84, 65] (spc T e (outs T e t)) = none ∧ b = false then nmg T e true (spc T e (wd T e [78, 68, 65, 84, 65] (spc T e (outs T e t)))) else outs T e t) else etx T e t) = match t with
    | none => none
    | some t => if isQt (lk T e t) = true then etx T e (some t) else match outs T e (some t) with
      | none => none
      | some w => if b = false ∧ sk isSp T e w ≠ w ∧ mt T e (sk isSp T e w) [78, 68, 65, 84, 65] = true then nmg T e true (spc T e (some (sk isSp T e w + 5))) else some w := by
  cases t with
  | none => rfl
  | some t =>
    show _ = if isQt (lk T e t) = true then etx T e (some t) else match outs T e (some t) with
      | none => none
      | some w => if b = false ∧ sk isSp T e w ≠ w ∧ mt T e (sk isSp T e w) [78, 68, 65, 84, 65] = true then nmg T e true (spc T e (some (sk isSp T e w + 5))) else some w
    by_cases cq : isQt (lk T e t) = true
    · rw [if_pos cq]
      cases he : etx T e (some t) with
      | some z => rw [if_neg (by simp)]
      | none =>
        rw [if_pos rfl]
        have ho : outs T e (some t) = none := by
          have cq' : lk T e t = 34 ∨ lk T e t = 39 := by
            unfold isQt at cq
            rw [Bool.or_eq_true, beq_iff_eq, beq_iff_eq] at cq
            exact cq
          refine outs_none (fun z => ?_) (fun z => ?_)
          · have := mt_hd z; omega
          · have := mt_hd z; omega
        rw [ho]
        rw [if_neg (fun z => z.1 rfl)]
    · have he : etx T e (some t) = none := by
        show (if isQt (lk T e t) = true then _ else none) = none
        rw [if_neg cq]
      rw [if_neg cq, he, if_pos rfl]
      cases ho : outs T e (some t) with
      | none =>
        rw [if_neg (fun z => z.1 rfl)]
      | some w =>
        show _ = if b = false ∧ sk isSp T e w ≠ w ∧ mt T e (sk isSp T e w) [78, 68, 65, 84, 65] = true then nmg T e true (spc T e (some (sk isSp T e w + 5))) else some w
        have hsp : spc T e (some w) = if sk isSp T e w = w then none else some (sk isSp T e w) := rfl
        rw [hsp]
        by_cases c1 : sk isSp T e w = w
        · rw [if_pos c1, if_neg (fun z => z.1 rfl), if_neg (fun z => z.2.1 c1)]
        · rw [if_neg c1, wd_mt]
          by_cases c2 : mt T e (sk isSp T e w) [78, 68, 65, 84, 65] = true
          · rw [if_pos c2]
            by_cases c3 : b = false
            · rw [if_pos ⟨by simp, c3⟩, if_pos ⟨c3, c1, c2⟩]
              rfl
            · rw [if_neg (fun z => c3 z.2), if_neg (fun z => c3 z.1)]
          · rw [if_neg c2, if_neg (fun z => z.1 rfl), if_neg (fun z => c2 z.2.2)]
end Ken
