/-! ===== items of the class: an entity's text is made ===== -/
section JI12
variable {L : Nat → Nat} {rm nd : Nat} {σ0 σ τ : IS} {A : AS} {Q : IS → Prop}
theorem sl_len2 {f : Nat → Int} {i n : Nat} : (sl f i n).length = n := by simp [sl]
theorem sl_cons2 {f : Nat → Int} {i n : Nat} : sl f i (n + 1) = f i :: sl f (i + 1) n := by
  unfold sl
  rw [List.range_succ_eq_map, List.map_cons, List.map_map]
  congr 1
  exact List.map_congr_left (fun j _ => by show f (i + (j + 1)) = f (i + 1 + j); congr 1; omega)
theorem sl_drop2 {f : Nat → Int} {i n j : Nat} : (sl f i n).drop j = sl f (i + j) (n - j) := by
  induction j generalizing i n with
  | zero => rfl
  | succ j ih =>
    cases n with
    | zero => simp [sl]
    | succ n =>
      rw [sl_cons2, List.drop_succ_cons, ih, show i + 1 + j = i + (j + 1) by omega, show n + 1 - (j + 1) = n - j by omega]
theorem sl_take2 {f : Nat → Int} {i n j : Nat} (h : j ≤ n) : (sl f i n).take j = sl f i j := by
  induction j generalizing i n with
  | zero => rfl
  | succ j ih =>
    cases n with
    | zero => omega
    | succ n => rw [sl_cons2, sl_cons2, List.take_succ_cons, ih (by omega)]
/-- a state in which a text is made -/
def EX (L : Nat → Nat) (rm nd : Nat) (σ0 : IS) (f : Nat) (acc : List Int) (σ : IS) : Prop := JZ L rm nd σ ∧ sgr σ0 σ ∧ (∀ o k, ¬ (o = 2 ∧ (k = 2 ∨ k = 4 ∨ (7 ≤ k ∧ k ≤ 11))) → ¬ (o = 1 ∧ (k = 3 ∨ k = 13)) → σ.1 o k = σ0.1 o k) ∧ (∀ r, r ≠ 101 → σ.2 r = σ0.2 r) ∧ (∀ i, i < jtp σ0 → σ.2 101 i = σ0.2 101 i) ∧ (jtp σ = jtp σ0 + acc.length ∧ sl (σ.2 101) (jtp σ0) acc.length = acc) ∧ σ.1 2 4 = (f : Int)
theorem EX.ad {f : Nat} {acc : List Int} {c : Int} (h : EX L rm nd σ0 f acc σ) (ht : jtp σ < L 101) (hc : 0 ≤ c ∧ c ≤ 1114111) : EX L rm nd σ0 f (acc ++ [c]) (pf (pr σ 101 (jtp σ) c) 1 3 ((jtp σ : Int) + 1)) := by
  obtain ⟨h1, h2, h3, h4, h5, h6, h7⟩ := h
  have hA := h1.ad (c := c) ht hc
  refine ⟨hA.1, h2.trans hA.2, fun o k x1 x2 => by rw [pf_1, if_neg (by omega), pr_1]; exact h3 o k x1 x2, fun r hr => by rw [← h4 r hr]; funext i; rw [pf_2, pr_2, if_neg (by omega)], fun i hi => by rw [pf_2, pr_2, if_neg (by omega)]; exact h5 i hi, ⟨by rw [jtp_ad, h6.1, List.length_append, List.length_singleton]; omega, sl_ad h6.1 h6.2⟩, by rw [pf_no (by decide), pr_1]; exact h7⟩
theorem EX.mv {f : Nat} {acc : List Int} (h : EX L rm nd σ0 f acc σ) (hr : τ.2 = σ.2) (hf : ∀ o k, ¬ (o = 2 ∧ (k = 2 ∨ (7 ≤ k ∧ k ≤ 11))) → ¬ (o = 1 ∧ k = 13) → τ.1 o k = σ.1 o k) (hg : rng τ) : EX L rm nd σ0 f acc τ := by
  obtain ⟨h1, h2, h3, h4, h5, h6, h7⟩ := h
  have hS := SI_of h1.1 (σ' := τ) (hf 1 14 (by omega) (by omega)) (by rw [hf 1 3 (by omega) (by omega)]; have := h1.1.1; omega) (fun r _ _ => by rw [hr]) (fun i _ => by rw [hr])
  have hZ : JZ L rm nd τ := h1.dep hS.1 hS.2 (jch_row h1.2.1 (by rw [hr])) hg ⟨fun o k hk => hf o k (by simp [fZ] at hk; omega) (by simp [fZ] at hk; omega), fun r _ => by rw [hr]⟩
  have hj : jtp τ = jtp σ := by unfold jtp; rw [hf 1 3 (by omega) (by omega)]
  exact ⟨hZ, h2.trans hS.2, fun o k x1 x2 => by rw [hf o k (by omega) (by omega)]; exact h3 o k x1 x2, fun r hr' => by rw [hr]; exact h4 r hr', fun i hi => by rw [hr]; exact h5 i hi, ⟨by rw [hj]; exact h6.1, by rw [hr]; exact h6.2⟩, by rw [hf 2 4 (by omega) (by omega)]; exact h7⟩
theorem EX.ft {g : Nat} {acc : List Int} (h : EX L rm nd σ0 0 acc σ) : EX L rm nd σ0 g acc (flt σ (g : Int)) := by
  obtain ⟨h1, h2, h3, h4, h5, h6, h7⟩ := h
  have h7' : σ.1 2 4 = 0 := h7
  have hf : flt σ (g : Int) = pf σ 2 4 (g : Int) := flt_val h7'
  have hS := SI_pf (o := 2) (k := 4) (x := (g : Int)) h1.1 (by omega)
  refine ⟨h1.ft, h2.trans (by rw [hf]; exact hS.2), fun o k x1 x2 => by rw [hf, pf_1, if_neg (by omega)]; exact h3 o k x1 x2, fun r hr => by rw [hf]; exact h4 r hr, fun i hi => by rw [hf]; exact h5 i hi, ⟨by rw [jtp_ft]; exact h6.1, by rw [hf]; exact h6.2⟩, by rw [hf, pf_eq]⟩
theorem eno_app {en : List Ent} {x : Ent} {s : Str} {b : Bool} : en1 (eno (en ++ [x]) s b) = if eno en s b = none ∧ s = x.1 ∧ b = x.2.1 then (en.length : Int) + 1 else en1 (eno en s b) := by
  have e1 : eno (en ++ [x]) s b = (eno en s b).or ((eno [x] s b).map (fun i => i + en.length)) := by unfold eno; rw [List.findIdx?_append]
  have e2 : eno [x] s b = if (x.1 == s && x.2.1 == b) = true then some 0 else none := by
    unfold eno
    rw [List.findIdx?_cons]
    split <;> rfl
  rw [e1, e2]
  cases h : eno en s b with
  | none =>
    by_cases c : x.1 = s ∧ x.2.1 = b
    · rw [if_pos (by simp [c.1, c.2]), if_pos ⟨rfl, c.1.symm, c.2.symm⟩]
      show ((0 + en.length : Nat) : Int) + 1 = _
      omega
    · rw [if_neg (by simpa using c), if_neg (fun z => c ⟨z.2.1.symm, z.2.2.symm⟩)]
      rfl
  | some i =>
    show en1 (some i) = if (some i : Option Nat) = none ∧ s = x.1 ∧ b = x.2.1 then (en.length : Int) + 1 else en1 (some i)
    rw [if_neg (fun z => by cases z.1)]
/-- the text is made: the entity is kept, or it was known -/
theorem EX.keep {f : Nat} {acc : List Int} {x : Int} {nm : Str} {pe : Bool} (hln : JLn L rm nd) (h : RJ L rm nd σ0 A) (hen : (aE A).length < rm / 14 + 2) (hGO : ∀ f ∈ aF A, f.2.1 ≤ (aE A).length) (hx : Jn σ0 x nm) (hE : EX L rm nd σ0 f acc σ) (hac : acc.length ≤ 200000)
    (hgood : f = 0 → ∀ σ', RJ L rm nd σ' (if (eno (aE A) nm pe).isSome = true then A else sE A (aE A ++ [(nm, pe, acc)])) → jw σ' = jw σ0 → jtp σ' ≤ jtp σ0 + acc.length → σ'.1 1 2 = σ0.1 1 2 → σ'.1 4 16 = σ0.1 4 16 → σ'.1 2 5 = σ0.1 2 5 → σ'.1 1 16 = σ0.1 1 16 → Q σ') (hbad : f ≠ 0 → ∀ σ', JBd L rm nd σ' f (σ0.1 2 5) → Q σ') :
    inL L (if b1 pe = 0 then 114 else 115) x ∧ rwI BF (if b1 pe = 0 then 114 else 115) ∧ if (σ.2 (if b1 pe = 0 then 114 else 115) (Int.toNat x)) = 0 ∧ ((σ.1 3 5) < ((L 107 : Nat) : Int)) then inL L 107 (σ.1 3 5) ∧ inR ((σ.1 1 3) - (σ0.1 1 3)) ∧ inL L 108 (σ.1 3 5) ∧ inL L 109 (σ.1 3 5) ∧ inR ((σ.1 3 5) + 1) ∧ inL L (if b1 pe = 0 then 114 else 115) x ∧ rwI BF (if b1 pe = 0 then 114 else 115) ∧ Q (pr (pf (pr (pr (pr (pf σ 2 2 (σ0.1 2 2)) 107 (Int.toNat (σ.1 3 5)) (σ0.1 1 3)) 108 (Int.toNat (σ.1 3 5)) ((σ.1 1 3) - (σ0.1 1 3))) 109 (Int.toNat (σ.1 3 5)) 0) 3 5 ((σ.1 3 5) + 1)) (if b1 pe = 0 then 114 else 115) (Int.toNat x) ((σ.1 3 5) + 1)) else Q (pf (pf σ 2 2 (σ0.1 2 2)) 1 3 (σ0.1 1 3)) := by
  have hrm := hln.2.1
  obtain ⟨e1, e2, e3, e4, e5, ⟨e6, e7⟩, e8⟩ := hE
  have hEn := h.2.2.1
  have hxr := hx.rng h.1.1
  have hL114 : L 114 = L 102 := hln.2.2.2.2.2.1.1
  have hL115 : L 115 = L 102 := hln.2.2.2.2.2.1.2.1
  have hL107 := hln.2.2.2.2.1 107 (by omega) (by omega)
  have hL108 := hln.2.2.2.2.1 108 (by omega) (by omega)
  have hL109 := hln.2.2.2.2.1 109 (by omega) (by omega)
  have hjl := h.1.1.jtp_le
  have hjl' := e1.1.jtp_le
  have h9 : L 101 < 1000000 := hln.1.2.2.2.2.2.2.2
  generalize hrw : (if b1 pe = 0 then 114 else 115 : Nat) = rw0
  have hrw0 : (rw0 = 114 ∧ pe = false) ∨ (rw0 = 115 ∧ pe = true) := by
    cases pe with
    | false => left; exact ⟨hrw.symm, rfl⟩
    | true => right; exact ⟨hrw.symm, rfl⟩
  have hin : inL L rw0 x := by rcases hrw0 with ⟨rfl, -⟩ | ⟨rfl, -⟩ <;> exact ⟨by omega, by omega⟩
  have hrI : rwI BF rw0 := by
    rcases hrw0 with ⟨rfl, -⟩ | ⟨rfl, -⟩
    · exact rI_114
    · exact rI_115
  have hW : WM L σ0 rw0 (fun s => en1 (eno (aE A) s pe)) := by
    rcases hrw0 with ⟨rfl, rfl⟩ | ⟨rfl, rfl⟩
    · exact hEn.2.2.1
    · exact hEn.2.2.2
  have hv : σ.2 rw0 x.toNat = en1 (eno (aE A) nm pe) := by
    rw [e4 rw0 (by omega), hW.1 _ hxr.2.2.2.1, hxr.2.2.2.2]
  have h35 : σ.1 3 5 = ((aE A).length : Int) := by rw [e3 3 5 (by omega) (by omega)]; exact hEn.1
  refine ⟨hin, hrI, ?_⟩
  rw [hv, h35, show Int.toNat ((aE A).length : Int) = (aE A).length by omega]
  have hd : σ.1 1 3 - σ0.1 1 3 = (acc.length : Int) := by omega
  cases hf : eno (aE A) nm pe with
  | some i =>
    rw [if_neg (by rintro ⟨z, -⟩; have : (i : Int) + 1 = 0 := z; omega)]
    generalize hψ : pf (pf σ 2 2 (σ0.1 2 2)) 1 3 (σ0.1 1 3) = ψ
    have hψf : ∀ o k, ¬ (o = 2 ∧ (k = 4 ∨ (7 ≤ k ∧ k ≤ 11))) → ¬ (o = 1 ∧ k = 13) → ψ.1 o k = σ0.1 o k := by
      intro o k x1 x2
      rw [← hψ, pf_1]
      by_cases c : o = 1 ∧ k = 3
      · rw [if_pos c, c.1, c.2]
      · rw [if_neg c, pf_1]
        by_cases c2 : o = 2 ∧ k = 2
        · rw [if_pos c2, c2.1, c2.2]
        · rw [if_neg c2]; exact e3 o k (by omega) (by omega)
    have hψr : ψ.2 = σ.2 := by rw [← hψ]; rfl
    have hψ4 : ψ.1 2 4 = (f : Int) := by rw [← hψ, pf_no (by decide), pf_nk (by decide)]; exact e8
    obtain ⟨hS1, hg1⟩ := SI_of h.1.1 (σ' := ψ) (hψf 1 14 (by omega) (by omega)) (by rw [hψf 1 3 (by omega) (by omega)]; have := h.1.1.1; omega) (fun r x1 x2 => by rw [hψr]; exact e4 r (by omega)) (fun i hi => by rw [hψr]; exact e5 i hi)
    have hgr : rng ψ := rng_of e1.2.2.2.2.2.1 (fun j x1 x2 => by rw [← hψ, pf_no (by decide), pf_nk (by omega)])
    have hZ : JZ L rm nd ψ := h.1.dep hS1 hg1 (jch_row e1.2.1 (by rw [hψr])) hgr ⟨fun o k hk => hψf o k (by simp [fZ] at hk; omega) (by simp [fZ] at hk; omega), fun r hr => by rw [hψr]; exact e4 r (by rintro rfl; simp [rZ] at hr)⟩
    have hA : ∀ (F : Nat → Nat → Bool) (R : Nat → Bool), (∀ o k, F o k = true → ¬ (o = 2 ∧ (k = 4 ∨ (7 ≤ k ∧ k ≤ 11))) ∧ ¬ (o = 1 ∧ k = 13)) → R 101 = false → ag F R σ0 ψ := fun F R x1 x2 => ⟨fun o k hk => hψf o k (x1 o k hk).1 (x1 o k hk).2, fun r hr => by rw [hψr]; exact e4 r (by rintro rfl; rw [x2] at hr; cases hr)⟩
    by_cases c : f = 0
    · refine hgood c ψ ?_ (by unfold jw; rw [hψf 1 14 (by omega) (by omega)]) (by unfold jtp; rw [hψf 1 3 (by omega) (by omega)]; omega) (hψf 1 2 (by omega) (by omega)) (hψf 4 16 (by omega) (by omega)) (hψf 2 5 (by omega) (by omega)) (hψf 1 16 (by omega) (by omega))
      rw [hf]
      show RJ L rm nd ψ A
      exact h.mk' hln hZ hg1 (Or.inl ⟨hA _ _ (fun o k hk => by simp [fFr] at hk; omega) rfl, rfl, rfl⟩) (Or.inl ⟨hA _ _ (fun o k hk => by simp [fEn] at hk; omega) rfl, rfl, rfl⟩) (Or.inl ⟨hA _ _ (fun o k hk => by simp [fNu] at hk; omega) rfl, rfl⟩) (Or.inl ⟨hA _ _ (fun o k hk => by simp [fRo] at hk; omega) rfl, rfl⟩) (Or.inl ⟨hA _ _ (fun o k hk => by simp [fEd] at hk; omega) rfl, rfl⟩) (Or.inl ⟨hA _ _ (fun o k hk => by simp [fAd] at hk; omega) rfl, rfl⟩) (Or.inl ⟨hA _ _ (fun o k hk => by simp [fNt] at hk; omega) rfl, rfl⟩) (Or.inl ⟨hA _ _ (fun o k hk => by simp [fEl] at hk; omega) rfl, rfl, rfl⟩) (Or.inl ⟨hA _ _ (fun o k hk => by simp [fAt] at hk; omega) rfl, rfl⟩) (Or.inl ⟨hA _ _ (fun o k hk => by simp [fSt] at hk; omega) rfl, rfl⟩) ⟨by rw [hψ4, c]; rfl, by rw [hψf 2 6 (by omega) (by omega)]; exact h.2.2.2.2.2.2.2.2.2.2.2.2⟩
    · refine hbad c ψ ⟨hZ, hψ4, c, hψf 2 5 (by omega) (by omega), fun r hr w w1 w2 => ?_⟩
      rw [hψr, e4 r (by omega)]
      have : jw ψ = jw σ0 := by unfold jw; rw [hψf 1 14 (by omega) (by omega)]
      exact h.zer r hr w (by omega) w2
  | none =>
    rw [if_pos ⟨rfl, by omega⟩]
    refine ⟨⟨by omega, by omega⟩, ⟨by omega, by omega⟩, ⟨by omega, by omega⟩, ⟨by omega, by omega⟩, ⟨by omega, by omega⟩, hin, hrI, ?_⟩
    rw [hd]
    generalize hφ : pf (pr (pr (pr (pf σ 2 2 (σ0.1 2 2)) 107 (aE A).length (σ0.1 1 3)) 108 (aE A).length (acc.length : Int)) 109 (aE A).length 0) 3 5 (((aE A).length : Int) + 1) = φ
    have hφf : ∀ o k, ¬ (o = 2 ∧ (k = 4 ∨ (7 ≤ k ∧ k ≤ 11))) → ¬ (o = 1 ∧ (k = 3 ∨ k = 13)) → ¬ (o = 3 ∧ k = 5) → φ.1 o k = σ0.1 o k := by
      intro o k x1 x2 x3
      rw [← hφ, pf_1, if_neg x3, pr_1, pr_1, pr_1, pf_1]
      by_cases c2 : o = 2 ∧ k = 2
      · rw [if_pos c2, c2.1, c2.2]
      · rw [if_neg c2]; exact e3 o k (by omega) (by omega)
    have hφσ : ∀ o k, o = 1 ∨ (o = 2 ∧ (k = 3 ∨ 6 ≤ k)) ∨ (o = 6 ∧ k = 0) ∨ (o = 3 ∧ k = 12) → φ.1 o k = σ.1 o k := fun o k hk => by rw [← hφ, pf_1, if_neg (by omega), pr_1, pr_1, pr_1, pf_1, if_neg (by omega)]
    have hφr : ∀ r, r ≠ 107 → r ≠ 108 → r ≠ 109 → φ.2 r = σ.2 r := fun r x1 x2 x3 => by rw [← hφ]; funext i; rw [pf_2, pr_2, if_neg (by omega), pr_2, if_neg (by omega), pr_2, if_neg (by omega), pf_2]
    have hφ4 : φ.1 2 4 = (f : Int) := by rw [← hφ, pf_no (by decide), pr_1, pr_1, pr_1, pf_nk (by decide)]; exact e8
    obtain ⟨hZ1, hg1⟩ := e1.out (σ' := φ) hφσ (fun r hr => hφr r (by omega) (by omega) (by omega))
    have hg01 := e2.trans hg1
    generalize hχ : pr φ rw0 x.toNat (((aE A).length : Int) + 1) = χ
    have hχf : ∀ o k, χ.1 o k = φ.1 o k := fun o k => by rw [← hχ, pr_1]
    have hχr : ∀ r, r ≠ rw0 → χ.2 r = φ.2 r := fun r hr => by rw [← hχ]; funext i; rw [pr_2, if_neg (fun z => hr z.1)]
    obtain ⟨hZ2, hg2⟩ := hZ1.out (σ' := χ) (fun o k _ => hχf o k) (fun r hr => hχr r (by omega))
    have hg := hg01.trans hg2
    have hjφ : jw φ = jw σ0 := by unfold jw; rw [hφf 1 14 (by omega) (by omega) (by omega)]
    have hjχ : jw χ = jw σ0 := by unfold jw; rw [hχf, hφf 1 14 (by omega) (by omega) (by omega)]
    have hjtχ : jtp χ = jtp σ0 + acc.length := by
      have : jtp χ = jtp σ := by unfold jtp; rw [hχf, hφσ 1 3 (by omega)]
      omega
    by_cases c : f = 0
    · refine hgood c χ ?_ hjχ (by omega) (by rw [hχf]; exact hφf 1 2 (by omega) (by omega) (by omega)) (by rw [hχf]; exact hφf 4 16 (by omega) (by omega) (by omega)) (by rw [hχf]; exact hφf 2 5 (by omega) (by omega) (by omega)) (by rw [hχf]; exact hφf 1 16 (by omega) (by omega) (by omega))
      rw [hf, if_neg (by decide)]
      have hA : ∀ (F : Nat → Nat → Bool) (R : Nat → Bool), (∀ o k, F o k = true → ¬ (o = 2 ∧ (k = 4 ∨ (7 ≤ k ∧ k ≤ 11))) ∧ ¬ (o = 1 ∧ (k = 3 ∨ k = 13)) ∧ ¬ (o = 3 ∧ k = 5)) → (∀ r, R r = true → r ≠ 101 ∧ r ≠ 107 ∧ r ≠ 108 ∧ r ≠ 109 ∧ r ≠ 114 ∧ r ≠ 115) → ag F R σ0 χ := fun F R x1 x2 => ⟨fun o k hk => by rw [hχf]; exact hφf o k (x1 o k hk).1 (x1 o k hk).2.1 (x1 o k hk).2.2, fun r hr => by have := x2 r hr; rw [hχr r (by omega), hφr r (by omega) (by omega) (by omega)]; exact e4 r (by omega)⟩
      refine h.mk' hln hZ2 hg (Or.inl ⟨hA _ _ (fun o k hk => by simp [fFr] at hk; omega) (fun r hr => by simp [rFr] at hr; omega), rfl, rfl⟩) (Or.inr ?_) (Or.inl ⟨hA _ _ (fun o k hk => by simp [fNu] at hk; omega) (fun r hr => by simp [rNo] at hr), rfl⟩) (Or.inl ⟨hA _ _ (fun o k hk => by simp [fRo] at hk; omega) (fun r hr => by simp [rNo] at hr), rfl⟩) (Or.inl ⟨hA _ _ (fun o k hk => by simp [fEd] at hk; omega) (fun r hr => by simp [rEd] at hr; omega), rfl⟩) (Or.inl ⟨hA _ _ (fun o k hk => by simp [fAd] at hk; omega) (fun r hr => by simp [rAd] at hr; omega), rfl⟩) (Or.inl ⟨hA _ _ (fun o k hk => by simp [fNt] at hk; omega) (fun r hr => by simp [rNt] at hr; omega), rfl⟩) (Or.inl ⟨hA _ _ (fun o k hk => by simp [fEl] at hk; omega) (fun r hr => by simp [rEl] at hr; omega), rfl, rfl⟩) (Or.inl ⟨hA _ _ (fun o k hk => by simp [fAt] at hk; omega) (fun r hr => by simp [rAt] at hr; omega), rfl⟩) (Or.inl ⟨hA _ _ (fun o k hk => by simp [fSt] at hk; omega) (fun r hr => by simp [rSt] at hr; omega), rfl⟩) ⟨by rw [hχf, hφ4, c]; rfl, by rw [hχf, hφf 2 6 (by omega) (by omega) (by omega)]; exact h.2.2.2.2.2.2.2.2.2.2.2.2⟩
      show JEn L χ (aE A ++ [(nm, pe, acc)]) (bsy A)
      have hwx : wst φ x.toNat = nm := ((hx.gr hg01).rng hZ1.1).2.2.2.2
      have hWχ : ∀ (r : Nat) (b : Bool), (r = 114 ∧ b = false) ∨ (r = 115 ∧ b = true) → WM L σ0 r (fun s => en1 (eno (aE A) s b)) → WM L χ r (fun s => en1 (eno (aE A ++ [(nm, pe, acc)]) s b)) := by
        intro r b hr hw
        have hw1 := hw.gr hg01 hZ1.1 hln.1 (by rw [hφr r (by omega) (by omega) (by omega)]; exact e4 r (by omega))
        by_cases cr : r = rw0
        · have hb : b = pe := by
            rcases hr with ⟨y1, y2⟩ | ⟨y1, y2⟩ <;> rcases hrw0 with ⟨y3, y4⟩ | ⟨y3, y4⟩
            · rw [y2, y4]
            · omega
            · omega
            · rw [y2, y4]
          have hw2 := hw1.set (x := ((aE A).length : Int) + 1) (w := x.toNat) hZ1.1 (by omega) (by rw [hjφ]; exact hxr.2.2.2.1)
          rw [cr, hχ] at hw2
          rw [cr]
          refine hw2.cong (fun s => ?_)
          rw [hwx, eno_app, hb]
          by_cases cs : s = nm
          · rw [if_pos cs, if_pos ⟨by rw [cs]; exact hf, cs, rfl⟩]
          · rw [if_neg cs, if_neg (fun z => cs z.2.1)]
        · have hb : b ≠ pe := by
            intro hb
            rcases hr with ⟨y1, y2⟩ | ⟨y1, y2⟩ <;> rcases hrw0 with ⟨y3, y4⟩ | ⟨y3, y4⟩
            · omega
            · rw [y2, y4] at hb; cases hb
            · rw [y2, y4] at hb; cases hb
            · omega
          refine (hw1.gr hg2 hZ2.1 hln.1 (hχr r cr)).cong (fun s => ?_)
          rw [eno_app, if_neg (fun z => hb z.2.2)]
      refine ⟨by rw [hχf, ← hφ, pf_eq, List.length_append]; rfl, fun i hi => ?_, hWχ 114 false (Or.inl ⟨rfl, rfl⟩) hEn.2.2.1, hWχ 115 true (Or.inr ⟨rfl, rfl⟩) hEn.2.2.2⟩
      rw [List.length_append, List.length_singleton] at hi
      rw [getD_snoc, hχr 107 (by omega), hχr 108 (by omega), hχr 109 (by omega)]
      by_cases ci : i < (aE A).length
      · rw [if_pos ci]
        have r1 : φ.2 107 i = σ0.2 107 i := by rw [← hφ, pf_2, pr_2, if_neg (by omega), pr_2, if_neg (by omega), pr_2, if_neg (by omega), pf_2, e4 107 (by omega)]
        have r2 : φ.2 108 i = σ0.2 108 i := by rw [← hφ, pf_2, pr_2, if_neg (by omega), pr_2, if_neg (by omega), pr_2, if_neg (by omega), pf_2, e4 108 (by omega)]
        have r3 : φ.2 109 i = σ0.2 109 i := by rw [← hφ, pf_2, pr_2, if_neg (by omega), pr_2, if_neg (by omega), pr_2, if_neg (by omega), pf_2, e4 109 (by omega)]
        rw [r1, r2, r3]
        have := hEn.2.1 i ci
        exact ⟨this.1.gr hg, this.2.1, this.2.2⟩
      · have ci2 : i = (aE A).length := by omega
        rw [if_neg ci, if_pos ci2]
        have r1 : φ.2 107 i = σ0.1 1 3 := by rw [← hφ, pf_2, pr_2, if_neg (by omega), pr_2, if_neg (by omega), pr_2, if_pos ⟨rfl, ci2⟩]
        have r2 : φ.2 108 i = (acc.length : Int) := by rw [← hφ, pf_2, pr_2, if_neg (by omega), pr_2, if_pos ⟨rfl, ci2⟩]
        have r3 : φ.2 109 i = 0 := by rw [← hφ, pf_2, pr_2, if_pos ⟨rfl, ci2⟩]
        rw [r1, r2, r3]
        refine ⟨⟨jtp σ0, hjl.1.symm, by show jtp σ0 + acc.length ≤ _; omega, ?_⟩, rfl, ?_⟩
        · show sl (χ.2 101) (jtp σ0) acc.length = acc
          rw [hχr 101 (by omega), hφr 101 (by omega) (by omega) (by omega)]
          exact e7
        · rw [if_neg]
          intro hm
          obtain ⟨g, hg1', hg2'⟩ := List.mem_map.mp hm
          have := hGO g hg1'
          omega
    · refine hbad c χ ⟨hZ2, by rw [hχf]; exact hφ4, c, by rw [hχf]; exact hφf 2 5 (by omega) (by omega) (by omega), fun r hr w w1 w2 => ?_⟩
      have hz := h.zer r hr w (by omega) w2
      have hxw : w ≠ x.toNat := by have := hxr.2.2.2.1; omega
      rw [← hχ, pr_2, if_neg (fun z => hxw z.2), hφr r (by omega) (by omega) (by omega), e4 r (by omega)]
      exact hz
end JI12
