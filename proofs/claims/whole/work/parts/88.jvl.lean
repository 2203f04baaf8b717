/-! ===== values in the class: the loop ===== -/
section JVal3
variable {L : Nat → Nat} {rm nd : Nat} {σ0 σ σ' : IS}
/-- counted characters of texts that are gone through -/
def vln (st : List (List Int × Nat)) : Nat := (st.map (fun z => z.1.length)).sum
theorem vst_cons {en : List Ent} {bus : List Nat} {und : Bool} {x : Int} {r : List Int} {w : Nat} {st : List (List Int × Nat)} {c m : Nat} {o : List Int} : vst rm en bus und ((x :: r, w) :: st, c, m, o) = if x = 60 then .inl 11 else if x ≠ 38 then .inr ((r, w) :: st, c, m, o ++ [if isSp x = true then 32 else x])
    else match rfp (gd (x :: r)) (r.length + 1) (some 0) with
      | none => .inl 5
      | some j => if 0 ≤ rfK (x :: r) j then .inr (((x :: r).drop j, w) :: st, c, m, o ++ [rfK (x :: r) j])
        else if rfK (x :: r) j = -2 then .inl 12
        else match eno en (sl (gd (x :: r)) 1 (j - 2)) false with
          | none => if und = true then .inl 9 else .inr (((x :: r).drop j, w) :: st, c, m + 1, o)
          | some i => if rm < c + ((en.getD i ([], false, [])).2.2).length then .inl 4
            else if (i + 1) ∈ bus ∨ (i + 1) ∈ (((x :: r), w) :: st).map (fun z => z.2) then .inl 10
            else .inr (((en.getD i ([], false, [])).2.2, i + 1) :: ((x :: r).drop j, w) :: st, c + ((en.getD i ([], false, [])).2.2).length, m, o) := rfl
/-- a bad state behind a value -/
def VB (L : Nat → Nat) (rm nd : Nat) (σ0 : IS) (b0 : Nat) (f : Nat) (σ : IS) : Prop := JZ L rm nd σ ∧ σ.1 2 4 = (f : Int) ∧ f ≠ 0 ∧ VX b0 σ0 σ ∧ b0 ≤ jtp σ ∧ ∃ e p, JT L σ e p ∧ p ≤ e
theorem JFr.jt {f : Frm} {t : List Frm} {os : List Nat} (hln : JLn L rm nd) (hZ : JZ L rm nd σ) (h : JFr σ (f :: t) os) : ∃ a : Nat, JT L σ (a + f.1.length) a ∧ sl (σ.2 101) a f.1.length = f.1 ∧ a + f.1.length ≤ jtp σ := by
  obtain ⟨-, ⟨a, ha, hal, has⟩, b3, -⟩ := h.get
  have hj := hZ.1.jtp_le
  have h9 : L 101 < 1000000 := hln.1.2.2.2.2.2.2.2
  exact ⟨a, ⟨ha, by rw [b3, ha]; omega, by omega, h9, by omega⟩, has, hal⟩
theorem JZ.ft {n : Int} (h : JZ L rm nd σ) : JZ L rm nd (flt σ n) := by
  unfold flt
  split
  · exact (h.out (σ' := pf σ 2 4 n) (fun o k hk => by rw [pf_1, if_neg (by omega)]) (fun _ _ => rfl)).1
  · exact h
theorem JZ.jb {e k : Nat} (h : JZ L rm nd σ) (hb : JB e k σ σ') : JZ L rm nd σ' ∧ sgr σ σ' := by
  have hs := SI_of h.1 (σ' := σ') (hb.2.1 1 14 (by omega)) (by rw [hb.2.1 1 3 (by omega)]; have := h.1.1; omega) (fun r _ _ => by rw [hb.1]) (fun i _ => by rw [hb.1])
  refine ⟨h.dep hs.1 hs.2 (jch_row h.2.1 (by rw [hb.1])) hb.2.2.2 ⟨fun o k hk => hb.2.1 o k ?_, fun r _ => by rw [hb.1]⟩, hs.2⟩
  simp [fZ] at hk; omega
theorem VX.jb {b0 e k : Nat} (h : VX b0 σ0 σ) (hb : JB e k σ σ') : VX b0 σ0 σ' := by
  refine ⟨h.1.trans ⟨fun o k hk => hb.2.1 o k ?_, fun r _ => by rw [hb.1]⟩, fun i hi => by rw [hb.1]; exact h.2 i hi⟩
  simp [fV] at hk; omega
theorem VX.ft {b0 : Nat} {n : Int} (h : VX b0 σ0 σ) : VX b0 σ0 (flt σ n) := by
  unfold flt
  split
  · exact h.fld rfl
  · exact h
theorem flt_val {n : Int} (h : σ.1 2 4 = 0) : flt σ n = pf σ 2 4 n := by
  unfold flt
  rw [if_pos h]
theorem jtp_ft {n : Int} : jtp (flt σ n) = jtp σ := by
  unfold flt
  split
  · show (uf σ.1 2 4 n 1 3).toNat = _
    rw [uf_n (by omega)]
    rfl
  · rfl
/-- one step of a good state -/
theorem VA_go {en : List Ent} {os : List Nat} {f2 g : Nat × Nat} {t FR : List Frm} {q x : Int} {aft r R lb out out' : List Int} {b0 w c m m' j : Nat} {st st0 : List (List Int × Nat)} (hln : JLn L rm nd) (hVA : VA L rm nd σ0 en os f2 t q aft b0 st lb c m out σ) (hVT : VT x r R w st0 g FR st lb f2 t q aft) (hj : j ≤ r.length + 1) (hn38 : x ≠ 38 → j = 1) (h38 : x = 38 → rfp (gd (x :: r)) (r.length + 1) (some 0) = some j)
    (hZ' : JZ L rm nd σ') (h4' : σ'.1 2 4 = 0) (gr : sgr σ σ') (h12 : σ'.1 3 12 = σ.1 3 12) (h23 : σ'.1 2 3 = σ.1 2 3) (hr : ∀ r, 110 ≤ r → r ≤ 113 → σ'.2 r = σ.2 r) (h2 : σ'.1 2 2 = σ.1 2 2 + (j : Int)) (aE : ag fEn rEn σ σ') (hnu : σ'.1 3 13 = (c : Int) ∧ σ'.1 3 14 = (m' : Int) ∧ σ'.1 2 6 = σ0.1 2 6) (hjt : jtp σ' = b0 + out'.length ∧ sl (σ'.2 101) b0 out'.length = out') (hX : VX b0 σ0 σ') :
    ∃ st' lb', VA L rm nd σ0 en os f2 t q aft b0 st' lb' c m' out' σ' ∧ st' ++ [(lb', 0)] = ((x :: r).drop j, w) :: st0 ∧ vfr st' ++ (lb' ++ q :: aft, f2) :: t = ((x :: R).drop j, g) :: FR := by
  obtain ⟨v1, v2, v3, v4, v5, v6, v7, v8, v9, v10, v11⟩ := hVA
  obtain ⟨t1, t2, ⟨y, t3⟩, t4, t5⟩ := hVT
  obtain ⟨st', lb', s1, s2, s3, s4⟩ := t5 j hj hn38 h38
  rw [t2] at v3 v4 v5
  have hjR : j ≤ (x :: R).length := by rw [List.length_cons, t3, List.length_append]; omega
  have hm : (((x :: R).drop j, g) :: FR).map (fun z => z.2.1) = ((x :: R, g) :: FR).map (fun z => z.2.1) := rfl
  refine ⟨st', lb', ⟨hZ', h4', ?_, ?_, ?_, s3 v6, hnu, hjt, hX, s4, ⟨by rw [h23]; exact v11.1, fun j hj => (by rw [hr 111 (by omega) (by omega)]; exact v11.2.1 j (by rw [← h12]; exact hj)), fun hd => (by rw [h23]; exact v11.2.2.1 (by rw [← h12]; exact hd)), fun hd => (by rw [hr 111 (by omega) (by omega)]; exact v11.2.2.2 (by rw [← h12]; exact hd))⟩⟩, s1, s2⟩
  · rw [s2]
    exact v3.adv hjR gr h12 h23 hr h2
  · rw [s2, hm]
    exact v4.dep gr hZ'.1 hln.1 aE
  · rw [s2]
    refine ⟨by rw [hm]; exact v5.1, fun f hf => ?_⟩
    rcases List.mem_cons.mp hf with rfl | hf
    · exact v5.2 (x :: R, g) List.mem_cons_self
    · exact v5.2 f (List.mem_cons_of_mem _ hf)
/-- one character more -/
theorem JZ.ad {c : Int} (h : JZ L rm nd σ) (ht : jtp σ < L 101) (hc : 0 ≤ c ∧ c ≤ 1114111) : JZ L rm nd (pf (pr σ 101 (jtp σ) c) 1 3 ((jtp σ : Int) + 1)) ∧ sgr σ (pf (pr σ 101 (jtp σ) c) 1 3 ((jtp σ : Int) + 1)) := by
  have hs := SI_add (c := c) h.1 ht
  refine ⟨h.dep hs.1 hs.2 (fun i hi => ?_) (fun j h1 h2 => ?_) ((ag.refl.pr rfl).pf rfl), hs.2⟩
  · rw [pf_2, pr_2]
    split
    · exact hc
    · exact h.2.1 i hi
  · rw [pf_no (by decide), pr_1]
    exact h.2.2.2.2.2.1 j h1 h2
theorem jtp_ad {c : Int} : jtp (pf (pr σ 101 (jtp σ) c) 1 3 ((jtp σ : Int) + 1)) = jtp σ + 1 := by
  have : (pf (pr σ 101 (jtp σ) c) 1 3 ((jtp σ : Int) + 1)).1 1 3 = (jtp σ : Int) + 1 := pf_eq
  unfold jtp at this ⊢
  omega
theorem sl_ad {c : Int} {b0 : Nat} {out : List Int} (h1 : jtp σ = b0 + out.length) (h2 : sl (σ.2 101) b0 out.length = out) : sl ((pf (pr σ 101 (jtp σ) c) 1 3 ((jtp σ : Int) + 1)).2 101) b0 (out ++ [c]).length = out ++ [c] := by
  rw [List.length_append, List.length_singleton, sl_succ]
  congr 1
  · refine Eq.trans (sl_ext (fun j hj => ?_)) h2
    rw [pf_2, pr_2, if_neg (by omega)]
  · rw [pf_2, pr_2, if_pos ⟨rfl, by omega⟩]
end JVal3
