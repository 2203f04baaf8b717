/-! ===== the reference: a value is brought into its form ===== -/
section Knm
variable {L : Nat → Nat} {rm nd o : Nat} {σ ρ τ : IS} {g g' : KG} {a a' A : AS} {bs bs' : List Nat} {Q : IS → Prop} {R : Int → IS → Prop} {T : Nat → Int} {x y v w : Int} {s : Str} {e : Nat} {bk : List Str} {cs pl out out' : List Int} {vv : Nat → Nat}
theorem KVx.pool2 (ho : o = 14 ∨ o = 15) (h : KVx rm nd o σ (bk, cs, pl ++ out, vv) A bs) (hf : ∀ p k, ¬ (p = o ∧ k = 2) → τ.1 p k = σ.1 p k) (hr : ∀ r, r ≠ rfo o 1 → τ.2 r = σ.2 r) (h2 : τ.1 o 2 = ((pl.length + out'.length : Nat) : Int)) (hp : ∀ j, j < pl.length → τ.2 (rfo o 1) j = σ.2 (rfo o 1) j) (hp2 : ∀ j, j < out'.length → τ.2 (rfo o 1) (pl.length + j) = out'.getD j 0) : KVx rm nd o τ (bk, cs, pl ++ out', vv) A bs := by
  have r1 := rf_1 ho
  obtain ⟨h0, h2', h3', h4', h5'⟩ := h
  refine ⟨?_, h2'.dep kle.refl cle.refl (hf 16 32 (by omega)) (fun r x y => hr r (by omega)), h3'.dep (fun k x => hf 16 k (by omega)) (hr _ (by omega)), h4'.dep kle.refl (hf 16 20 (by omega)) (hf 16 24 (by omega)), by rw [hf 16 3 (by omega)]; exact h5'⟩
  have hZ : KZ rm nd o (pf σ o 2 (pl.length : Int)) (bk, cs, pl, vv) := by
    obtain ⟨⟨h1, hb2, h3, h4⟩, h5, ⟨h6, h7, h8, h9⟩, ⟨h10, h11⟩, h12, h13⟩ := h0
    have hF : ∀ p k, ¬ (p = o ∧ k = 2) → (pf σ o 2 (pl.length : Int)).1 p k = σ.1 p k := fun p k z => by rw [pf_1, if_neg z]
    refine ⟨⟨?_, by rw [hF 13 6 (by omega)]; exact hb2, by rw [hF 13 1 (by omega)]; exact h3, h4⟩, h5, ⟨by rw [hF 16 6 (by omega)]; exact h6, h7, h8, h9⟩, ⟨by rw [pf_eq]; rfl, fun i hi => ?_⟩, by rw [hF 16 2 (by omega), hF 16 0 (by omega), hF 16 1 (by omega)]; exact h12, h13⟩
    · unfold BK at h1 ⊢
      rw [hF 13 1 (by omega), hF 13 6 (by omega)]
      exact h1
    · have hi' : i < pl.length := hi
      have := h11 i (by show i < (pl ++ out).length; rw [List.length_append]; omega)
      rw [show (pf σ o 2 (pl.length : Int)).2 = σ.2 from rfl, this]
      exact getD_app_l hi'
  refine hZ.pools (g := (bk, cs, pl, vv)) ho (fun p k x => ?_) (fun r x => hr r (by omega)) h2 (fun j hj => hp j hj) hp2
  rw [hf p k (by omega), pf_1, if_neg (by omega)]
theorem fold_take {k : Nat} (h : k < out.length) : (out.take (k + 1)).foldl nrm1 [] = nrm1 ((out.take k).foldl nrm1 []) (out.getD k 0) := by
  rw [List.take_succ, List.foldl_append, List.getD_eq_getElem?_getD, List.getElem?_eq_getElem h]
  rfl
theorem getLastD_at {l : List Int} {d : Int} (h : l ≠ []) : l.getLastD d = l.getD (l.length - 1) 0 := by
  cases l with
  | nil => exact absurd rfl h
  | cons x r =>
    rw [List.getLastD_cons, List.getD_eq_getElem?_getD, List.length_cons, Nat.add_sub_cancel]
    cases r with
    | nil => rfl
    | cons y r =>
      rw [List.length_cons, List.getElem?_cons_succ]
      rw [List.getLastD_eq_getLast?, List.getLast?_eq_getElem?, List.length_cons, Nat.add_sub_cancel]
      rw [List.getElem?_eq_getElem (by rw [List.length_cons]; omega)]
      rfl
set_option maxHeartbeats 1000000 in
theorem sp_K_norm {t : Nat} (hL : KLn L o rm nd) (h : KVx rm nd o σ (bk, cs, pl ++ out, vv) A bs) (hcap : pl.length + out.length ≤ L (rfo o 1)) (hx : x = (pl.length : Int)) (hy : y = (t : Int)) (hq : ∀ τ, KVx rm nd o τ (bk, cs, pl ++ nrt t out, vv) A bs → (∀ p k, ¬ (p = o ∧ k = 2) → τ.1 p k = σ.1 p k) → (∀ r, r ≠ rfo o 1 → τ.2 r = σ.2 r) → R ((nrt t out).length : Int) τ) : w_KReader_normalise L x y R σ := by
  subst hx hy
  have ho := hL.2.1
  have r1 := rf_1 ho
  obtain ⟨d1, d2⟩ := h.dy ho
  have l1 := hL.2.2.2.2.2.2.2.2.2.2.2.2.2.2.2.2.1
  have hu : σ.1 o 2 = ((pl.length + out.length : Nat) : Int) := by
    have : σ.1 o 2 = ((pl ++ out).length : Int) := h.1.2.2.2.1.1
    rw [this, List.length_append]
  have hrow : ∀ i, i < pl.length + out.length → σ.2 (rfo o 1) i = (pl ++ out).getD i 0 := fun i hi => h.1.2.2.2.1.2 i (by show i < (pl ++ out).length; rw [List.length_append]; exact hi)
  unfold w_KReader_normalise
  by_cases c0 : t = 0
  · rw [if_pos (by omega), d1, show Int.toNat (o : Int) = o from rfl, hu, show ((pl.length + out.length : Nat) : Int) - (pl.length : Int) = (out.length : Int) by omega]
    have e1 : nrt t out = out := by unfold nrt; rw [if_pos c0]
    have := hq σ (by rw [e1]; exact h) (fun _ _ _ => rfl) (fun _ _ => rfl)
    rw [e1] at this
    exact ⟨by rw [← d1]; exact d2, ⟨by omega, by omega⟩, this⟩
  · rw [if_neg (by omega)]
    have e1 : nrt t out = nrm out := by unfold nrt; rw [if_neg c0]
    rw [e1] at hq
    refine WL_ind (fun s ρ => ∃ (k : Nat) (acc : List Int), k ≤ out.length ∧ s.2 = ((pl.length + k : Nat) : Int) ∧ s.1 = ((pl.length + acc.length : Nat) : Int) ∧ acc.length ≤ k ∧ acc = (out.take k).foldl nrm1 [] ∧ (∀ i, i < acc.length → ρ.2 (rfo o 1) (pl.length + i) = acc.getD i 0) ∧ (∀ i, k ≤ i → i < out.length → ρ.2 (rfo o 1) (pl.length + i) = out.getD i 0) ∧ (∀ r, r ≠ rfo o 1 → ρ.2 r = σ.2 r) ∧ (∀ i, i < pl.length → ρ.2 (rfo o 1) i = σ.2 (rfo o 1) i) ∧ ρ.1 = σ.1) (fun s _ => (((pl.length + out.length : Nat) : Int) - s.2).toNat) ?_ ((pl.length : Int), (pl.length : Int)) σ ⟨0, [], Nat.zero_le _, by simp, by simp, Nat.le_refl _, rfl, fun i hi => absurd hi (Nat.not_lt_zero i), fun i _ hi => ?_, fun _ _ => rfl, fun _ _ => rfl, rfl⟩
    · rintro ⟨s1, s2⟩ ρ ⟨k, acc, k1, hs2, hs1, k2, k3, k4, k5, k6, k7, k8⟩ K hI
      have hs2' : s2 = ((pl.length + k : Nat) : Int) := hs2
      have hs1' : s1 = ((pl.length + acc.length : Nat) : Int) := hs1
      subst hs2' hs1'
      try dsimp only
      rw [k8, d1, show Int.toNat (o : Int) = o from rfl, hu, show Int.toNat ((pl.length + k : Nat) : Int) = pl.length + k from rfl, show Int.toNat ((pl.length + acc.length : Nat) : Int) = pl.length + acc.length from rfl]
      refine ⟨by rw [← d1]; exact d2, ?_⟩
      have hlast : acc ≠ [] → ρ.2 (rfo o 1) (Int.toNat (((pl.length + acc.length : Nat) : Int) - 1)) = acc.getD (acc.length - 1) 0 := fun hne => by
        have : 0 < acc.length := List.length_pos_iff.mpr hne
        rw [show Int.toNat (((pl.length + acc.length : Nat) : Int) - 1) = pl.length + (acc.length - 1) by omega]
        exact k4 _ (by omega)
      by_cases c : k < out.length
      · rw [if_pos (by omega), k5 k (Nat.le_refl _) c]
        refine ⟨⟨by omega, by omega⟩, WJ_dir ?_⟩
        refine WJ_dir ?_
        have hft := fold_take c
        rw [← k3] at hft
        have keepc : nrm1 acc (out.getD k 0) = acc ++ [out.getD k 0] → dyD (ρ.1 16 2) ∧ inL L (rfo (Int.toNat (ρ.1 16 2)) 1) ((pl.length + acc.length : Nat) : Int) ∧ inR (((pl.length + acc.length : Nat) : Int) + 1) ∧ inR (((pl.length + k : Nat) : Int) + 1) ∧ K ((((pl.length + acc.length : Nat) : Int) + 1), (((pl.length + k : Nat) : Int) + 1)) (pr ρ (rfo (Int.toNat (ρ.1 16 2)) 1) (pl.length + acc.length) (out.getD k 0)) := fun hk => by
          rw [k8, d1, show Int.toNat (o : Int) = o from rfl]
          refine ⟨by rw [← d1]; exact d2, ⟨by omega, by omega⟩, ⟨by omega, by omega⟩, ⟨by omega, by omega⟩, hI _ _ ⟨k + 1, acc ++ [out.getD k 0], by omega, by show ((pl.length + k : Nat) : Int) + 1 = _; omega, by rw [List.length_append, List.length_singleton]; show ((pl.length + acc.length : Nat) : Int) + 1 = _; omega, by rw [List.length_append, List.length_singleton]; omega, by rw [hft, hk], fun i hi => ?_, fun i h1 h2 => ?_, fun r z => ?_, fun i hi => ?_, k8⟩ (by show (_ - (((pl.length + k : Nat) : Int) + 1)).toNat < (_ - ((pl.length + k : Nat) : Int)).toNat; omega)⟩
          · rw [List.length_append, List.length_singleton] at hi
            rw [pr_2, getD_snoc]
            by_cases ci : i = acc.length
            · rw [if_pos ⟨rfl, by omega⟩, if_neg (by omega), if_pos ci]
            · rw [if_neg (by omega), if_pos (by omega)]
              exact k4 i (by omega)
          · rw [pr_2, if_neg (by omega)]
            exact k5 i (by omega) h2
          · funext jj
            rw [pr_2, if_neg (fun y => z y.1), k6 r z]
          · rw [pr_2, if_neg (by omega)]
            exact k7 i hi
        by_cases c32 : out.getD k 0 = 32
        · rw [if_pos c32]
          refine ⟨fun z => ⟨⟨by omega, by omega⟩, ⟨by omega, by omega⟩⟩, ?_⟩
          by_cases cl : acc ≠ [] ∧ acc.getLastD 32 ≠ 32
          · have hpos : 0 < acc.length := List.length_pos_iff.mpr cl.1
            rw [if_pos ⟨by omega, by rw [hlast cl.1, ← getLastD_at (d := 32) cl.1]; exact cl.2⟩]
            exact keepc (by unfold nrm1; rw [if_pos (Or.inr cl)])
          · rw [if_neg (fun z => cl ⟨fun y => by rw [y] at z; exact absurd z.1 (by show ¬ _ < ((pl.length + 0 : Nat) : Int); omega), fun y => z.2 (by
              have hne : acc ≠ [] := fun y => by rw [y] at z; exact absurd z.1 (by show ¬ _ < ((pl.length + 0 : Nat) : Int); omega)
              rw [hlast hne, ← getLastD_at (d := 32) hne]; exact y)⟩)]
            have hk : nrm1 acc (out.getD k 0) = acc := by
              unfold nrm1
              rw [if_neg (fun z => z.elim (fun y => y c32) cl)]
            refine ⟨⟨by omega, by omega⟩, hI _ _ ⟨k + 1, acc, by omega, by show ((pl.length + k : Nat) : Int) + 1 = _; omega, rfl, by omega, by rw [hft, hk], k4, fun i h1 h2 => k5 i (by omega) h2, k6, k7, k8⟩ (by show (_ - (((pl.length + k : Nat) : Int) + 1)).toNat < (_ - ((pl.length + k : Nat) : Int)).toNat; omega)⟩
        · rw [if_neg c32]
          exact keepc (by unfold nrm1; rw [if_pos (Or.inl c32)])
      · rw [if_neg (by omega)]
        have hk : k = out.length := by omega
        subst hk
        rw [List.take_length] at k3
        refine WJ_dir ?_
        have fin_ : ∀ n : Nat, (acc.take n = nrm out) → n ≤ acc.length → dyD (ρ.1 16 2) ∧ inR (((pl.length + n : Nat) : Int) - (pl.length : Int)) ∧ R (((pl.length + n : Nat) : Int) - (pl.length : Int)) (pf ρ (Int.toNat (ρ.1 16 2)) 2 ((pl.length + n : Nat) : Int)) := fun n hn hle => by
          rw [k8, d1, show Int.toNat (o : Int) = o from rfl, show ((pl.length + n : Nat) : Int) - (pl.length : Int) = (n : Int) by omega]
          have hnl : (nrm out).length = n := by rw [← hn, List.length_take]; omega
          refine ⟨by rw [← d1]; exact d2, ⟨by omega, by omega⟩, ?_⟩
          rw [← hnl]
          refine hq _ ?_ (fun p k z => by rw [pf_1, if_neg z, k8]) (fun r z => k6 r z)
          refine h.pool2 ho (fun p k z => by rw [pf_1, if_neg z, k8]) (fun r z => k6 r z) (by rw [pf_eq]) (fun jj hjj => k7 jj hjj) (fun jj hjj => ?_)
          rw [hnl] at hjj
          rw [show (pf ρ o 2 ((pl.length + (nrm out).length : Nat) : Int)).2 = ρ.2 from rfl, k4 jj (by omega), ← hn, List.getD_eq_getElem?_getD, List.getD_eq_getElem?_getD, List.getElem?_take, if_pos hjj]
        have hnrm : nrm out = if acc.getLastD 0 = 32 then acc.dropLast else acc := by
          unfold nrm
          rw [← k3]
        refine ⟨fun z => ⟨⟨by omega, by omega⟩, ⟨by omega, by omega⟩⟩, ?_⟩
        by_cases ce : acc ≠ [] ∧ acc.getD (acc.length - 1) 0 = 32
        · have hpos : 0 < acc.length := List.length_pos_iff.mpr ce.1
          rw [if_pos ⟨by omega, by rw [hlast ce.1]; exact ce.2⟩, show ((pl.length + acc.length : Nat) : Int) + -1 = ((pl.length + (acc.length - 1) : Nat) : Int) by omega]
          refine ⟨⟨by omega, by omega⟩, fin_ (acc.length - 1) ?_ (by omega)⟩
          rw [hnrm, if_pos (by rw [getLastD_at ce.1]; exact ce.2), List.dropLast_eq_take]
        · rw [if_neg (fun z => ce ⟨fun y => by rw [y] at z; exact absurd z.1 (by show ¬ _ < ((pl.length + 0 : Nat) : Int); omega), by
            have hne : acc ≠ [] := fun y => by rw [y] at z; exact absurd z.1 (by show ¬ _ < ((pl.length + 0 : Nat) : Int); omega)
            rw [← hlast hne]; exact z.2⟩)]
          refine fin_ acc.length ?_ (Nat.le_refl _)
          rw [List.take_length, hnrm, if_neg]
          intro z
          by_cases hne : acc = []
          · rw [hne] at z; exact absurd z (by decide)
          · exact ce ⟨hne, by rw [← getLastD_at (d := 0) hne]; exact z⟩
    · rw [hrow _ (by omega), List.getD_eq_getElem?_getD, List.getElem?_append_right (by omega), Nat.add_sub_cancel_left, ← List.getD_eq_getElem?_getD]
end Knm
