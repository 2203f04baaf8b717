/-! ===== the reference at the end of a text: lists ===== -/
/-- what it looks at when a text has ended -/
def KFn (rm nd o : Nat) (σ : IS) (g : KG) (a : AS) : Prop := KZ rm nd o σ g ∧ KRo σ (gB g) (aR a) ∧ KEd σ (gB g) (aD a) ∧ KAd σ (gB g) (gP g) (aA a) ∧ KNt σ (gB g) (aT a) ∧ KEl o σ (gB g) (aL a) ∧ KAt o σ (gB g) (gP g) (aA a) (aB a) ∧ KSt o σ (gB g) (gP g) (aS a) (aL a).length
/-- the same strings, characters and pool -/
def gsv (g : KG) (v : Nat → Nat) : KG := (gB g, gC g, gP g, v)
section Kfn
variable {L : Nat → Nat} {rm nd o : Nat} {σ τ : IS} {g : KG} {a : AS} {Q : IS → Prop} {R : Int → IS → Prop} {v : Int}
theorem KFn.dep {g' : KG} (ho : o = 14 ∨ o = 15) (h : KFn rm nd o σ g a) (hZ : KZ rm nd o τ g') (hB : kle (gB g) (gB g')) (hP : gP g' = gP g) (hf : ∀ p k, ¬ (p = 13 ∧ (k = 1 ∨ k = 6)) → ¬ (p = 16 ∧ k = 4) → ¬ (p = o ∧ k = 21) → τ.1 p k = σ.1 p k) (hr : ∀ r, ¬ (211 ≤ r ∧ r ≤ 215) → r ≠ rfo o 18 → r ≠ rfo o 19 → r ≠ 188 → τ.2 r = σ.2 r) : KFn rm nd o τ g' a := by
  have r1 := rf_1 ho
  have r3 := fun k x y => rf_3 ho (k := k) x y
  have r8 := fun k x y => rf_8 ho (k := k) x y
  obtain ⟨-, h1, h2, h3, h4, h5, h6, h7⟩ := h
  unfold KFn
  rw [hP]
  refine ⟨hZ, h1.dep hB (hf 16 20 (by omega) (by omega) (by omega)) (hf 16 24 (by omega) (by omega) (by omega)), ?_, ?_, h4.dep hB (hf 16 34 (by omega) (by omega) (by omega)) (hr 187 (by omega) (by omega) (by omega) (by omega)), h5.dep hB (hf o 7 (by omega) (by omega) (by omega)) (fun k x y => hr _ (by have := r3 k x y; omega) (by have := r3 k x y; omega) (by have := r3 k x y; omega) (by have := r3 k x y; omega)), h6.dep hB cle.refl (hf o 14 (by omega) (by omega) (by omega)) (fun k x y => hr _ (by have := r8 k x y; omega) (by have := r8 k x y; omega) (by have := r8 k x y; omega) (by have := r8 k x y; omega)), h7.dep hB (fun k x => hf o k (by omega) (by omega) (by omega)) (hr _ (by omega) (by omega) (by omega) (by omega))⟩
  · exact h2.dep hB (hf 16 40 (by omega) (by omega) (by omega)) (by rw [hf 16 47 (by omega) (by omega) (by omega)]; exact Int.le_refl _) (by rw [hf 16 58 (by omega) (by omega) (by omega)]; exact Int.le_refl _) (fun r x y => hr r (by omega) (by omega) (by omega) (by omega)) (fun r x y i _ => by rw [hr r (by omega) (by omega) (by omega) (by omega)]) (fun i _ => by rw [hr 207 (by omega) (by omega) (by omega) (by omega)]) (Or.inl (hf 16 47 (by omega) (by omega) (by omega)))
  · exact h3.dep hB cle.refl (hf 16 56 (by omega) (by omega) (by omega)) (by rw [hf 16 58 (by omega) (by omega) (by omega)]; exact Int.le_refl _) (fun r x y => hr r (by omega) (by omega) (by omega) (by omega)) (fun i _ => by rw [hr 207 (by omega) (by omega) (by omega) (by omega)])
theorem KFn.vio {k m : Nat} (ho : o = 14 ∨ o = 15) (h : KFn rm nd o σ g a) (hv : v = ((gV g k + m : Nat) : Int)) : KFn rm nd o (pr σ (rfo o 18) k v) (gsv g (fun j => gV g j + if j = k then m else 0)) a := by
  refine h.dep ho (h.1.vio ho hv) kle.refl rfl (fun _ _ _ _ _ => rfl) (fun r _ y _ _ => ?_)
  funext x
  rw [pr_2, if_neg (fun z => y z.1)]
theorem sp_N_isNotation {s : Str} (hL : KLn L o rm nd) (h : KFn rm nd o σ g a) (hT : (aT a).length ≤ 8300) (hv : Kf (gB g) v s) (hq : R (b1 (decide (s ∈ aT a))) σ) : w_KReader_isNotation L v R σ := by
  obtain ⟨h1, h2⟩ := h.2.2.2.2.1
  have hl := kpL_len (l := aT a) (bk := [])
  rw [List.length_nil, Nat.zero_add] at hl
  have l7 := hL.2.2.2.2.2.2.1 187 (by omega) (by omega)
  unfold w_KReader_isNotation
  refine sp_fnd' (names := kpL [] (aT a)) (W := fun s3 σ4 => R (if s3 < (σ4.1 16 34) then (1 : Int) else (0 : Int)) σ4) h.1.2.1 hv h1 (by omega) (by omega) h2 (fun n n1 n2 n3 => ?_)
  have hm := fnd_mem n1 n2 n3
  rw [mem_kpL] at hm
  have hm' : n < (kpL [] (aT a)).length ↔ s ∈ aT a := hm.trans ⟨fun z => z.elim (fun y => absurd y List.not_mem_nil) id, Or.inr⟩
  by_cases c : s ∈ aT a
  · rw [if_pos (by have := hm'.mpr c; omega)]
    rw [decide_eq_true c] at hq
    exact hq
  · rw [if_neg (fun z => c (hm'.mp (by omega)))]
    rw [decide_eq_false c] at hq
    exact hq
/-- names of lists that are no notations; notations of elements that are EMPTY -/
theorem sp_K_lists (hL : KLn L o rm nd) (h : KFn rm nd o σ g a) (hT : (aT a).length ≤ 8300) (hA : (aA a).length ≤ 8300) (hD : (aD a).length ≤ 8300) (hls : nLs (aD a) (aA a) ≤ 50000) (h58 : σ.1 16 58 ≤ 50000) (h16 : gV g 16 = 0) (h18 : gV g 18 = 0)
    (hq : ∀ ρ g', KFn rm nd o ρ g' a → (∃ v, g' = gsv g v ∧ ∀ k, v k = gV g k + (if k = 16 ∨ k = 18 then cnA (aD a) (aA a) (aT a) k else 0)) → ρ.1 = σ.1 → (∀ r, r ≠ rfo o 18 → ρ.2 r = σ.2 r) → Q ρ) : w_KReader_lists L Q σ := by
  have ho := hL.2.1
  have r1 := rf_1 ho
  have e2 : σ.1 16 2 = (o : Int) := h.1.2.2.2.2.1.1
  have hdy : dyD (σ.1 16 2) := by unfold dyD; rcases ho with y | y <;> rw [e2, y] <;> decide
  have l18 : L (rfo o 18) = 23 := by obtain ⟨-, -, -, -, -, -, -, -, -, -, -, -, -, -, -, -, -, -, -, x, -⟩ := hL; exact x
  have l201 := hL.2.2.2.2.2.2.2.2.2.2.1
  have l207 : L 207 = 50000 := hL.2.2.2.2.2.2.2.2.2.2.2.1
  have l190 := hL.2.2.2.2.2.2.2.2.1
  have hAd := h.2.2.2.1
  unfold w_KReader_lists
  refine WL_ind (fun s ρ => ∃ (d : Nat) (v : Nat → Nat), s = (d : Int) ∧ d ≤ (aA a).length ∧ KFn rm nd o ρ (gsv g v) a ∧ (∀ k, v k = gV g k + (if k = 16 ∨ k = 18 then sn (ctA (aD a) (aA a) (aT a) k) d else 0)) ∧ ρ.1 = σ.1 ∧ ∀ r, r ≠ rfo o 18 → ρ.2 r = σ.2 r) (fun s _ => (((aA a).length : Int) - s).toNat) ?_ _ σ ⟨0, gV g, rfl, Nat.zero_le _, h, fun k => by split <;> rfl, rfl, fun _ _ => rfl⟩
  rintro s ρ ⟨d, v, rfl, hd, hK, hv, hf, hr⟩ K hI
  try dsimp only
  have hAr : KAd ρ (gB g) (gP g) (aA a) := hK.2.2.2.1
  rw [hf, hAd.1]
  by_cases c : d < (aA a).length
  · rw [if_pos (by omega), show Int.toNat (d : Int) = d from rfl]
    obtain ⟨m1, m2, m3, m4, m5, ⟨b, mb, mb2, mb3⟩, m7⟩ := hAr.2 d c
    refine ⟨⟨by omega, by have := l201 201 (by omega) (by omega); omega⟩, ?_⟩
    rw [m3]
    -- bounds
    have hsum : ∀ k, sn (fun j => ((aA a).getD j adD).2.2.2.2.2.length) k ≤ nLs (aD a) (aA a) + 0 → True := fun _ _ => trivial
    have hlen : ∀ n, n ≤ (aA a).length → sn (fun j => ((aA a).getD j adD).2.2.2.2.2.length) n ≤ nLs (aD a) (aA a) := by
      intro n hn
      refine Nat.le_trans (sn_mono hn) ?_
      rw [← sn_range]
      have h2 : (List.range (aA a).length).map (fun d => ((aA a).getD d adD).2.2.2.2.2.length) = (aA a).map (fun x => x.2.2.2.2.2.length) := by
        refine List.ext_getElem (by rw [List.length_map, List.length_map, List.length_range]) (fun i h1 h2 => ?_)
        rw [List.length_map, List.length_range] at h1
        rw [List.getElem_map, List.getElem_map, List.getElem_range, List.getD_eq_getElem?_getD, List.getElem?_eq_getElem h1]
        rfl
      rw [h2]
      unfold nLs
      omega
    have hc16 : ∀ n, sn (ctA (aD a) (aA a) (aT a) 16) n ≤ sn (fun j => ((aA a).getD j adD).2.2.2.2.2.length) n := by
      intro n
      induction n with
      | zero => exact Nat.le_refl _
      | succ n ih =>
        rw [sn_s, sn_s]
        have : ctA (aD a) (aA a) (aT a) 16 n ≤ ((aA a).getD n adD).2.2.2.2.2.length := by
          show (if ((aA a).getD n adD).2.2.1 = 8 then nok (aT a) ((aA a).getD n adD).2.2.2.2.2 ((aA a).getD n adD).2.2.2.2.2.length else 0) ≤ _
          split
          · exact nok_le _
          · exact Nat.zero_le _
        omega
    have hc18 : ∀ n, sn (ctA (aD a) (aA a) (aT a) 18) n ≤ n := by
      intro n
      induction n with
      | zero => exact Nat.le_refl _
      | succ n ih =>
        rw [sn_s]
        have : ctA (aD a) (aA a) (aT a) 18 n ≤ 1 := by
          show (if ((aA a).getD n adD).2.2.1 = 8 ∧ emp (aD a) ((aA a).getD n adD).1 = true then 1 else 0) ≤ 1
          split <;> omega
        omega
    refine WJ_of (fun _ τ => ∃ v', KFn rm nd o τ (gsv g v') a ∧ (∀ k, v' k = gV g k + (if k = 16 ∨ k = 18 then sn (ctA (aD a) (aA a) (aT a) k) (d + 1) else 0)) ∧ τ.1 = σ.1 ∧ ∀ r, r ≠ rfo o 18 → τ.2 r = σ.2 r) (fun J hJ => ?_) ?_
    rotate_left
    · rintro _ τ ⟨v', y1, y2, y3, y4⟩
      exact ⟨⟨by omega, by omega⟩, hI _ _ ⟨d + 1, v', by omega, by omega, y1, y2, y3, y4⟩ (by omega)⟩
    by_cases c8 : ((aA a).getD d adD).2.2.1 = 8
    · rw [if_pos (by omega)]
      have hnk : ∀ k, ctA (aD a) (aA a) (aT a) 16 k = (if ((aA a).getD k adD).2.2.1 = 8 then nok (aT a) ((aA a).getD k adD).2.2.2.2.2 ((aA a).getD k adD).2.2.2.2.2.length else 0) := fun _ => rfl
      have hem : ∀ k, ctA (aD a) (aA a) (aT a) 18 k = (if ((aA a).getD k adD).2.2.1 = 8 ∧ emp (aD a) ((aA a).getD k adD).1 = true then 1 else 0) := fun _ => rfl
      refine WL_ind (fun s τ => ∃ (j : Nat) (v' : Nat → Nat), s = (j : Int) ∧ j ≤ ((aA a).getD d adD).2.2.2.2.2.length ∧ KFn rm nd o τ (gsv g v') a ∧ (∀ k, v' k = v k + (if k = 16 then nok (aT a) ((aA a).getD d adD).2.2.2.2.2 j else 0)) ∧ τ.1 = σ.1 ∧ ∀ r, r ≠ rfo o 18 → τ.2 r = σ.2 r) (fun s _ => ((((aA a).getD d adD).2.2.2.2.2.length : Int) - s).toNat) ?_ _ ρ ⟨0, v, rfl, Nat.zero_le _, hK, fun k => by split <;> rfl, hf, hr⟩
      rintro s τ ⟨j, v', rfl, hj, hKτ, hv', hfτ, hrτ⟩ K' hI'
      try dsimp only
      obtain ⟨n1, n2, n3, n4, n5, ⟨b', nb, nb2, nb3⟩, n7⟩ := hKτ.2.2.2.1.2 d c
      rw [n7]
      refine ⟨⟨by omega, by have := l201 206 (by omega) (by omega); omega⟩, ?_⟩
      have hlb := hlen (d + 1) (by omega)
      rw [sn_s] at hlb
      by_cases cj : j < ((aA a).getD d adD).2.2.2.2.2.length
      · rw [if_pos (by omega), hfτ, e2, show Int.toNat (o : Int) = o from rfl, nb, show Int.toNat 16 = 16 from rfl]
        have nb2' : (b' : Int) + (((aA a).getD d adD).2.2.2.2.2.length : Int) ≤ σ.1 16 58 := by rw [← hfτ]; exact nb2
        refine ⟨by rw [← e2]; exact hdy, ⟨by omega, by rw [l18]; decide⟩, ⟨by omega, by have := l201 205 (by omega) (by omega); omega⟩, ⟨by omega, by omega⟩, ⟨by omega, by rw [l207]; omega⟩, ?_⟩
        rw [show Int.toNat ((b' : Int) + (j : Int)) = b' + j by omega]
        refine sp_N_isNotation hL hKτ hT (Or.inl (nb3 j cj)) ?_
        have hval : τ.2 (rfo o 18) 16 = (v' 16 : Int) := hKτ.1.2.2.2.2.2 16 (by omega)
        have hv16 : v' 16 ≤ 60000 := by
          rw [hv' 16, if_pos rfl, hv 16, if_pos (Or.inl rfl), h16]
          have := hc16 d
          have := nok_le (nt := aT a) (l := ((aA a).getD d adD).2.2.2.2.2) j
          have := hlen d (by omega)
          omega
        rw [hval]
        generalize hm : (if ((aA a).getD d adD).2.2.2.2.2.getD j [] ∈ aT a then 0 else 1) = m
        have hm1 : m ≤ 1 := by rw [← hm]; split <;> omega
        have hmI : (if b1 (decide (((aA a).getD d adD).2.2.2.2.2.getD j [] ∈ aT a)) = 0 then (1 : Int) else (0 : Int)) = (m : Int) := by
          rw [← hm]
          by_cases cm : ((aA a).getD d adD).2.2.2.2.2.getD j [] ∈ aT a
          · rw [decide_eq_true cm, if_pos cm, if_neg (by decide)]; rfl
          · rw [decide_eq_false cm, if_neg cm, if_pos (by decide)]; rfl
        rw [hmI]
        refine ⟨⟨by omega, by omega⟩, ⟨by omega, by rw [l18]; decide⟩, ⟨by omega, by omega⟩, ?_⟩
        refine hI' _ _ ⟨j + 1, fun k => v' k + if k = 16 then m else 0, by omega, by omega, hKτ.vio (k := 16) (m := m) ho (by show _ = ((v' 16 + m : Nat) : Int); omega), fun k => ?_, hfτ, fun r y => ?_⟩ (by omega)
        · dsimp only
          rw [hv' k]
          by_cases ck : k = 16
          · rw [if_pos ck, if_pos ck, if_pos ck]
            show v k + nok (aT a) ((aA a).getD d adD).2.2.2.2.2 j + m = v k + (nok (aT a) ((aA a).getD d adD).2.2.2.2.2 j + _)
            rw [hm]; omega
          · rw [if_neg ck, if_neg ck, if_neg ck]
        · funext x
          rw [pr_2, if_neg (fun z => y z.1)]
          exact congrFun (hrτ r y) x
      · rw [if_neg (by omega)]
        have hjl : j = ((aA a).getD d adD).2.2.2.2.2.length := by omega
        refine ⟨⟨by omega, by have := l201 199 (by omega) (by omega); omega⟩, ?_⟩
        have hfl := fE_len _ (aD a) rfl
        refine sp_K_contentOf hL hKτ.1.2.1 hKτ.2.2.1 (by omega) (Or.inl n1) ?_
        rw [hfτ, e2, show Int.toNat (o : Int) = o from rfl, show Int.toNat 18 = 18 from rfl]
        have hval : τ.2 (rfo o 18) 18 = (v' 18 : Int) := hKτ.1.2.2.2.2.2 18 (by omega)
        have hv18 : v' 18 ≤ 8300 := by
          rw [hv' 18, if_neg (by decide), hv 18, if_pos (Or.inr rfl), h18]
          have := hc18 d
          omega
        rw [hval]
        -- declared EMPTY
        have hfe := fE_edf (s := ((aA a).getD d adD).1) (aD a)
        generalize hm : (if emp (aD a) ((aA a).getD d adD).1 = true then 1 else 0) = m
        have hm1 : m ≤ 1 := by rw [← hm]; split <;> omega
        have hmI : (if enc (fEi (aD a) ((aA a).getD d adD).1) < 0 then (0 : Int) else (if (τ.2 190 (Int.toNat (enc (fEi (aD a) ((aA a).getD d adD).1)))) = 1 then (1 : Int) else (0 : Int))) = (m : Int) ∧ (¬ enc (fEi (aD a) ((aA a).getD d adD).1) < 0 → inL L 190 (enc (fEi (aD a) ((aA a).getD d adD).1))) := by
          rw [← hm]
          cases hfi : fEi (aD a) ((aA a).getD d adD).1 with
          | none =>
            rw [hfi] at hfe
            have hed : edf (aD a) ((aA a).getD d adD).1 = none := by
              cases hz : edf (aD a) ((aA a).getD d adD).1 with
              | none => rfl
              | some q => rw [hz] at hfe; exact (Bool.false_ne_true hfe.1).elim
            refine ⟨?_, fun z => absurd (show enc none < 0 by decide) z⟩
            rw [if_pos (show enc none < 0 by decide)]
            unfold emp
            rw [hed]
            rfl
          | some i =>
            have hil : i < (fE (aD a)).length := edf_lt hfi
            obtain ⟨q, hq'⟩ : ∃ q, edf (aD a) ((aA a).getD d adD).1 = some q := by
              cases hz : edf (aD a) ((aA a).getD d adD).1 with
              | none => rw [hz, hfi] at hfe; exact (Bool.false_ne_true hfe.1.symm).elim
              | some q => exact ⟨q, rfl⟩
            have hsame := hfe.2 i q hfi hq'
            have hk190 := (hKτ.2.2.1.2.1 i hil).2.1
            have ei : enc (some i) = (i : Int) := rfl
            rw [ei]
            refine ⟨?_, fun _ => ⟨by omega, by have := l190 190 (by omega) (by omega); omega⟩⟩
            rw [if_neg (by omega), show Int.toNat (i : Int) = i from rfl, hk190, hsame]
            unfold emp
            rw [hq']
            dsimp only
            by_cases c0 : ((aD a).getD q ([], 0, [])).2.1 = 0
            · rw [if_pos (by omega), if_pos (by rw [c0]; rfl)]; rfl
            · rw [if_neg (by omega), if_neg (by intro z; exact c0 (beq_iff_eq.mp z))]; rfl
        rw [hmI.1]
        refine ⟨by rw [← e2]; exact hdy, ⟨by omega, by rw [l18]; decide⟩, hmI.2, ⟨by omega, by omega⟩, ⟨by omega, by rw [l18]; decide⟩, ?_⟩
        refine hJ _ _ ⟨fun k => v' k + if k = 18 then m else 0, hKτ.vio (k := 18) (m := m) ho (by show _ = ((v' 18 + m : Nat) : Int); omega), fun k => ?_, hfτ, fun r y => ?_⟩
        · dsimp only
          rw [hv' k, hv k]
          by_cases k16 : k = 16
          · subst k16
            rw [if_pos (Or.inl rfl), if_pos rfl, if_neg (by decide), if_pos (Or.inl rfl), sn_s, hnk d, if_pos c8, hjl]
            omega
          · by_cases k18 : k = 18
            · subst k18
              rw [if_pos (Or.inr rfl), if_neg (by decide), if_pos rfl, if_pos (Or.inr rfl), sn_s, hem d]
              have : (if ((aA a).getD d adD).2.2.1 = 8 ∧ emp (aD a) ((aA a).getD d adD).1 = true then 1 else 0) = m := by
                rw [← hm]
                by_cases ce : emp (aD a) ((aA a).getD d adD).1 = true
                · rw [if_pos ⟨c8, ce⟩, if_pos ce]
                · rw [if_neg (fun z => ce z.2), if_neg ce]
              rw [this]
              omega
            · rw [if_neg (by omega), if_neg k16, if_neg k18, if_neg (by omega)]
        · funext x
          rw [pr_2, if_neg (fun z => y z.1)]
          exact congrFun (hrτ r y) x
    · rw [if_neg (by omega)]
      refine hJ _ _ ⟨v, hK, fun k => ?_, hf, hr⟩
      rw [hv k]
      by_cases k16 : k = 16
      · subst k16
        rw [if_pos (Or.inl rfl), if_pos (Or.inl rfl), sn_s]
        show _ = _ + (_ + (if ((aA a).getD d adD).2.2.1 = 8 then _ else 0))
        rw [if_neg c8, Nat.add_zero]
      · by_cases k18 : k = 18
        · subst k18
          rw [if_pos (Or.inr rfl), if_pos (Or.inr rfl), sn_s]
          show _ = _ + (_ + (if ((aA a).getD d adD).2.2.1 = 8 ∧ _ then 1 else 0))
          rw [if_neg (fun z => c8 z.1), Nat.add_zero]
        · rw [if_neg (by omega), if_neg (by omega)]
  · rw [if_neg (by omega)]
    have hdl : d = (aA a).length := by omega
    rw [hdl] at hv
    exact hq ρ _ hK ⟨v, rfl, hv⟩ hf hr
end Kfn
