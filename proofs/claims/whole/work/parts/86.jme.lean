/-! ===== what a reference means, in the class ===== -/
theorem five_w : ∀ k, k < 5 → 0 ≤ alw (ti (1065 + k)) ∧ alw (ti (1065 + k)) = tC 1046 (k : Int) := by decide +kernel
theorem five_t : ti 1065 = [108, 116] ∧ ti 1066 = [103, 116] ∧ ti 1067 = [97, 109, 112] ∧ ti 1068 = [97, 112, 111, 115] ∧ ti 1069 = [113, 117, 111, 116] := by decide +kernel
theorem five_n : tN 1046 = 5 := by decide +kernel
theorem alw_or (s : List Int) : alw s = -1 ∨ ∃ k, k < 5 ∧ s = ti (1065 + k) := by
  obtain ⟨t1, t2, t3, t4, t5⟩ := five_t
  unfold alw
  split
  · rename_i h
    exact Or.inr ⟨0, by omega, by rw [h]; exact t1.symm⟩
  · split
    · rename_i h
      exact Or.inr ⟨1, by omega, by rw [h]; exact t2.symm⟩
    · split
      · rename_i h
        exact Or.inr ⟨2, by omega, by rw [h]; exact t3.symm⟩
      · split
        · rename_i h
          exact Or.inr ⟨3, by omega, by rw [h]; exact t4.symm⟩
        · split
          · rename_i h
            exact Or.inr ⟨4, by omega, by rw [h]; exact t5.symm⟩
          · exact Or.inl rfl
section JMe
variable {L : Nat → Nat} {rm nd : Nat} {σ : IS}
theorem sp_mean_name {Q : Int → IS → Prop} {a1 : Int} {s : Str} {en : List Ent} (hln : JLn L rm nd) (hZ : JZ L rm nd σ) (h7 : σ.1 2 7 = -1) (hb : 0 ≤ σ.1 2 8 ∧ 0 ≤ σ.1 2 9 ∧ σ.1 2 8 + σ.1 2 9 ≤ (L 101 : Int)) (hs : sl (σ.2 101) (σ.1 2 8).toNat (σ.1 2 9).toNat = s) (hW : WM L σ 114 (fun s => en1 (eno en s false))) (h14 : 0 ≤ σ.1 3 14 ∧ σ.1 3 14 ≤ 1000000)
    (hc : 0 ≤ alw s → ∀ x, Q (alw s) (pf σ 1 13 x))
    (hm : alw s = -1 → eno en s false = none → σ.1 3 15 = 0 ∧ ¬ σ.1 3 16 = 0 → ∀ x, Q (-1) (pf (pf σ 1 13 x) 3 14 (σ.1 3 14 + 1)))
    (h9 : alw s = -1 → eno en s false = none → ¬ (σ.1 3 15 = 0 ∧ ¬ σ.1 3 16 = 0) → ∀ x, Q (-1) (flt (pf σ 1 13 x) 9))
    (he : alw s = -1 → ∀ i, eno en s false = some i → ∀ x, w_Entities_enter L (i : Int) a1 (fun σ20 => Q (-1) σ20) (pf σ 1 13 x)) : w_Entities_mean L a1 Q σ := by
  have hL114 : L 114 = L 102 := hln.2.2.2.2.2.1.1
  have hj := hZ.1.jw_le
  have hcs := hZ.2.2.1
  unfold w_Entities_mean
  rw [if_pos h7]
  -- what comes when it is none of the five
  have hgo : ∀ (v : Int) (x : Int), alw s = -1 → (v = -1 ∨ 0 ≤ v ∧ v < (L 102 : Int)) → (if v = -1 then (0 : Int) else σ.2 114 v.toNat) = en1 (eno en s false) → (¬ (¬ v < 1 ∧ ¬ 5 < v)) → (if ¬ v < 1 ∧ (¬ 5 < v) then inR (v - 1) ∧ ((0 : Int) ≤ (v - 1) ∧ (v - 1) < tN 1046) ∧ Q (tC 1046 (v - 1)) (pf σ 1 13 x) else ((¬ v = (-1) → inL L 114 v)) ∧ WJ (fun (s9 : Unit) (σ10 : IS) => Q (-1) σ10) (fun J7 => if (if v = (-1) then (0 : Int) else ((pf σ 1 13 x).2 114 (Int.toNat v))) = 0 then if ((pf σ 1 13 x).1 3 15) = 0 ∧ (¬ ((pf σ 1 13 x).1 3 16) = 0) then inR (((pf σ 1 13 x).1 3 14) + 1) ∧ J7 () (pf (pf σ 1 13 x) 3 14 (((pf σ 1 13 x).1 3 14) + 1)) else w_Reader_fail L 9 (fun σ13 => J7 () σ13) (pf σ 1 13 x) else inR ((if v = (-1) then (0 : Int) else ((pf σ 1 13 x).2 114 (Int.toNat v))) - 1) ∧ w_Entities_enter L ((if v = (-1) then (0 : Int) else ((pf σ 1 13 x).2 114 (Int.toNat v))) - 1) a1 (fun σ20 => J7 () σ20) (pf σ 1 13 x))) := by
    intro v x hal hv hlk hn5
    rw [if_neg hn5]
    refine ⟨fun hv1 => ⟨by omega, by omega⟩, ?_⟩
    refine WJ_dir ?_
    dsimp only
    have hlk' : (if v = (-1) then (0 : Int) else ((pf σ 1 13 x).2 114 (Int.toNat v))) = en1 (eno en s false) := hlk
    rw [hlk', pf_no (by decide), pf_no (by decide), pf_no (by decide)]
    cases hE : eno en s false with
    | none =>
      rw [if_pos (show en1 none = 0 from rfl)]
      by_cases c : σ.1 3 15 = 0 ∧ ¬ σ.1 3 16 = 0
      · rw [if_pos c]
        exact ⟨⟨by omega, by omega⟩, hm hal hE c x⟩
      · rw [if_neg c]
        exact sp_Reader_fail (h9 hal hE c x)
    | some i =>
      have e1 : en1 (some i) = (i : Int) + 1 := rfl
      rw [e1, if_neg (by omega), show (i : Int) + 1 - 1 = (i : Int) by omega]
      have hi : i < 1000000 := by
        rcases hv with hv | hv
        · rw [if_pos hv, hE, e1] at hlk; omega
        · by_cases hv1 : v = -1
          · omega
          · rw [if_neg hv1, hE, e1] at hlk
            by_cases hw : v.toNat < jw σ
            · -- the number is small, for entities are few: not needed here
              by_cases hi2 : i < 1000000
              · exact hi2
              · exfalso
                have := (he hal i hE 0)
                unfold w_Entities_enter at this
                have h108 := this.1.2
                have hL := hln.2.2.2.2.1 108 (by omega) (by omega)
                have hrm := hln.2.1
                omega
            · have h0 := hW.2.1 v.toNat (by omega) (by have : L 102 = L 155 := hln.1.2.2.2.1; omega)
              omega
      exact ⟨⟨by omega, by omega⟩, he hal i hE x⟩
  refine sp_Store_find hZ.1 hln.1 hb (fun w hw hws => ?_) (fun hno => ?_)
  · rw [hs] at hws
    by_cases c5 : 1 ≤ w ∧ w ≤ 5
    · have hwt : s = ti (1065 + (w - 1)) := by
        rw [← hws, hcs.2 w (by omega), show 1064 + w = 1065 + (w - 1) by omega]
      have h5 := five_w (w - 1) (by omega)
      rw [← hwt] at h5
      rw [if_pos ⟨by omega, by omega⟩]
      refine ⟨⟨by omega, by omega⟩, ⟨by omega, by rw [five_n]; omega⟩, ?_⟩
      rw [show (w : Int) - 1 = ((w - 1 : Nat) : Int) by omega, ← h5.2]
      exact hc h5.1 _
    · refine hgo w _ ?_ (Or.inr ⟨by omega, by omega⟩) ?_ (by omega)
      · rcases alw_or s with h | ⟨k, hk, hk2⟩
        · exact h
        · exfalso
          have hw2 := hcs.2 (k + 1) (by omega)
          rw [show 1064 + (k + 1) = 1065 + k by omega, ← hk2] at hw2
          have := hZ.1.2.2.2 w (k + 1) hw (by omega) (by rw [hws, hw2])
          omega
      · rw [if_neg (by omega), show ((w : Int)).toNat = w by omega, hW.1 w (by omega), hws]
  · rw [hs] at hno
    refine hgo (-1) _ ?_ (Or.inl rfl) ?_ (by omega)
    · rcases alw_or s with h | ⟨k, hk, hk2⟩
      · exact h
      · exfalso
        have hw2 := hcs.2 (k + 1) (by omega)
        rw [show 1064 + (k + 1) = 1065 + k by omega, ← hk2] at hw2
        exact hno (k + 1) (by omega) hw2
    · rw [if_pos rfl]
      refine Classical.byContradiction (fun hz => ?_)
      obtain ⟨w, hw1, hw2⟩ := hW.2.2 s (fun e => hz e.symm)
      exact hno w (by omega) hw2
theorem sp_mean_num {Q : Int → IS → Prop} {a1 N : Int} (h7 : σ.1 2 7 = clmp 1114112 N) (hN : 0 ≤ N) (h1 : isCh N = true → Q N σ) (h0 : isCh N = false → Q (-1) (flt σ 12)) : w_Entities_mean L a1 Q σ := by
  unfold w_Entities_mean
  have hcl := clmp_in hN
  have hne : ¬ σ.1 2 7 = -1 := by
    rw [h7]
    unfold clmp
    split <;> omega
  rw [if_neg hne, h7]
  refine sp_Reader_isCharacter ?_
  have hch : isCh (clmp 1114112 N) = isCh N := isCh_clamp (by omega)
  rw [if_b1, hch]
  cases c : isCh N with
  | true =>
    have := isCh_le c
    have e1 : clmp 1114112 N = N := by unfold clmp; rw [if_neg (by omega)]
    rw [if_pos rfl, h7, e1]
    exact h1 c
  | false =>
    rw [if_neg (by decide)]
    exact sp_Reader_fail (h0 c)
end JMe
