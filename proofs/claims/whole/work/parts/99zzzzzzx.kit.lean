/-! ===== the reference: one item ===== -/
section Kit1
variable {L : Nat → Nat} {rm nd o : Nat} {σ : IS} {g : KG} {a : AS} {Q : IS → Prop}
theorem iSub_d : iSub rm nd a = if dSub a = 0 then iSpc a else if dSub a = 1 then iPrf rm a else if dSub a = 2 then iSbe a else if dSub a = 3 then iCmt a else if dSub a = 4 then iPin nd false a else if dSub a = 5 then iEld a else if dSub a = 6 then iAtl rm a else if dSub a = 7 then iEnt a else if dSub a = 8 then iNot a else .inl 6 := by
  unfold iSub dSub
  by_cases c0 : isSp (gd (cur a) 0) = true
  · rw [if_pos c0, if_pos c0]; rfl
  · rw [if_neg c0, if_neg c0]
    by_cases c1 : gd (cur a) 0 = 37
    · rw [if_pos c1, if_pos c1]; rfl
    · rw [if_neg c1, if_neg c1]
      by_cases c2 : gd (cur a) 0 = 93 ∧ (aF a).length = 1
      · rw [if_pos c2, if_pos c2]; rfl
      · rw [if_neg c2, if_neg c2]
        by_cases c3 : mt (gd (cur a)) (cur a).length 0 [60, 33, 45, 45] = true
        · rw [if_pos c3, if_pos c3]; rfl
        · rw [if_neg c3, if_neg c3]
          by_cases c4 : mt (gd (cur a)) (cur a).length 0 [60, 63] = true
          · rw [if_pos c4, if_pos c4]; rfl
          · rw [if_neg c4, if_neg c4]
            by_cases c5 : mt (gd (cur a)) (cur a).length 0 [60, 33, 69, 76, 69, 77, 69, 78, 84] = true
            · rw [if_pos c5, if_pos c5]; rfl
            · rw [if_neg c5, if_neg c5]
              by_cases c6 : mt (gd (cur a)) (cur a).length 0 [60, 33, 65, 84, 84, 76, 73, 83, 84] = true
              · rw [if_pos c6, if_pos c6]; rfl
              · rw [if_neg c6, if_neg c6]
                by_cases c7 : mt (gd (cur a)) (cur a).length 0 [60, 33, 69, 78, 84, 73, 84, 89] = true
                · rw [if_pos c7, if_pos c7]; rfl
                · rw [if_neg c7, if_neg c7]
                  by_cases c8 : mt (gd (cur a)) (cur a).length 0 [60, 33, 78, 79, 84, 65, 84, 73, 79, 78] = true
                  · rw [if_pos c8, if_pos c8]; rfl
                  · rw [if_neg c8, if_neg c8]
                    rfl
theorem iCon_d : iCon rm nd a = if dCon a = 0 then iRef rm a else if dCon a = 1 then iRun a else if dCon a = 2 then iEnd a else if dCon a = 3 then iCmt a else if dCon a = 4 then iPin nd true a else if dCon a = 5 then iSec a else if dCon a = 6 then .inl 6 else iTag rm nd a := by
  unfold iCon dCon
  by_cases c0 : gd (cur a) 0 = 38
  · rw [if_pos c0, if_pos c0]; rfl
  · rw [if_neg c0, if_neg c0]
    by_cases c1 : gd (cur a) 0 ≠ 60
    · rw [if_pos c1, if_pos c1]; rfl
    · rw [if_neg c1, if_neg c1]
      by_cases c2 : mt (gd (cur a)) (cur a).length 0 [60, 47] = true
      · rw [if_pos c2, if_pos c2]; rfl
      · rw [if_neg c2, if_neg c2]
        by_cases c3 : mt (gd (cur a)) (cur a).length 0 [60, 33, 45, 45] = true
        · rw [if_pos c3, if_pos c3]; rfl
        · rw [if_neg c3, if_neg c3]
          by_cases c4 : mt (gd (cur a)) (cur a).length 0 [60, 63] = true
          · rw [if_pos c4, if_pos c4]; rfl
          · rw [if_neg c4, if_neg c4]
            by_cases c5 : mt (gd (cur a)) (cur a).length 0 [60, 33, 91, 67, 68, 65, 84, 65, 91] = true
            · rw [if_pos c5, if_pos c5]; rfl
            · rw [if_neg c5, if_neg c5]
              by_cases c6 : mt (gd (cur a)) (cur a).length 0 [60, 33, 68, 79, 67, 84, 89, 80, 69] = true
              · rw [if_pos c6, if_pos c6]; rfl
              · rw [if_neg c6, if_neg c6]
                rfl
theorem iOut_d : iOut rm nd a = if dOut a = 0 then iSpc a else if dOut a = 1 then iCmt a else if dOut a = 2 then iPin nd true a else if dOut a = 3 then .inl 6 else if dOut a = 4 then iTag rm nd a else iDtd a := by
  unfold iOut dOut
  by_cases c0 : isSp (gd (cur a) 0) = true
  · rw [if_pos c0, if_pos c0]; rfl
  · rw [if_neg c0, if_neg c0]
    by_cases c1 : mt (gd (cur a)) (cur a).length 0 [60, 33, 45, 45] = true
    · rw [if_pos c1, if_pos c1]; rfl
    · rw [if_neg c1, if_neg c1]
      by_cases c2 : mt (gd (cur a)) (cur a).length 0 [60, 63] = true
      · rw [if_pos c2, if_pos c2]; rfl
      · rw [if_neg c2, if_neg c2]
        by_cases c3 : aN a 4 = 3 ∨ gd (cur a) 0 ≠ 60 ∨ mt (gd (cur a)) (cur a).length 0 [60, 47] = true ∨ mt (gd (cur a)) (cur a).length 0 [60, 33, 91, 67, 68, 65, 84, 65, 91] = true
        · rw [if_pos c3, if_pos c3]; rfl
        · rw [if_neg c3, if_neg c3]
          by_cases c4 : mt (gd (cur a)) (cur a).length 0 [60, 33, 68, 79, 67, 84, 89, 80, 69] = false
          · rw [if_pos c4, if_pos c4]; rfl
          · rw [if_neg c4, if_neg c4]
            by_cases c5 : (aR a).isSome = true
            · rw [if_pos c5, if_pos c5]; rfl
            · rw [if_neg c5, if_neg c5]
              rfl
/-- the strings that an item keeps -/
noncomputable def stN (rm : Nat) (a : AS) : List Str := if cur a = [] then [] else
  if aN a 4 = 1 then (if dSub a = 4 then nmP a else if dSub a = 5 then nmEl a else if dSub a = 6 then nmAl a else if dSub a = 7 then nmE a else if dSub a = 8 then nmN a else [])
  else if aN a 4 = 2 then (if dCon a = 4 then nmP a else if dCon a = 7 then nmT rm a else [])
  else (if dOut a = 2 then nmP a else if dOut a = 4 then nmT rm a else if dOut a = 5 then nmD a else [])
/-- what it violates -/
noncomputable def stV (rm : Nat) (a : AS) : Nat → Nat := if cur a = [] then (fun _ => 0) else
  if aN a 4 = 1 then (if dSub a = 5 then dvE a else if dSub a = 6 then dvAl rm a else if dSub a = 8 then dvN a else (fun _ => 0))
  else if aN a 4 = 2 then (if dCon a = 2 then clV a else if dCon a = 7 then dvT rm a else (fun _ => 0))
  else (if dOut a = 4 then dvT rm a else (fun _ => 0))
/-- what is wanted of the pure state -/
def KW (L : Nat → Nat) (o : Nat) (a : AS) : Prop := (aN a 4 = 1 → aB a = [] ∧ (kNs (aS a)).2 = false ∧ (cur a).length ≤ 65536) ∧ ((kNs (aS a)).1 + 2 ≤ 120000) ∧
  ((∀ y ∈ aL a, y.2.1 < ((aL a).length : Int)) ∧ (∀ y ∈ aL a, -1 ≤ y.2.1)) ∧ ((aN a 4 = 2 ∧ dCon a = 7) ∨ (aN a 4 ≠ 1 ∧ aN a 4 ≠ 2 ∧ dOut a = 4) → (aB a).length + tgn a + (aA a).length ≤ L (rfo o 8)) ∧ ((∀ d, d < (aA a).length → ∀ c ∈ ((aA a).getD d adD).2.1, isNm c = true) ∧ (∀ d, d < (aA a).length → ((aA a).getD d adD).2.2.2.1 ≤ 4) ∧ ∀ d, d < (aA a).length → ((aA a).getD d adD).2.2.1 ≤ 9) ∧
  (nLs (aD a) (aA a) ≤ 50000 ∧ nNd (aD a) ≤ 50000 ∧ (∀ x ∈ aD a, GDx x ∧ x.2.1 ≤ 3)) ∧ ((aD a).length < 8300 ∧ (aT a).length < 8300 ∧ (aE a).length < 8300 ∧ (aN a 4 = 1 → aN a 8 + aN a 0 ≤ 262144)) ∧
  (aN a 4 = 1 → dSub a = 5 → nNd (aD a) + elB a ≤ 50000 ∧ nLs (aD a) (aA a) + (nmX (gd (cur a)) (cur a).length (elc (gd (cur a)) (cur a).length 0)).length ≤ 50000) ∧
  (aN a 4 = 1 → dSub a = 6 → nLs (aD a) (aA a) + (adWo (gd (cur a)) (cur a).length (nmg (gd (cur a)) (cur a).length true (spc (gd (cur a)) (cur a).length (some 9)))).length ≤ 50000 ∧ ∀ s n k, spc (gd (cur a)) (cur a).length (some 9) = some s → nmg (gd (cur a)) (cur a).length true (some s) = some n → alk (gd (cur a)) (cur a).length 0 = some k → nLs (aD a) (aA a) + (adXn (gd (cur a)) (cur a).length ((cur a).length + 1) n).length ≤ 50000 ∧ ∃ P, PQ P (aA a) ∧ ∀ x ∈ adL (gd (cur a)) (cur a).length ((cur a).length + 1) n, (sl (gd (cur a)) s (n - s), nmx (gd (cur a)) (cur a).length x) ∈ P)
theorem mt_l0 {T : Nat → Int} {e : Nat} {l : List Int} (hl : ∀ c ∈ l, c ≠ -1) (h : mt T e 0 l = true) : l.length ≤ e := by
  have := mt_le l 0 hl (Nat.zero_le _) h; omega
theorem sp_K_item (hL : KLn L o rm nd) (h : RK rm nd o σ g a) (hG : GK rm nd a) (hC : KC rm g a) (hW : KW L o a) (hcap : kcL (gB g) (stN rm a)) (hV : ∀ k, gV g k ≤ 300000000) (hs : σ.1 16 15 ≤ 1000000)
    (hev : ∀ a', stp rm nd a = .inr a' → (kNs (aS a')).1 ≤ 120000) (hq : KO rm nd o σ g Q (stp rm nd a) (stN rm a) (stV rm a)) : w_KReader_item L Q σ := by
  by_cases hc0 : cur a = []
  · have e1 : stp rm nd a = iFin a := by unfold stp; rw [if_pos hc0]
    have e2 : stN rm a = [] := by unfold stN; rw [if_pos hc0]
    have e3 : stV rm a = fun _ => 0 := by unfold stV; rw [if_pos hc0]
    rw [e1, e2, e3] at hq
    exact qI_fin hL h hG hC hc0 hq
  · obtain ⟨p, q, t, hF', h1, h2, hK, hcs, hS, hp⟩ := h.at_ hL
    have hl0 : 0 < (cur a).length := List.length_pos_iff.mpr hc0
    have h19 : σ.1 16 19 = (aN a 4 : Int) := h.2.2.2.1.2.2.2.1
    obtain ⟨w1, w2, ⟨w3, w3'⟩, w4, ⟨w5, w6, w7⟩, ⟨w8, w9, w10⟩, ⟨w11, w12, w13, w14⟩, w15, w16⟩ := hW
    have hcl : KCl L rm nd o (aD a) := sp_K_close hL w10 (by omega) w9
    have hV8 : ∀ k, gV g k ≤ 800000000 := fun k => Nat.le_trans (hV k) (by omega)
    have e1 : stp rm nd a = if aN a 4 = 1 then iSub rm nd a else if aN a 4 = 2 then iCon rm nd a else iOut rm nd a := by unfold stp; rw [if_neg hc0]
    have hf6 : stp rm nd a = .inl 6 → Q (pf σ 16 3 6) := fun z => hq.1 6 z _ rfl rfl
    unfold stN at hcap hq
    unfold stV at hq
    rw [if_neg hc0] at hcap
    rw [if_neg hc0, if_neg hc0] at hq
    unfold w_KReader_item
    rw [if_neg (by rw [h1, h2]; omega)]
    refine WJ_dir ?_
    dsimp only
    by_cases hp1 : aN a 4 = 1
    · rw [if_pos (by omega)]
      rw [if_pos hp1] at hcap e1
      rw [if_pos hp1, if_pos hp1] at hq
      rw [e1] at hq hev hf6
      rw [iSub_d] at hq hev hf6
      have hO : aO a = [] := by
        refine Classical.byContradiction fun z => ?_
        have := hG.2.2.2.1.2.mpr z; omega
      refine qD_sub hL h hC hO hc0 ?_ ?_ ?_ ?_ ?_ ?_ ?_ ?_ ?_ ?_
      · intro z _
        rw [z] at hq
        exact hq
      · intro z m
        rw [z] at hq
        exact qI_cmt hL h hG hC (mt_l0 (by decide) m) hq
      · intro z m
        rw [z] at hq hcap hev
        exact qI_pin (cn := false) hL h hG hC (mt_l0 (by decide) m) (fun _ => hO) hev hcap rfl hq
      · intro z m
        rw [z] at hq
        exact qI_prf hL h hG hC hs hl0 hq
      · intro z m
        rw [z] at hq hcap
        exact qI_eld hL h hG hC (mt_l0 (by decide) m) (w1 hp1).2.2 w11 (w15 hp1 z).1 (w15 hp1 z).2 hV8 hcap hq
      · intro z m
        rw [z] at hq hcap
        exact qI_atl hL h hG hC (mt_l0 (by decide) m) hV (w1 hp1).1 (w1 hp1).2.1 (w16 hp1 z).1 (w16 hp1 z).2 hcap hq
      · intro z m
        rw [z] at hq hcap
        exact qI_ent hL h hG hC (mt_l0 (by decide) m) (w14 hp1) w13 hcap hq
      · intro z m
        rw [z] at hq hcap
        exact qI_not hL h hG hC (mt_l0 (by decide) m) (Nat.le_trans (hV 20) (by omega)) hcap w12 hq
      · intro z
        rw [z] at hq
        exact hq
      · intro z
        exact hf6 (by simp [z])
    · rw [if_neg (by omega)]
      rw [if_neg hp1] at hcap e1
      rw [if_neg hp1, if_neg hp1] at hq
      by_cases hp2 : aN a 4 = 2
      · rw [if_pos (by omega)]
        rw [if_pos hp2] at hcap e1
        rw [if_pos hp2, if_pos hp2] at hq
        rw [e1] at hq hev hf6
        rw [iCon_d] at hq hev hf6
        refine qD_con hL h hc0 ?_ ?_ ?_ ?_ ?_ ?_ ?_ ?_
        · intro z m
          rw [z] at hq
          exact qI_cmt hL h hG hC (mt_l0 (by decide) m) hq
        · intro z m
          rw [z] at hq hev
          exact qI_sec hL h hG hC hp2 (mt_l0 (by decide) m) hev hq
        · intro z
          exact hf6 (by simp [z])
        · intro z m
          rw [z] at hq
          exact qI_end hL h hG hC (mt_l0 (by decide) m) hp2 (by omega) hV8 w3' w8 hcl hq
        · intro z m
          rw [z] at hq hcap hev
          exact qI_pin (cn := true) hL h hG hC (mt_l0 (by decide) m) (fun z => (by cases z)) hev hcap rfl hq
        · intro z m
          rw [z] at hq hcap
          exact qI_tag hL h hG hC hl0 w2 hcap hV8 w3 w3' (w4 (Or.inl ⟨hp2, z⟩)) w5 w6 w7 w8 hcl hq
        · intro z m
          rw [z] at hq hev
          exact qI_ref hL h hG hC (Nat.le_trans (hV 22) (by omega)) hp2 hs hev hq
        · intro z m m2
          rw [z] at hq hev
          exact qI_run hL h hG hC hp2 hev hq
      · rw [if_neg (by omega)]
        rw [if_neg hp2] at hcap e1
        rw [if_neg hp2, if_neg hp2] at hq
        rw [e1] at hq hev hf6
        rw [iOut_d] at hq hev hf6
        refine qD_out hL h hC hc0 ?_ ?_ ?_ ?_ ?_ ?_
        · intro z _
          rw [z] at hq
          exact hq
        · intro z m
          rw [z] at hq
          exact qI_cmt hL h hG hC (mt_l0 (by decide) m) hq
        · intro z m
          rw [z] at hq hcap hev
          exact qI_pin (cn := true) hL h hG hC (mt_l0 (by decide) m) (fun z => (by cases z)) hev hcap rfl hq
        · intro z m
          rw [z] at hq hcap
          exact qI_dtd hL h hC (mt_l0 (by decide) m) hcap hq
        · intro z m _
          rw [z] at hq hcap
          exact qI_tag hL h hG hC hl0 w2 hcap hV8 w3 w3' (w4 (Or.inr ⟨hp1, hp2, z⟩)) w5 w6 w7 w8 hcl hq
        · intro z
          exact hf6 (by simp [z])
end Kit1
