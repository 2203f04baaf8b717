/-! ===== the reference: the end of a text, from what the loop keeps ===== -/
section Kfd
variable {L : Nat → Nat} {rm nd o : Nat} {σ ρ : IS} {g : KG} {a : AS} {Q : IS → Prop} {bk : List Str}
theorem sm_0f {P : Nat → Bool} {f : Nat → Nat} (h : ∀ d, f d = 0) : ∀ n, sm P f n = 0
  | 0 => rfl
  | n + 1 => by rw [sm_s, sm_0f h n, h n]; split <;> rfl
theorem vv_z {k : Nat} (hk : k = 1 ∨ k = 11 ∨ k = 12 ∨ k = 16 ∨ k = 18 ∨ k = 21 ∨ k = 22) : vv a k = 0 := by
  unfold vv
  rw [sn_0 (fun i => ?_), if_neg (show ¬ k = 20 by omega)]
  · have h2 : dAs (aA a) k = 0 := by
      unfold dAs
      have : ∀ l : List Nat, (l.map (fun j => dvD ((aA a).take j) ((aA a).getD j adD) k)).sum = 0 := by
        intro l
        induction l with
        | nil => rfl
        | cons x r ih =>
          rw [List.map_cons, List.sum_cons, ih]
          unfold dvD
          rw [if_neg (by omega), if_neg (by omega), if_neg (by omega), if_neg (by omega), if_neg (by omega)]
      exact this _
    have h3 : cnT (aA a) (aB a) (aL a) k = 0 := by
      unfold cnT
      rw [gsm_0 (fun i => ?_), if_neg (show ¬ k = 9 by omega)]
      unfold tga
      split
      · rw [if_neg (by omega)]
      · rw [if_neg (by omega), if_neg (by omega)]
    have h4 : clS (aD a) (aL a) (aO a) k = 0 := by
      unfold clS
      refine sm_0f (fun i => ?_) _
      unfold clq
      split
      · rw [if_neg (by omega)]
      · rw [if_neg (fun z => by have := z.1; omega)]
    rw [h2, h3, h4]
  · unfold ct3 ctE
    rw [if_neg (by omega), if_neg (by omega), if_neg (by omega), if_neg (by omega), if_neg (by omega)]
theorem ltS_le {s : Str} : ∀ {l : List Str}, s ∈ l → s.length ≤ ltS l
  | [], h => by cases h
  | x :: r, h => by
    rw [ltS_cons]
    rcases List.mem_cons.mp h with z | z
    · rw [z]; omega
    · have := ltS_le z; omega
theorem pfN_mem {el : List Elm} {s : Str} : ∀ n, n ≤ el.length → s ∈ pfN el n → ∃ x ∈ el.map e5, s ∈ (plk x.1).take 1
  | 0, _, h => by cases h
  | n + 1, hn, h => by
    rcases List.mem_append.mp h with z | z
    · exact pfN_mem n (by omega) z
    · refine ⟨e5 (el.getD n elD), List.mem_map.mpr ⟨_, ?_, rfl⟩, z⟩
      rw [List.getD_eq_getElem?_getD, List.getElem?_eq_getElem (by omega)]
      exact List.getElem_mem _
theorem ivL_mem {ad : List ADc} {at_ : List Att} {s : Str} : ∀ n, n ≤ at_.length → s ∈ ivL ad at_ n → ∃ x ∈ at_, s = x.2.1 ∧ x.2.2 ≠ none
  | 0, _, h => by cases h
  | n + 1, hn, h => by
    unfold ivL at h
    split at h
    · rename_i c
      rcases List.mem_append.mp h with z | z
      · exact ivL_mem n (by omega) z
      · refine ⟨at_.getD n atD, ?_, List.mem_singleton.mp z, fun y => ?_⟩
        · rw [List.getD_eq_getElem?_getD, List.getElem?_eq_getElem (by omega)]
          exact List.getElem_mem _
        · unfold atT at c
          rw [y] at c
          cases c
    · exact ivL_mem n (by omega) h
theorem GZ.vals (h : GZ rm nd a bk) (hrm : rm ≤ 98304) : ∀ x ∈ aB a, x.2.1.length ≤ 98304 := fun x hx => by
  obtain ⟨h1, -, -, -, -, -, -, -, X, M, V, U, h9, ⟨-, -, ⟨v1, v2⟩, -, -, hB⟩⟩ := h
  have := ltS_le (hB x hx).2.1
  have hN0 : aN a 0 ≤ 98304 := by have := h1.1.2.2.1; omega
  omega
theorem GZ.fcap (h : GZ rm nd a bk) (hrm : rm ≤ 98304) (hn : bk.Nodup) : kcL bk (fnL a) := by
  obtain ⟨h1, -, -, -, -, -, -, -, X, M, V, U, h9, ⟨⟨m1, m2⟩, b1', ⟨v1, v2⟩, hA, hL, hB⟩⟩ := h
  have h8 := h1.1.2.2.1.2.2.2
  have hN0 : aN a 0 ≤ 98304 := by have := h1.1.2.2.1; omega
  have hM : ltS M ≤ 65536 := by
    have h2 := ltS_sub m1 m2
    have h3 := ltS_W (l := X.1)
    have h4 : tw1 X = Wn X.1 := rfl
    have h5 := h9.1.1
    omega
  have h3 := LLm_lt (M := M)
  refine kcL_of (U := U) (M := LLm M ++ V) hn (fun s hs => (b1' s hs).2) (fun s hs => ?_) (by omega) (fun s hs => List.mem_append_left _ (b1' s hs).1) (fun s hs => ?_) (by rw [ltS_app]; omega)
  · unfold fnL at hs
    rcases List.mem_append.mp hs with z | z
    · split at z
      · obtain ⟨x, x1, x2, x3⟩ := ivL_mem _ (Nat.le_refl _) z
        rw [x2]; exact (hB x x1).2.2 x3
      · cases z
    · obtain ⟨x, x1, x2⟩ := pfN_mem _ (Nat.le_refl _) z
      exact (hL x x1).2 s x2
  · unfold fnL at hs
    rcases List.mem_append.mp hs with z | z
    · split at z
      · obtain ⟨x, x1, x2, x3⟩ := ivL_mem _ (Nat.le_refl _) z
        rw [x2]; exact List.mem_append_right _ (hB x x1).2.1
      · cases z
    · obtain ⟨x, x1, x2⟩ := pfN_mem _ (Nat.le_refl _) z
      exact List.mem_append_left _ (LLm_plk (hL x x1).1 (List.mem_of_mem_take x2))
theorem PDx_of (hV : GV a) (hN : GN a) (hM : GM a) (hB : (aB a).length ≤ L (rfo o 8)) (hE : (aL a).length ≤ 16384) : PDx L o a := by
  have hg : ∀ i, i < (aL a).length → (aL a).getD i elD ∈ aL a := fun i hi => by
    rw [List.getD_eq_getElem?_getD, List.getElem?_eq_getElem hi]
    exact List.getElem_mem _
  refine ⟨fun i hi => ?_, fun i hi => ⟨?_, hN.dst (hg i hi)⟩, hB, hE, hM⟩
  · have := hV.2 i (e5 ((aL a).getD i elD)) (by
      rw [List.getElem?_map, List.getElem?_eq_getElem hi, List.getD_eq_getElem?_getD, List.getElem?_eq_getElem hi]
      rfl)
    exact this
  · exact (hN.2 (e5 ((aL a).getD i elD)) (List.mem_map.mpr ⟨_, hg i hi, rfl⟩)).1
theorem RK.fn (h : RK rm nd o σ g a) : KFn rm nd o σ g a := by
  obtain ⟨h1, -, -, -, h5, h6, h7, h8, h9, -, h11, h12, -⟩ := h
  exact ⟨h1, h5, h6, h7, h8, h9, h11, h12⟩
theorem sp_K_finD (hL : KLn L o rm nd) (hrm : rm ≤ 98304) (hnd : nd ≤ 16384) (h : RK rm nd o ρ g a) (hC : KC rm g a) (hI : INVd rm nd a (gB g) (gV g)) (hM : GM a) (hf : fin a = true)
    (hq : ∀ τ v, KFn rm nd o τ (kpL (gB g) (fnL a), gC g, gP g, v) a → (∀ k, k < 23 → v k = cnV a k) → R19 o τ (cnS a) → τ.1 16 3 = 0 → τ.1 16 4 = -1 → τ.1 o 21 = (aN a 0 : Int) → (∀ p k, ¬ (p = 13 ∧ (k = 1 ∨ k = 6)) → ¬ (p = 16 ∧ k = 4) → ¬ (p = o ∧ k = 21) → τ.1 p k = ρ.1 p k) → (∀ r, ¬ (211 ≤ r ∧ r ≤ 215) → r ≠ rfo o 18 → r ≠ rfo o 19 → r ≠ 188 → τ.2 r = ρ.2 r) → Q τ) :
    dyD (ρ.1 16 2) ∧ w_KReader_finish L Q (pf (pf ρ 16 4 (-1)) (Int.toNat (ρ.1 16 2)) 21 (ρ.1 16 25)) := by
  have ho := hL.2.1
  have hdyo : dyD (o : Int) := by unfold dyD; rcases ho with y | y <;> rw [y] <;> decide
  have hF := h.fn
  have e2 : ρ.1 16 2 = (o : Int) := hF.1.2.2.2.2.1.1
  have hnu := h.2.2.2.1
  have h3 : ρ.1 16 3 = 0 := h.2.2.2.2.2.2.2.2.2.2.2.2.1
  have hpl := h.2.2.2.2.2.2.2.2.2.2.2.2.2
  obtain ⟨hZ, hvv⟩ := hI
  have hGK := hZ.gk hrm
  have hGS : GS a := hZ.2.2.1
  have hGQ : GQ a := hZ.2.2.2.2.2.2.1
  obtain ⟨f1, f2, f3⟩ := fin_of hf hZ.1
  obtain ⟨⟨k1, k2⟩, ⟨k3, k4⟩, ⟨k5, k6⟩, -, -, -, -, ⟨-, k8, k9, k10⟩, -⟩ := hGK
  have l8 : 16500 ≤ L (rfo o 8) := by obtain ⟨-, -, -, -, -, -, -, -, -, -, -, -, -, -, -, -, -, ⟨-, x, -⟩, -⟩ := hL; exact x
  have l1 : rm ≤ L (rfo o 1) := by obtain ⟨-, -, -, -, -, -, -, -, -, -, -, -, -, -, -, -, ⟨x, -⟩, -⟩ := hL; exact x
  have hls : nLs (aD a) (aA a) ≤ 50000 := by have := hGQ.2.1; omega
  have hfl : ∀ p k, ¬ (p = 16 ∧ k = 4) → ¬ (p = o ∧ k = 21) → (pf (pf ρ 16 4 (-1)) o 21 (ρ.1 16 25)).1 p k = ρ.1 p k := fun p k y1 y2 => by
    rw [pf_1, if_neg y2, pf_1, if_neg y1]
  have hrw : (pf (pf ρ 16 4 (-1)) o 21 (ρ.1 16 25)).2 = ρ.2 := rfl
  rw [e2, show Int.toNat (o : Int) = o from rfl]
  refine ⟨hdyo, ?_⟩
  have h4 : (pf (pf ρ 16 4 (-1)) o 21 (ρ.1 16 25)).1 16 4 = -1 := by
    rw [pf_1, if_neg (by omega), pf_1, if_pos ⟨rfl, rfl⟩]
  have h21 : (pf (pf ρ 16 4 (-1)) o 21 (ρ.1 16 25)).1 o 21 = (aN a 0 : Int) := by
    rw [pf_1, if_pos ⟨rfl, rfl⟩]; exact hnu.1
  generalize pf (pf ρ 16 4 (-1)) o 21 (ρ.1 16 25) = ρ1 at *
  have hF1 : KFn rm nd o ρ1 g a := hF.dep ho (hF.1.dep ho (fun p k y => hfl p k (by omega) (by omega)) (fun r _ => by rw [hrw])) kle.refl rfl (fun p k _ y1 y2 => hfl p k y1 y2) (fun r _ _ _ _ => by rw [hrw])
  refine sp_K_finish hL hF1 (PDx_of hZ.2.1 hZ.2.2.2.2.2.1 hM (by omega) (by omega)) (by have := hC.1; omega) (fun k hk => ?_) (by omega) (hZ.fcap hrm hF.1.2.1) hGS (fun _ => by omega) (fun s _ => ?_) (fun τ v q1 q2 q3 q4 q5 => ?_)
  · rw [hrw]
    by_cases c5 : k = 5
    · rw [c5]; exact hnu.2.1
    · dsimp only
      rw [if_neg c5]
      exact hnu.2.2.2.2.2.2 k (by omega)
  · exact ⟨f1, List.length_pos_iff.mpr f2, k10, k9, k8, hls, by rw [hfl 16 58 (by omega) (by omega), hpl.2.2.2]; omega, hZ.vals hrm, hvv, hC.2.2.2, vv_z (by omega), vv_z (by omega), vv_z (by omega), vv_z (by omega), vv_z (by omega), vv_z (by omega), vv_z (by omega)⟩
  · refine hq τ v q1 q2 q3 (by rw [q4 16 3 (by omega), hfl 16 3 (by omega) (by omega)]; exact h3) (by rw [q4 16 4 (by omega)]; exact h4) (by rw [q4 o 21 (by omega)]; exact h21) (fun p k y1 y2 y3 => by rw [q4 p k y1]; exact hfl p k y2 y3) (fun r y1 y2 y3 y4 => by rw [q5 r y1 y2 y3 y4, hrw])
end Kfd
