/-! ===== judge, side by side ===== -/
section Pj
variable {L L' : Nat → Nat} {rm nd S : Nat} {σ τ : IS} {a : AS} {d : DOC} {F P : List Int}
theorem LE.jln (h : LE L L') (h9 : L' 999 ≤ 1000000000) (hJ : JLn L rm nd) : JLn L' rm nd := by
  unfold JLn SL at hJ ⊢
  obtain ⟨⟨a1, a2, a3, a4, a5, a6, a7, a8⟩, ⟨b1, b2, b3, b4, -⟩, c1, c2, c3, ⟨d1, d2, d3, d4, d5⟩, ⟨e1, e2, e3⟩, ⟨f1, f2⟩, g1, g2, ⟨i1, i2, i3⟩, i4⟩ := hJ
  have E : ∀ r, r < 900 → L' r = L r := h
  rw [E 101 (by decide), E 102 (by decide), E 103 (by decide), E 104 (by decide), E 105 (by decide), E 106 (by decide), E 155 (by decide), E 114 (by decide), E 115 (by decide), E 125 (by decide), E 126 (by decide), E 127 (by decide), E 116 (by decide), E 117 (by decide), E 147 (by decide), E 148 (by decide), E 124 (by decide), E 128 (by decide), E 146 (by decide), E 161 (by decide), E 136 (by decide)]
  exact ⟨⟨a1, a2, a3, a4, a5, a6, a7, a8⟩, ⟨b1, b2, b3, b4, h9⟩, c1, c2, fun r y1 y2 => by rw [E r (by omega)]; exact c3 r y1 y2, ⟨d1, d2, d3, d4, d5⟩, ⟨e1, e2, e3⟩, ⟨fun r y1 y2 => by rw [E r (by omega)]; exact f1 r y1 y2, f2⟩, g1, g2, ⟨fun r y1 y2 => by rw [E r (by omega)]; exact i1 r y1 y2, i2, i3⟩, i4⟩
theorem LE.jlm (h : LE L L') (hJ : JLm L) : JLm L' := by
  unfold JLm at hJ ⊢
  rw [h 156 (by decide), h 102 (by decide), h 158 (by decide)]
  exact hJ
theorem LE.jls (h : LE L L') (hJ : JLs L nd) : JLs L' nd := by
  unfold JLs at hJ ⊢
  rw [h 157 (by decide), h 102 (by decide), h 159 (by decide), h 160 (by decide)]
  exact hJ
theorem LE.jlv (h : LE L L') (hJ : JLv L rm nd) : JLv L' rm nd := by
  unfold JLv MLn at hJ ⊢
  obtain ⟨hm, hr⟩ := hJ
  rw [h 149 (by decide), h 150 (by decide), h 151 (by decide), h 152 (by decide), h 153 (by decide), h 154 (by decide)]
  refine ⟨?_, hr⟩
  simp only [h _ (show (137 : Nat) < 900 by decide), h _ (show (138 : Nat) < 900 by decide), h _ (show (139 : Nat) < 900 by decide), h _ (show (140 : Nat) < 900 by decide), h _ (show (141 : Nat) < 900 by decide), h _ (show (142 : Nat) < 900 by decide), h _ (show (143 : Nat) < 900 by decide), h _ (show (144 : Nat) < 900 by decide), h _ (show (145 : Nat) < 900 by decide)]
  exact hm
theorem dcJ_ext {B C : Nat → Int} {n : Nat} (h : ∀ i, i < n → B i = C i) : dcJ rm nd B n = dcJ rm nd C n ∧ anJ rm nd B n = anJ rm nd C n := by
  unfold dcJ anJ
  rw [jdg_ext h]
  exact ⟨rfl, rfl⟩
theorem pr_judge (hL : LLs L rm nd) (hS : S ≤ 1000000000) (h : NX L rm nd S σ d F P) : ∃ L', LE L L' ∧ (∀ r, L' r < 1073741824) ∧ w_J_judge L' (fun v τ => w_K_judge L (fun v' υ => v' = v ∧ ∃ d', NX L rm nd (S + 1000000) υ d' [] P) τ) σ := by
  obtain ⟨⟨j1, j2, j3, D, p1, p2, p3, p4, p5, p6⟩, hk, hg⟩ := h
  obtain ⟨f1, f2, f3, f4⟩ := j3
  have hjbg := j1.2.2.2.2.2.2.2
  -- the length of the text
  obtain ⟨tl, htl, ht6⟩ : ∃ tl, (∀ w, ldT (fun i => ia (σ.2 100 i) 255) F.length = .inr w → (nle w).length = tl) ∧ tl ≤ 65536 := by
    cases hld : ldT (fun i => ia (σ.2 100 i) 255) F.length with
    | inl p => exact ⟨0, fun w hw => (by cases hw), Nat.zero_le _⟩
    | inr w0 =>
      refine ⟨(nle w0).length, fun w hw => by cases hw; rfl, ?_⟩
      have h1 := ldT_len hld
      have h2 := nle_len w0 ([], false)
      rw [show (w0.foldl nlc ([], false)).1 = nle w0 from rfl, List.length_nil] at h2
      omega
  have hle : LE L (LJ L (σ.1 1 2).toNat tl S) := LJ_le
  refine ⟨LJ L (σ.1 1 2).toNat tl S, hle, LJ_b hL.2.2.2.2.2.2.2.2.2.2.2 (by omega) ht6 hS, ?_⟩
  have e7 : LJ L (σ.1 1 2).toNat tl S 997 = (σ.1 1 2).toNat := rfl
  have e8 : LJ L (σ.1 1 2).toNat tl S 998 = (σ.1 1 2).toNat + tl := rfl
  have e9 : LJ L (σ.1 1 2).toNat tl S 999 = S := rfl
  have e100 : LJ L (σ.1 1 2).toNat tl S 100 = L 100 := rfl
  generalize LJ L (σ.1 1 2).toNat tl S = L' at *
  refine fm_J_judge (m := mkJ) (σ0 := σ) mkJ_M (Q := fun v τ => v = anJ rm nd (fun i => ia (σ.2 100 i) 255) F.length ∧ JI L' rm nd (L' 999 + 1000000) τ ∧ τ.1 0 1 = 0 ∧ JDc L' rm nd τ (dcJ rm nd (fun i => ia (σ.2 100 i) 255) F.length)) (fun v τ hF hQ => ?_) FP.refl ?_
  · obtain ⟨rfl, q1, q2, q3⟩ := hQ
    have hIJ : IJ L rm nd (S + 1000000) τ (dcJ rm nd (fun i => ia (σ.2 100 i) 255) F.length) [] P := ⟨by rw [e9] at q1; exact hle.symm.ji q1, hle.symm.dc q3, ⟨q2, Nat.zero_le _, fun i hi => absurd hi (Nat.not_lt_zero _), fun b hb => (by cases hb)⟩, D, p1, by rw [hF.1 11 3 (mkJ_t (by omega))]; exact p2, by rw [hF.1 11 5 (mkJ_t (by omega))]; exact p3, by rw [hF.1 11 4 (mkJ_t (by omega))]; exact p4, p5, by rw [hF.2 D (mkJ_t (by omega))]; exact p6⟩
    have hIK : IK rm nd τ d F P := hk.dep (fun o k y1 y2 => hF.1 o k (mkJ_t (by omega))) (fun r y1 y2 => hF.2 r (mkJ_t (by omega)))
    obtain ⟨k1, ⟨g1, g2, g3, g4⟩, ⟨r1, r2, r3⟩, k4, k5, k6, k7⟩ := hIK
    have hBB : ∀ i, i < F.length → (fun i => ia (τ.2 165 i) 255) i = (fun i => ia (σ.2 100 i) 255) i := fun i hi => by
      dsimp only
      rw [g3 i hi, f3 i hi]
    obtain ⟨x1, x2⟩ := dcJ_ext (rm := rm) (nd := nd) hBB
    refine sp_K_judge (B := fun i => ia (τ.2 165 i) 255) (n := F.length) hL.2.2.2.2.2.1 (by have := hL.1.2.1; omega) (by have := hL.1.2.1; omega) hL.2.2.2.2.2.2.2.2.1 k6 k4 k5 g1 f2 (by rw [hL.2.2.2.2.2.2.2.2.2.2.1]; exact f2) (fun i => rfl) (fun υ u1 u2 u3 u4 => ?_)
    rw [x1] at u1
    refine ⟨x2, _, hIJ.dep (fun o k y => u4.1 o k (by omega) (by omega) (by omega) (by omega) (by omega)) (fun r y1 y2 => u4.2.2 r (by omega) (by omega)), ⟨u1, ⟨u2, Nat.zero_le _, fun i hi => absurd hi (Nat.not_lt_zero _), fun b hb => (by cases hb)⟩, ⟨?_, r2, ?_⟩, ?_, ?_, ?_, ?_⟩, DGd_of (by have := hL.1.2.1; omega) f2⟩
    · rw [u4.1 12 9 (by decide) (by decide) (by decide) (by decide) (by omega)]; exact r1
    · rw [u4.2.2 244 (by omega) (by omega)]; exact r3
    · rw [u4.1 12 0 (by decide) (by decide) (by decide) (by decide) (by omega)]; exact k4
    · rw [u4.1 12 1 (by decide) (by decide) (by decide) (by decide) (by omega)]; exact k5
    · rw [u4.2.1 14 (by omega)]; exact k6
    · rw [u4.2.1 15 (by omega)]; exact k7
  · exact sp_J_judge (S := S) (n := F.length) (B := fun i => ia (σ.2 100 i) 255) (hle.jln (by omega) hL.1) (hle.jlm hL.2.1) (hle.jlv hL.2.2.1) (hle.jls hL.2.2.2.1) (hle.ji j1) f1 f2 (by rw [e100, hL.2.2.2.2.2.2.2.2.2.1]; exact f2) (fun i => rfl) (by omega) (fun w hw => by rw [e8, e7, htl w hw]) (by omega) (fun τ t1 t2 t3 => ⟨rfl, t1, t2, t3⟩)
end Pj
