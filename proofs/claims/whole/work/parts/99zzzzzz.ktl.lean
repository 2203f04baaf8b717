/-! ===== the reference's trees: behind a name ===== -/
/-- names marked, and perhaps that nothing need follow -/
def LVE (σ τ : IS) (c : Bool) (A : Nat → Bool) : Prop := (∀ pp kk, ¬ (pp = 16 ∧ kk = 73) → τ.1 pp kk = σ.1 pp kk) ∧ τ.1 16 73 = (if c = true then 1 else σ.1 16 73) ∧ (∀ r, r ≠ 174 → τ.2 r = σ.2 r) ∧ ∀ q, τ.2 174 q = if A q = true then 1 else σ.2 174 q
section Ktl
variable {L : Nat → Nat} {σ τ ρ : IS} {t : List KNd} {G : Nat → KGv} {W : MVl} {NS : List Str} {bk : List Str} {n0 p i : Nat} {A B : Nat → Bool} {Q : IS → Prop}
theorem ENT.lve (h : ENT σ τ A) : LVE σ τ false A := ⟨fun pp kk _ => by rw [h.1], by rw [h.1, if_neg Bool.false_ne_true], h.2.1, h.2.2⟩
set_option maxHeartbeats 2000000 in
theorem sp_K_leave (hL9 : ∀ r, 193 ≤ r → r ≤ 198 → L r = 50000) (h174 : L 174 = 256) (hT : TFk t G W NS) (hn : n0 + t.length ≤ 50000) (hns : NS.length ≤ 256) (hR : KTr σ bk n0 t) (hp : p < t.length) (hk : kK t p = 0) (hi : glo (G p) = i) (hq : ∀ τ, LVE σ τ (W.2.2.1 i) (W.2.2.2 i) → Q τ) : w_KReader_leave L ((n0 + p : Nat) : Int) Q σ := by
  have l193 := hL9 193 (by omega) (by omega)
  have l194 := hL9 194 (by omega) (by omega)
  have l197 := hL9 197 (by omega) (by omega)
  have l198 := hL9 198 (by omega) (by omega)
  obtain ⟨a1, -⟩ := hT.1 p hp
  obtain ⟨-, x2, x3, -⟩ := a1 hk
  unfold w_KReader_leave
  refine WL_ind2 (fun n s3 ρ => (∃ (p : Nat) (u : MVl), n = p + 1 ∧ s3 = ((n0 + p : Nat) : Int) ∧ p < t.length ∧ (glo (G p) ≤ i ∧ i < ghi (G p)) ∧ gvl (G p) = vof (kO t p) u ∧ u.2.2.1 i = true ∧ ENT σ ρ (u.2.2.2 i)) ∨ (n = 0 ∧ s3 = -1 ∧ W.2.2.1 i = true ∧ ENT σ ρ (W.2.2.2 i))) ?_ (p + 1) _ σ (Or.inl ⟨p, vlf i, rfl, rfl, hp, by omega, by rw [← hi]; exact x3, by show (i == i) = true; simp, ENT.refl.cg (fun q => rfl)⟩)
  clear x2 x3 a1 hk hi hp
  rintro n s3 ρ hI K hK
  try dsimp only
  rcases hI.symm with ⟨rfl, rfl, w1, w2⟩ | ⟨p, u, rfl, rfl, hp, hi, hu, hl, hE⟩
  · rw [if_pos (by decide)]
    refine hq _ ⟨fun pp kk z => ?_, ?_, fun r z => ?_, fun q => ?_⟩
    · rw [pf_1, if_neg z, w2.1]
    · rw [pf_eq, w1, if_pos rfl]
    · rw [pf_2]; exact w2.2.1 r z
    · rw [pf_2]; exact w2.2.2 q
  rw [if_neg (by omega), show Int.toNat ((n0 + p : Nat) : Int) = n0 + p from rfl]
  have hRr := hR.ent hE
  obtain ⟨r1, r2, -, -, r5, r6⟩ := hRr p hp
  have r2 : ρ.2 194 (n0 + p) = kO t p := r2
  refine ⟨⟨by omega, by omega⟩, ?_⟩
  rw [r2]
  have hfv : ∀ q, (gvl (G p)).2.2.2 i q = (u.2.2.2 i q || (rpt (kO t p) && (gvl (G p)).2.1 q)) := fun q => by
    rw [hu]
    show (u.2.2.2 i q || (rpt (kO t p) && (u.2.2.1 i && u.2.1 q))) = (u.2.2.2 i q || (rpt (kO t p) && u.2.1 q))
    rw [hl, Bool.true_and]
  have hlv : (gvl (G p)).2.2.1 i = true := by rw [hu]; exact hl
  refine WJ_of (fun (_ : Unit) υ => ENT σ υ ((gvl (G p)).2.2.2 i)) (fun J hJ => ?_) ?_
  · refine ⟨fun _ => ⟨by omega, by omega⟩, ?_⟩
    by_cases cr : kO t p = 42 ∨ kO t p = 43
    · rw [if_pos cr]
      have hrp : rpt (kO t p) = true := by
        unfold rpt
        rw [Bool.or_eq_true, beq_iff_eq, beq_iff_eq]
        exact cr
      refine sp_K_enter hL9 h174 hT hn hns 70 p ρ _ hRr hp (by omega) (fun υ hE2 => hJ () _ ((hE.trans hE2).cg (fun q => ?_)))
      rw [hfv, hrp, Bool.true_and]
    · rw [if_neg cr]
      have hrp : rpt (kO t p) = false := by
        unfold rpt
        rw [Bool.or_eq_false_iff, beq_eq_false_iff_ne, beq_eq_false_iff_ne]
        exact ⟨fun z => cr (Or.inl z), fun z => cr (Or.inr z)⟩
      refine hJ () _ (hE.cg (fun q => ?_))
      rw [hfv, hrp, Bool.false_and, Bool.or_false]
  clear hE r1 r2 r5 r6 hRr hI hfv hu
  rintro - υ hE
  have hRu := hR.ent hE
  have r6 : υ.2 198 (n0 + p) = ksh n0 (kA t p) := (hRu p hp).2.2.2.2.2
  have r5 : υ.2 197 (n0 + p) = ksh n0 (kS t p) := (hRu p hp).2.2.2.2.1
  refine ⟨⟨by omega, by omega⟩, ?_⟩
  refine WJ_dir ?_
  by_cases c0 : p = 0
  · subst c0
    have hA : kA t 0 = -1 := by
      rcases hT.2.2.2.1 0 hp with z | ⟨q, -, z2, -⟩
      · exact z.2
      · omega
    have e1 : υ.2 198 (n0 + 0) = -1 := by rw [r6, hA]; rfl
    rw [e1, if_neg (fun z => z.1 (by decide))]
    refine ⟨fun z => absurd (show (-1 : Int) < 0 by decide) z, hK 0 _ _ (Or.inr ⟨rfl, rfl, ?_, ?_⟩) (by omega)⟩
    · rw [← hT.2.2.1]; exact hlv
    · rw [← hT.2.2.1]; exact hE
  · obtain ⟨g, s, l1, l2, u2, g1, g2, g3, g4, g5, g6, g7, g8, g9, g10, g11⟩ := hT.up hp c0 hi.1 hi.2
    have hg : g < t.length := by omega
    have e1 : υ.2 198 (n0 + p) = ((n0 + g : Nat) : Int) := by
      rw [r6, g1]
      unfold ksh
      rw [if_neg (by omega)]
      omega
    have e3 : υ.2 193 (n0 + g) = kK t g := (hRu g hg).1
    rw [e1, show Int.toNat ((n0 + g : Nat) : Int) = n0 + g from rfl, e3, g3]
    refine ⟨fun _ => ⟨by omega, by omega⟩, ?_⟩
    rw [hlv] at g10 g11
    by_cases cs : s = 124
    · have csb : (s == 124) = true := by simpa using cs
      rw [if_pos cs, if_neg (fun z => absurd z.2 (by decide))]
      refine hK (g + 1) _ _ (Or.inl ⟨g, u2, rfl, rfl, hg, g9, g7, ?_, hE.cg (fun q => ?_)⟩) (by omega)
      · rw [g10, csb]; rfl
      · rw [g11, csb]; simp
    · have csb : (s == 124) = false := by simpa using cs
      rw [csb] at g10 g11
      rw [if_neg cs, if_pos ⟨by omega, rfl⟩, r5, ksh_hd g5]
      refine ⟨⟨by omega, by omega⟩, ?_⟩
      refine WL_ind2 (fun n s17 υ2 => ∃ (B : Nat → Bool) (on : Bool) (m1 m2 : List Nat) (cc : Int), n = m2.length ∧ l2 = m1 ++ m2 ∧ chn (kS t) cc m2 ∧ s17 = (khd n0 m2, b1 on) ∧ ENT σ υ2 (fun q => (gvl (G p)).2.2.2 i q || B q) ∧ (∀ q, fso s G l2 q = (B q || (on && fso s G m2 q))) ∧ l2.all (fun c => (gvl (G c)).1) = (on && m2.all (fun c => (gvl (G c)).1))) ?_ l2.length _ υ ⟨fun _ => false, true, [], l2, _, rfl, rfl, g5, rfl, hE.cg (fun q => by show _ = ((gvl (G p)).2.2.2 i q || false); rw [Bool.or_false]), fun q => rfl, rfl⟩
      rintro n s17 υ2 ⟨B, on, m1, m2, cc, rfl, hm, hc, rfl, hE2, hB, hall⟩ K2 hI2
      try dsimp only
      cases on with
      | false =>
        rw [if_neg (fun z => z.2 (by decide)), if_pos (by decide)]
        rw [hall] at g10
        have hl0 : (gvl (G g)).2.2.1 i = false := by rw [g7]; exact g10
        obtain ⟨d1, d2⟩ := hT.dn g g (Nat.le_refl _) hg g9.1 g9.2 hl0
        refine hq υ2 ?_
        rw [d1]
        refine (hE2.cg (fun q => ?_)).lve
        rw [d2, g7]
        show _ = (u2.2.2.2 i q || (rpt (kO t g) && (u2.2.2.1 i && u2.2.1 q)))
        have g10' : u2.2.2.1 i = false := g10
        rw [g10', g11, hB]
        simp
      | true =>
        cases m2 with
        | nil =>
          rw [if_neg (fun z => z.1 (khd_neg.mpr rfl)), if_neg (by decide)]
          refine hK (g + 1) _ _ (Or.inl ⟨g, u2, rfl, rfl, hg, g9, g7, ?_, hE2.cg (fun q => ?_)⟩) (by omega)
          · rw [g10, hall]; rfl
          · rw [g11, hB]
            show _ = ((gvl (G p)).2.2.2 i q || (true && (!false && (B q || (true && false)))))
            simp
        | cons d m2 =>
          rw [if_pos ⟨fun z => (by have := khd_neg.mp z; cases this), by decide⟩]
          have hd : d ∈ l2 := by rw [hm]; exact List.mem_append_right _ List.mem_cons_self
          obtain ⟨d1, d2, d3⟩ := g6 d hd
          have hkd : khd n0 (d :: m2) = ((n0 + d : Nat) : Int) := rfl
          rw [hkd]
          have hRv := hR.ent hE2
          refine sp_K_enter hL9 h174 hT hn hns 70 d υ2 _ hRv d1 (by omega) (fun υ3 hE3 => ?_)
          have hRv3 := hRv.ent hE3
          refine sp_K_isNullable hL9 hT hn 70 d υ3 _ hRv3 d1 (by omega) ?_
          have hS : υ3.2 197 (n0 + d) = ksh n0 (kS t d) := (hRv3 d d1).2.2.2.2.1
          rw [show Int.toNat ((n0 + d : Nat) : Int) = n0 + d from rfl, hS, ksh_hd hc.2]
          refine ⟨⟨by omega, by omega⟩, hI2 m2.length _ _ ⟨fun q => B q || (gvl (G d)).2.1 q, (gvl (G d)).1, m1 ++ [d], m2, _, rfl, by rw [hm, List.append_assoc]; rfl, hc.2, rfl, (hE2.trans hE3).cg (fun q => ?_), fun q => ?_, ?_⟩ (by rw [List.length_cons]; omega)⟩
          · show (((gvl (G p)).2.2.2 i q || B q) || (gvl (G d)).2.1 q) = ((gvl (G p)).2.2.2 i q || (B q || (gvl (G d)).2.1 q))
            rw [Bool.or_assoc]
          · rw [hB]
            show (B q || (true && ((gvl (G d)).2.1 q || ((s == 124 || (gvl (G d)).1) && fso s G m2 q)))) = ((B q || (gvl (G d)).2.1 q) || ((gvl (G d)).1 && fso s G m2 q))
            rw [csb]
            cases B q <;> cases (gvl (G d)).2.1 q <;> rfl
          · rw [hall]
            show (true && ((gvl (G d)).1 && m2.all _)) = _
            rw [Bool.true_and]
end Ktl
