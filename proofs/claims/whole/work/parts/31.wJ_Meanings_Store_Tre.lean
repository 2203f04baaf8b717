/-- Tree_has -/
def w_Tree_has (L : Nat → Nat) (a1 : Int) (Q : Int → IS → Prop) (σ : IS) : Prop := Q (if a1 < 0 then (0 : Int) else (if a1 < (σ.1 6 2) then (1 : Int) else (0 : Int))) σ
set_option maxHeartbeats 4000000 in
set_option maxRecDepth 20000 in
theorem s_Tree_has {L : Nat → Nat} (hL : ∀ r, L r < 2147483648) {d : Nat} (hd : 0 ≤ d) {a1 : Int} {Q : Int → IS → Prop} {σ : IS}  (h : w_Tree_has L a1 Q σ) : OkI BF L d 6 b_Tree_has 2 2 0 [] [some (.inr 6), some (.inl a1)] σ (qi Q) := by
  unfold w_Tree_has at h
  refine k_sb (lv' := [some (.inr 6), some (.inl a1)]) (sb_s (sb_s sb_nil)) ?_
  refine k_iload_n d_Tree_has_0 rfl ?_
  have hV1 : OkI BF L d 6 b_Tree_has 2 2 17 [.inl (if a1 < 0 then (0 : Int) else (if a1 < (σ.1 6 2) then (1 : Int) else (0 : Int)))] [some (.inr 6), some (.inl a1)] σ (qi Q) := by
    exact k_iret d_Tree_has_17 (Or.inr ⟨rfl, it01 (Or.inl rfl) (it01 (Or.inr rfl) (Or.inl rfl))⟩) h
  refine k_iflt d_Tree_has_1 rfl (fun c2 => ?_) (fun c2 => ?_)
  · have hV3 := k_eqI (if_pos c2) hV1
    refine k_iconst d_Tree_has_16 cI_0 ?_
    exact hV3
  · have hV4 := k_eqI (if_neg c2) hV1
    refine k_iload_n d_Tree_has_4 rfl ?_
    refine k_aload_n d_Tree_has_5 rfl ?_
    refine k_getI (x := (σ.1 6 2)) d_Tree_has_6 fl_6_52 ob_6 rfl rfl ?_
    refine k_icge d_Tree_has_9 rfl (fun c5 => ?_) (fun c5 => ?_)
    · have hV7 := k_eqI (if_neg c5) hV4
      refine k_iconst d_Tree_has_16 cI_0 ?_
      exact hV7
    · have hV6 := k_eqI (if_pos c5) hV4
      refine k_iconst d_Tree_has_12 cI_1 ?_
      refine k_goto d_Tree_has_13 rfl ?_
      exact hV6
theorem d_Store_letter_0 : decode b_Store_letter 0 = .ok (.iload_n 2, 1) := by decide +kernel
theorem d_Store_letter_1 : decode b_Store_letter 1 = .ok (.ifCond .lt 29, 3) := by decide +kernel
theorem d_Store_letter_4 : decode b_Store_letter 4 = .ok (.iload_n 2, 1) := by decide +kernel
theorem d_Store_letter_5 : decode b_Store_letter 5 = .ok (.aload_n 0, 1) := by decide +kernel
theorem d_Store_letter_6 : decode b_Store_letter 6 = .ok (.getfield 29, 3) := by decide +kernel
theorem d_Store_letter_9 : decode b_Store_letter 9 = .ok (.iload_n 1, 1) := by decide +kernel
theorem d_Store_letter_10 : decode b_Store_letter 10 = .ok (.iaload, 1) := by decide +kernel
theorem d_Store_letter_11 : decode b_Store_letter 11 = .ok (.if_icmp .ge 19, 3) := by decide +kernel
theorem d_Store_letter_14 : decode b_Store_letter 14 = .ok (.aload_n 0, 1) := by decide +kernel
theorem d_Store_letter_15 : decode b_Store_letter 15 = .ok (.getfield 22, 3) := by decide +kernel
theorem d_Store_letter_18 : decode b_Store_letter 18 = .ok (.aload_n 0, 1) := by decide +kernel
theorem d_Store_letter_19 : decode b_Store_letter 19 = .ok (.getfield 26, 3) := by decide +kernel
theorem d_Store_letter_22 : decode b_Store_letter 22 = .ok (.iload_n 1, 1) := by decide +kernel
theorem d_Store_letter_23 : decode b_Store_letter 23 = .ok (.iaload, 1) := by decide +kernel
theorem d_Store_letter_24 : decode b_Store_letter 24 = .ok (.iload_n 2, 1) := by decide +kernel
theorem d_Store_letter_25 : decode b_Store_letter 25 = .ok (.iadd, 1) := by decide +kernel
theorem d_Store_letter_26 : decode b_Store_letter 26 = .ok (.iaload, 1) := by decide +kernel
theorem d_Store_letter_27 : decode b_Store_letter 27 = .ok (.goto 4, 3) := by decide +kernel
theorem d_Store_letter_30 : decode b_Store_letter 30 = .ok (.iconst (-1), 1) := by decide +kernel
theorem d_Store_letter_31 : decode b_Store_letter 31 = .ok (.ireturn, 1) := by decide +kernel
/-- Store_letter -/
def w_Store_letter (L : Nat → Nat) (a1 : Int) (a2 : Int) (Q : Int → IS → Prop) (σ : IS) : Prop := ((¬ a2 < 0 → (inL L 103 a1 ∧ (a2 < (σ.2 103 (Int.toNat a1)) → (inL L 102 a1 ∧ inR ((σ.2 102 (Int.toNat a1)) + a2) ∧ inL L 101 ((σ.2 102 (Int.toNat a1)) + a2)))))) ∧ Q (if a2 < 0 then ((-1) : Int) else (if a2 < (σ.2 103 (Int.toNat a1)) then (σ.2 101 (Int.toNat ((σ.2 102 (Int.toNat a1)) + a2))) else ((-1) : Int))) σ
set_option maxHeartbeats 4000000 in
set_option maxRecDepth 20000 in
theorem s_Store_letter {L : Nat → Nat} (hL : ∀ r, L r < 2147483648) {d : Nat} (hd : 0 ≤ d) {a1 : Int} {a2 : Int} {Q : Int → IS → Prop} {σ : IS}  (h : w_Store_letter L a1 a2 Q σ) : OkI BF L d 1 b_Store_letter 3 1 0 [] [some (.inr 1), some (.inl a1), some (.inl a2)] σ (qi Q) := by
  unfold w_Store_letter at h
  refine k_sb (lv' := [some (.inr 1), some (.inl a1), some (.inl a2)]) (sb_s (sb_s (sb_s sb_nil))) ?_
  refine k_iload_n d_Store_letter_0 rfl ?_
  obtain ⟨pt6, h⟩ := h
  have hV5 : OkI BF L d 1 b_Store_letter 3 1 31 [.inl (if a2 < 0 then ((-1) : Int) else (if a2 < (σ.2 103 (Int.toNat a1)) then (σ.2 101 (Int.toNat ((σ.2 102 (Int.toNat a1)) + a2))) else ((-1) : Int)))] [some (.inr 1), some (.inl a1), some (.inl a2)] σ (qi Q) := by
    exact k_iret d_Store_letter_31 (Or.inl rfl) h
  have pb7 := pt6
  refine k_iflt d_Store_letter_1 rfl (fun c8 => ?_) (fun c8 => ?_)
  · have hV9 := k_eqI (if_pos c8) hV5
    refine k_iconst d_Store_letter_30 cI_m1 ?_
    exact hV9
  · have pb7 := pb7 c8
    have hV10 := k_eqI (if_neg c8) hV5
    obtain ⟨p1, pa11⟩ := pb7
    refine k_iload_n d_Store_letter_4 rfl ?_
    refine k_aload_n d_Store_letter_5 rfl ?_
    refine k_getR d_Store_letter_6 fl_1_29 ob_1 rfl ?_
    refine k_iload_n d_Store_letter_9 rfl ?_
    refine k_ild (x := (σ.2 103 (Int.toNat a1))) d_Store_letter_10 rI_103 p1 rfl ?_
    refine k_icge d_Store_letter_11 rfl (fun c12 => ?_) (fun c12 => ?_)
    · have hV14 := k_eqI (if_neg c12) hV10
      refine k_iconst d_Store_letter_30 cI_m1 ?_
      exact hV14
    · have pa11 := pa11 c12
      have hV13 := k_eqI (if_pos c12) hV10
      obtain ⟨p2, p3, p4⟩ := pa11
      refine k_aload_n d_Store_letter_14 rfl ?_
      refine k_getR d_Store_letter_15 fl_1_22 ob_1 rfl ?_
      refine k_aload_n d_Store_letter_18 rfl ?_
      refine k_getR d_Store_letter_19 fl_1_26 ob_1 rfl ?_
      refine k_iload_n d_Store_letter_22 rfl ?_
      refine k_ild (x := (σ.2 102 (Int.toNat a1))) d_Store_letter_23 rI_102 p2 rfl ?_
      refine k_iload_n d_Store_letter_24 rfl ?_
      refine k_iadd d_Store_letter_25 p3 ?_
      refine k_ild (x := (σ.2 101 (Int.toNat ((σ.2 102 (Int.toNat a1)) + a2)))) d_Store_letter_26 rI_101 p4 rfl ?_
      refine k_goto d_Store_letter_27 rfl ?_
      exact hV13
theorem d_J_attribute_11 : decode b_J_attribute 11 = .ok (.iload_n 2, 1) := by decide +kernel
theorem d_J_attribute_12 : decode b_J_attribute 12 = .ok (.ifCond .lt 25, 3) := by decide +kernel
theorem d_J_attribute_15 : decode b_J_attribute 15 = .ok (.iload_n 2, 1) := by decide +kernel
theorem d_J_attribute_16 : decode b_J_attribute 16 = .ok (.aload_n 0, 1) := by decide +kernel
theorem d_J_attribute_17 : decode b_J_attribute 17 = .ok (.getfield 63, 3) := by decide +kernel
theorem d_J_attribute_20 : decode b_J_attribute 20 = .ok (.getfield 199, 3) := by decide +kernel
theorem d_J_attribute_23 : decode b_J_attribute 23 = .ok (.iload_n 1, 1) := by decide +kernel
theorem d_J_attribute_24 : decode b_J_attribute 24 = .ok (.iaload, 1) := by decide +kernel
theorem d_J_attribute_25 : decode b_J_attribute 25 = .ok (.if_icmp .ge 12, 3) := by decide +kernel
theorem d_J_attribute_28 : decode b_J_attribute 28 = .ok (.iload_n 3, 1) := by decide +kernel
theorem d_J_attribute_29 : decode b_J_attribute 29 = .ok (.ifCond .lt 8, 3) := by decide +kernel
theorem d_J_attribute_32 : decode b_J_attribute 32 = .ok (.iload_n 3, 1) := by decide +kernel
theorem d_J_attribute_33 : decode b_J_attribute 33 = .ok (.iconst 1, 1) := by decide +kernel
theorem d_J_attribute_34 : decode b_J_attribute 34 = .ok (.if_icmp .le 5, 3) := by decide +kernel
theorem d_J_attribute_39 : decode b_J_attribute 39 = .ok (.aload_n 0, 1) := by decide +kernel
theorem d_J_attribute_40 : decode b_J_attribute 40 = .ok (.getfield 63, 3) := by decide +kernel
theorem d_J_attribute_43 : decode b_J_attribute 43 = .ok (.getfield 212, 3) := by decide +kernel
theorem d_J_attribute_46 : decode b_J_attribute 46 = .ok (.iload_n 1, 1) := by decide +kernel
theorem d_J_attribute_47 : decode b_J_attribute 47 = .ok (.iaload, 1) := by decide +kernel
theorem d_J_attribute_48 : decode b_J_attribute 48 = .ok (.iload_n 2, 1) := by decide +kernel
theorem d_J_attribute_49 : decode b_J_attribute 49 = .ok (.iadd, 1) := by decide +kernel
theorem d_J_attribute_50 : decode b_J_attribute 50 = .ok (.istore 5, 2) := by decide +kernel
theorem d_J_attribute_52 : decode b_J_attribute 52 = .ok (.aload_n 0, 1) := by decide +kernel
theorem d_J_attribute_53 : decode b_J_attribute 53 = .ok (.getfield 20, 3) := by decide +kernel
theorem d_J_attribute_56 : decode b_J_attribute 56 = .ok (.iload_n 3, 1) := by decide +kernel
theorem d_J_attribute_57 : decode b_J_attribute 57 = .ok (.ifCond .ne 16, 3) := by decide +kernel
theorem d_J_attribute_60 : decode b_J_attribute 60 = .ok (.aload_n 0, 1) := by decide +kernel
theorem d_J_attribute_61 : decode b_J_attribute 61 = .ok (.getfield 63, 3) := by decide +kernel
theorem d_J_attribute_64 : decode b_J_attribute 64 = .ok (.getfield 215, 3) := by decide +kernel
theorem d_J_attribute_67 : decode b_J_attribute 67 = .ok (.iload 5, 2) := by decide +kernel
theorem d_J_attribute_69 : decode b_J_attribute 69 = .ok (.iaload, 1) := by decide +kernel
theorem d_J_attribute_70 : decode b_J_attribute 70 = .ok (.goto 13, 3) := by decide +kernel
theorem d_J_attribute_73 : decode b_J_attribute 73 = .ok (.aload_n 0, 1) := by decide +kernel
theorem d_J_attribute_74 : decode b_J_attribute 74 = .ok (.getfield 63, 3) := by decide +kernel
theorem d_J_attribute_77 : decode b_J_attribute 77 = .ok (.getfield 218, 3) := by decide +kernel
theorem d_J_attribute_80 : decode b_J_attribute 80 = .ok (.iload 5, 2) := by decide +kernel
theorem d_J_attribute_82 : decode b_J_attribute 82 = .ok (.iaload, 1) := by decide +kernel
theorem d_J_attribute_83 : decode b_J_attribute 83 = .ok (.iload 4, 2) := by decide +kernel
theorem d_J_attribute_85 : decode b_J_attribute 85 = .ok (.invokevirtual 208, 3) := by decide +kernel
theorem d_J_attribute_88 : decode b_J_attribute 88 = .ok (.ireturn, 1) := by decide +kernel
/-- J_attribute -/
def w_J_attribute (L : Nat → Nat) (a1 : Int) (a2 : Int) (a3 : Int) (a4 : Int) (Q : Int → IS → Prop) (σ : IS) : Prop := w_Tree_has L a1 (fun v2 σ1 => ((¬ v2 = 0 → (¬ a2 < 0 → inL L 131 a1))) ∧ if ¬ v2 = 0 ∧ (¬ a2 < 0 ∧ (a2 < (σ1.2 131 (Int.toNat a1)) ∧ (¬ a3 < 0 ∧ (¬ 1 < a3)))) then inL L 130 a1 ∧ inR ((σ1.2 130 (Int.toNat a1)) + a2) ∧ (((a3 = 0 → inL L 161 ((σ1.2 130 (Int.toNat a1)) + a2)) ∧ (¬ a3 = 0 → inL L 134 ((σ1.2 130 (Int.toNat a1)) + a2)))) ∧ w_Store_letter L (if a3 = 0 then (σ1.2 161 (Int.toNat ((σ1.2 130 (Int.toNat a1)) + a2))) else (σ1.2 134 (Int.toNat ((σ1.2 130 (Int.toNat a1)) + a2)))) a4 (fun v7 σ6 => Q v7 σ6) σ1 else Q (-1) σ1) σ
set_option maxHeartbeats 4000000 in
set_option maxRecDepth 20000 in
theorem s_J_attribute {L : Nat → Nat} (hL : ∀ r, L r < 2147483648) {d : Nat} (hd : 1 ≤ d) {a1 : Int} {a2 : Int} {a3 : Int} {a4 : Int} {Q : Int → IS → Prop} {σ : IS}  (h : w_J_attribute L a1 a2 a3 a4 Q σ) : OkI BF L d 0 b_J_attribute 6 1 0 [] [some (.inr 0), some (.inl a1), some (.inl a2), some (.inl a3), some (.inl a4)] σ (qi Q) := by
  unfold w_J_attribute at h
  obtain ⟨d, rfl⟩ : ∃ e, d = e + 1 := ⟨d - 1, by omega⟩
  refine k_sb (lv' := [some (.inr 0), some (.inl a1), some (.inl a2), some (.inl a3), some (.inl a4), none]) (sb_s (sb_s (sb_s (sb_s (sb_s (sb_e sb_nil)))))) ?_
  refine k_aload_n d_J_attribute_0 rfl ?_
  refine k_getR d_J_attribute_1 fl_0_63 ob_0 rfl ?_
  refine k_iload_n d_J_attribute_4 rfl ?_
  refine k_cvi [.inl a1] d_J_attribute_5 ml_0_195 rfl rfl ob_6 rfl (s_Tree_has hL (by omega)  h) (fun v2 σ1 h => ?_)
  obtain ⟨pt20, h⟩ := h
  have hX17 : (¬ v2 = 0 ∧ (¬ a2 < 0 ∧ (a2 < (σ1.2 131 (Int.toNat a1)) ∧ (¬ a3 < 0 ∧ (¬ 1 < a3))))) → OkI BF L (d + 1) 0 b_J_attribute 6 1 39 [] [some (.inr 0), some (.inl a1), some (.inl a2), some (.inl a3), some (.inl a4), none] σ1 (qi Q) := fun e19 => by
    have h := ipos e19 h
    refine k_aload_n d_J_attribute_39 rfl ?_
    refine k_getR d_J_attribute_40 fl_0_63 ob_0 rfl ?_
    refine k_getR d_J_attribute_43 fl_0_212 ob_6 rfl ?_
    refine k_iload_n d_J_attribute_46 rfl ?_
    obtain ⟨p16, h⟩ := h
    refine k_ild (x := (σ1.2 130 (Int.toNat a1))) d_J_attribute_47 rI_130 p16 rfl ?_
    refine k_iload_n d_J_attribute_48 rfl ?_
    obtain ⟨p15, h⟩ := h
    refine k_iadd d_J_attribute_49 p15 ?_
    refine k_istore (lv' := [some (.inr 0), some (.inl a1), some (.inl a2), some (.inl a3), some (.inl a4), some (.inl ((σ1.2 130 (Int.toNat a1)) + a2))]) d_J_attribute_50 rfl rfl ?_
    refine k_aload_n d_J_attribute_52 rfl ?_
    refine k_getR d_J_attribute_53 fl_0_20 ob_0 rfl ?_
    refine k_iload_n d_J_attribute_56 rfl ?_
    obtain ⟨pt9, h⟩ := h
    have hV8 : OkI BF L (d + 1) 0 b_J_attribute 6 1 83 [.inl (if a3 = 0 then (σ1.2 161 (Int.toNat ((σ1.2 130 (Int.toNat a1)) + a2))) else (σ1.2 134 (Int.toNat ((σ1.2 130 (Int.toNat a1)) + a2)))), .inr 1] [some (.inr 0), some (.inl a1), some (.inl a2), some (.inl a3), some (.inl a4), some (.inl ((σ1.2 130 (Int.toNat a1)) + a2))] σ1 (qi Q) := by
      refine k_iload d_J_attribute_83 rfl ?_
      refine k_cvi [.inl (if a3 = 0 then (σ1.2 161 (Int.toNat ((σ1.2 130 (Int.toNat a1)) + a2))) else (σ1.2 134 (Int.toNat ((σ1.2 130 (Int.toNat a1)) + a2)))), .inl a4] d_J_attribute_85 ml_0_208 rfl rfl ob_1 rfl (s_Store_letter hL (by omega)  h) (fun v7 σ6 h => ?_)
      exact k_iret d_J_attribute_88 (Or.inl rfl) h
    obtain ⟨pa10, pb11⟩ := pt9
    refine k_ifne d_J_attribute_57 rfl (fun c12 => ?_) (fun c12 => ?_)
    · have pb11 := pb11 c12
      have hV14 := k_eqI (if_neg c12) hV8
      have p4 := pb11
      refine k_aload_n d_J_attribute_73 rfl ?_
      refine k_getR d_J_attribute_74 fl_0_63 ob_0 rfl ?_
      refine k_getR d_J_attribute_77 fl_0_218 ob_6 rfl ?_
      refine k_iload d_J_attribute_80 rfl ?_
      refine k_ild (x := (σ1.2 134 (Int.toNat ((σ1.2 130 (Int.toNat a1)) + a2)))) d_J_attribute_82 rI_134 p4 rfl ?_
      exact hV14
    · have pa10 := pa10 c12
      have hV13 := k_eqI (if_pos c12) hV8
      have p5 := pa10
      refine k_aload_n d_J_attribute_60 rfl ?_
      refine k_getR d_J_attribute_61 fl_0_63 ob_0 rfl ?_
      refine k_getR d_J_attribute_64 fl_0_215 ob_6 rfl ?_
      refine k_iload d_J_attribute_67 rfl ?_
      refine k_ild (x := (σ1.2 161 (Int.toNat ((σ1.2 130 (Int.toNat a1)) + a2)))) d_J_attribute_69 rI_161 p5 rfl ?_
      refine k_goto d_J_attribute_70 rfl ?_
      exact hV13
  have hY18 : ¬ (¬ v2 = 0 ∧ (¬ a2 < 0 ∧ (a2 < (σ1.2 131 (Int.toNat a1)) ∧ (¬ a3 < 0 ∧ (¬ 1 < a3))))) → OkI BF L (d + 1) 0 b_J_attribute 6 1 37 [] [some (.inr 0), some (.inl a1), some (.inl a2), some (.inl a3), some (.inl a4), none] σ1 (qi Q) := fun e19 => by
    have h := ineg e19 h
    refine k_iconst d_J_attribute_37 cI_m1 ?_
    exact k_iret d_J_attribute_38 (Or.inl rfl) h
  have pb21 := pt20
  refine k_ifeq d_J_attribute_8 rfl (fun c22 => ?_) (fun c22 => ?_)
  · exact hY18 (fun z => z.1 c22)
  · have pb21 := pb21 c22
    have pb23 := pb21
    refine k_iload_n d_J_attribute_11 rfl ?_
    refine k_iflt d_J_attribute_12 rfl (fun c24 => ?_) (fun c24 => ?_)
    · exact hY18 (fun z => (fun z => z.1 c24) z.2)
    · have pb23 := pb23 c24
      have p3 := pb23
      refine k_iload_n d_J_attribute_15 rfl ?_
      refine k_aload_n d_J_attribute_16 rfl ?_
      refine k_getR d_J_attribute_17 fl_0_63 ob_0 rfl ?_
      refine k_getR d_J_attribute_20 fl_0_199 ob_6 rfl ?_
      refine k_iload_n d_J_attribute_23 rfl ?_
      refine k_ild (x := (σ1.2 131 (Int.toNat a1))) d_J_attribute_24 rI_131 p3 rfl ?_
      refine k_icge d_J_attribute_25 rfl (fun c25 => ?_) (fun c25 => ?_)
      · exact hY18 (fun z => (fun z => (fun z => c25 z.1) z.2) z.2)
      · refine k_iload_n d_J_attribute_28 rfl ?_
        refine k_iflt d_J_attribute_29 rfl (fun c26 => ?_) (fun c26 => ?_)
        · exact hY18 (fun z => (fun z => (fun z => (fun z => z.1 c26) z.2) z.2) z.2)
        · refine k_iload_n d_J_attribute_32 rfl ?_
          refine k_iconst d_J_attribute_33 cI_1 ?_
          refine k_icle d_J_attribute_34 rfl (fun c27 => ?_) (fun c27 => ?_)
          · exact hX17 (⟨c22, ⟨c24, ⟨c25, ⟨c26, c27⟩⟩⟩⟩)
          · exact hY18 (fun z => (fun z => (fun z => (fun z => (fun z => z c27) z.2) z.2) z.2) z.2)
theorem d_J_attributes_11 : decode b_J_attributes 11 = .ok (.aload_n 0, 1) := by decide +kernel
theorem d_J_attributes_12 : decode b_J_attributes 12 = .ok (.getfield 63, 3) := by decide +kernel
theorem d_J_attributes_15 : decode b_J_attributes 15 = .ok (.getfield 199, 3) := by decide +kernel
theorem d_J_attributes_18 : decode b_J_attributes 18 = .ok (.iload_n 1, 1) := by decide +kernel
theorem d_J_attributes_19 : decode b_J_attributes 19 = .ok (.iaload, 1) := by decide +kernel
theorem d_J_attributes_20 : decode b_J_attributes 20 = .ok (.goto 4, 3) := by decide +kernel
/-- J_attributes -/
def w_J_attributes (L : Nat → Nat) (a1 : Int) (Q : Int → IS → Prop) (σ : IS) : Prop := w_Tree_has L a1 (fun v2 σ1 => ((¬ v2 = 0 → inL L 131 a1)) ∧ Q (if v2 = 0 then ((-1) : Int) else (σ1.2 131 (Int.toNat a1))) σ1) σ
set_option maxHeartbeats 4000000 in
set_option maxRecDepth 20000 in
theorem s_J_attributes {L : Nat → Nat} (hL : ∀ r, L r < 2147483648) {d : Nat} (hd : 1 ≤ d) {a1 : Int} {Q : Int → IS → Prop} {σ : IS}  (h : w_J_attributes L a1 Q σ) : OkI BF L d 0 b_J_attributes 2 1 0 [] [some (.inr 0), some (.inl a1)] σ (qi Q) := by
  unfold w_J_attributes at h
  obtain ⟨d, rfl⟩ : ∃ e, d = e + 1 := ⟨d - 1, by omega⟩
  refine k_sb (lv' := [some (.inr 0), some (.inl a1)]) (sb_s (sb_s sb_nil)) ?_
  refine k_aload_n d_J_attributes_0 rfl ?_
  refine k_getR d_J_attributes_1 fl_0_63 ob_0 rfl ?_
  refine k_iload_n d_J_attributes_4 rfl ?_
  refine k_cvi [.inl a1] d_J_attributes_5 ml_0_195 rfl rfl ob_6 rfl (s_Tree_has hL (by omega)  h) (fun v2 σ1 h => ?_)
  obtain ⟨pt5, h⟩ := h
  have hV4 : OkI BF L (d + 1) 0 b_J_attributes 2 1 24 [.inl (if v2 = 0 then ((-1) : Int) else (σ1.2 131 (Int.toNat a1)))] [some (.inr 0), some (.inl a1)] σ1 (qi Q) := by
    exact k_iret d_J_attributes_24 (Or.inl rfl) h
  have pb6 := pt5
  refine k_ifeq d_J_attributes_8 rfl (fun c7 => ?_) (fun c7 => ?_)
  · have hV8 := k_eqI (if_pos c7) hV4
    refine k_iconst d_J_attributes_23 cI_m1 ?_
    exact hV8
  · have pb6 := pb6 c7
    have hV9 := k_eqI (if_neg c7) hV4
    have p3 := pb6
    refine k_aload_n d_J_attributes_11 rfl ?_
    refine k_getR d_J_attributes_12 fl_0_63 ob_0 rfl ?_
    refine k_getR d_J_attributes_15 fl_0_199 ob_6 rfl ?_
    refine k_iload_n d_J_attributes_18 rfl ?_
    refine k_ild (x := (σ1.2 131 (Int.toNat a1))) d_J_attributes_19 rI_131 p3 rfl ?_
    refine k_goto d_J_attributes_20 rfl ?_
    exact hV9
theorem d_J_back_12 : decode b_J_back 12 = .ok (.iload_n 1, 1) := by decide +kernel
theorem d_J_back_13 : decode b_J_back 13 = .ok (.ldc 10, 2) := by decide +kernel
theorem d_J_back_15 : decode b_J_back 15 = .ok (.if_icmp .le 5, 3) := by decide +kernel
theorem d_J_back_20 : decode b_J_back 20 = .ok (.aload_n 0, 1) := by decide +kernel
theorem d_J_back_21 : decode b_J_back 21 = .ok (.getfield 102, 3) := by decide +kernel
theorem d_J_back_24 : decode b_J_back 24 = .ok (.getfield 241, 3) := by decide +kernel
theorem d_J_back_27 : decode b_J_back 27 = .ok (.iconst 0, 1) := by decide +kernel
theorem d_J_back_28 : decode b_J_back 28 = .ok (.aload_n 0, 1) := by decide +kernel
theorem d_J_back_29 : decode b_J_back 29 = .ok (.getfield 11, 3) := by decide +kernel
theorem d_J_back_32 : decode b_J_back 32 = .ok (.iconst 0, 1) := by decide +kernel
theorem d_J_back_33 : decode b_J_back 33 = .ok (.iload_n 1, 1) := by decide +kernel
theorem d_J_back_34 : decode b_J_back 34 = .ok (.invokestatic 244, 3) := by decide +kernel
theorem d_J_back_37 : decode b_J_back 37 = .ok (.aload_n 0, 1) := by decide +kernel
theorem d_J_back_38 : decode b_J_back 38 = .ok (.iload_n 1, 1) := by decide +kernel
theorem d_J_back_39 : decode b_J_back 39 = .ok (.putfield 110, 3) := by decide +kernel
theorem d_J_back_42 : decode b_J_back 42 = .ok (.iload_n 1, 1) := by decide +kernel
theorem d_J_back_43 : decode b_J_back 43 = .ok (.ireturn, 1) := by decide +kernel
/-- J_back -/
def w_J_back (L : Nat → Nat)  (Q : Int → IS → Prop) (σ : IS) : Prop := if ¬ (σ.1 11 4) = 0 ∧ (¬ 65536 < (σ.1 11 4)) then dyB (σ.1 11 3) ∧ ((0 : Int) ≤ (σ.1 11 4) ∧ (0 : Int) ≤ (0 : Int) ∧ (0 : Int) ≤ (0 : Int) ∧ (0 : Int) + (σ.1 11 4) ≤ ((L (Int.toNat (σ.1 11 3)) : Nat) : Int) ∧ (0 : Int) + (σ.1 11 4) ≤ ((L 100 : Nat) : Int)) ∧ (∀ i : Nat, (i : Int) < (σ.1 11 4) → inB (σ.2 (Int.toNat (σ.1 11 3)) (Int.toNat (0 : Int) + i))) ∧ Q (σ.1 11 4) (pf (cp σ (Int.toNat (σ.1 11 3)) (Int.toNat (0 : Int)) 100 (Int.toNat (0 : Int)) (Int.toNat (σ.1 11 4))) 0 1 (σ.1 11 4)) else Q (-1) σ
set_option maxHeartbeats 4000000 in
set_option maxRecDepth 20000 in
theorem s_J_back {L : Nat → Nat} (hL : ∀ r, L r < 2147483648) {d : Nat} (hd : 0 ≤ d)  {Q : Int → IS → Prop} {σ : IS}  (h : w_J_back L  Q σ) : OkI BF L d 0 b_J_back 2 1 0 [] [some (.inr 0)] σ (qi Q) := by
  unfold w_J_back at h
  refine k_sb (lv' := [some (.inr 0), none]) (sb_s (sb_e sb_nil)) ?_
  refine k_aload_n d_J_back_0 rfl ?_
  refine k_getR d_J_back_1 fl_0_102 ob_0 rfl ?_
  refine k_getI (x := (σ.1 11 4)) d_J_back_4 fl_0_238 ob_11 rfl rfl ?_
  refine k_istore_n (lv' := [some (.inr 0), some (.inl (σ.1 11 4))]) d_J_back_7 rfl rfl ?_
  refine k_iload_n d_J_back_8 rfl ?_
  have hX4 : (¬ (σ.1 11 4) = 0 ∧ (¬ 65536 < (σ.1 11 4))) → OkI BF L d 0 b_J_back 2 1 20 [] [some (.inr 0), some (.inl (σ.1 11 4))] σ (qi Q) := fun e6 => by
    have h := ipos e6 h
    refine k_aload_n d_J_back_20 rfl ?_
    refine k_getR d_J_back_21 fl_0_102 ob_0 rfl ?_
    obtain ⟨y1, h⟩ := h
    refine k_getD (x := (σ.1 11 3)) d_J_back_24 fl_0_241 ob_11 rfl rfl (dyB_pos y1) ?_
    refine k_iconst d_J_back_27 cI_0 ?_
    refine k_aload_n d_J_back_28 rfl ?_
    refine k_getR d_J_back_29 fl_0_11 ob_0 rfl ?_
    refine k_iconst d_J_back_32 cI_0 ?_
    refine k_iload_n d_J_back_33 rfl ?_
    obtain ⟨p2, h⟩ := h
    obtain ⟨p3, h⟩ := h
    refine k_cpy d_J_back_34 ml_0_244 (dyB_row y1).1 rb_100.1 ((dyB_row y1).2.trans rb_100.2.symm) (Or.inr ⟨(dyB_row y1).2, p3⟩) p2 rfl ?_
    refine k_aload_n d_J_back_37 rfl ?_
    refine k_iload_n d_J_back_38 rfl ?_
    refine k_putI d_J_back_39 fl_0_110 ob_0 rfl ?_
    refine k_iload_n d_J_back_42 rfl ?_
    exact k_iret d_J_back_43 (Or.inl rfl) h
  have hY5 : ¬ (¬ (σ.1 11 4) = 0 ∧ (¬ 65536 < (σ.1 11 4))) → OkI BF L d 0 b_J_back 2 1 18 [] [some (.inr 0), some (.inl (σ.1 11 4))] σ (qi Q) := fun e6 => by
    have h := ineg e6 h
    refine k_iconst d_J_back_18 cI_m1 ?_
    exact k_iret d_J_back_19 (Or.inl rfl) h
  refine k_ifeq d_J_back_9 rfl (fun c7 => ?_) (fun c7 => ?_)
  · exact hY5 (fun z => z.1 c7)
  · refine k_iload_n d_J_back_12 rfl ?_
    refine k_ldc d_J_back_13 ks_0_10 cL_65536 ?_
    refine k_icle d_J_back_15 rfl (fun c8 => ?_) (fun c8 => ?_)
    · exact hX4 (⟨c7, c8⟩)
    · exact hY5 (fun z => (fun z => z c8) z.2)
theorem d_Meanings_sum_0 : decode b_Meanings_sum 0 = .ok (.iconst 0, 1) := by decide +kernel
theorem d_Meanings_sum_1 : decode b_Meanings_sum 1 = .ok (.istore_n 1, 1) := by decide +kernel
theorem d_Meanings_sum_2 : decode b_Meanings_sum 2 = .ok (.iconst 0, 1) := by decide +kernel
theorem d_Meanings_sum_3 : decode b_Meanings_sum 3 = .ok (.istore_n 2, 1) := by decide +kernel
theorem d_Meanings_sum_4 : decode b_Meanings_sum 4 = .ok (.iload_n 2, 1) := by decide +kernel
theorem d_Meanings_sum_5 : decode b_Meanings_sum 5 = .ok (.bipush 6, 2) := by decide +kernel
theorem d_Meanings_sum_7 : decode b_Meanings_sum 7 = .ok (.if_icmp .ge 26, 3) := by decide +kernel
theorem d_Meanings_sum_10 : decode b_Meanings_sum 10 = .ok (.iload_n 1, 1) := by decide +kernel
theorem d_Meanings_sum_11 : decode b_Meanings_sum 11 = .ok (.aload_n 0, 1) := by decide +kernel
theorem d_Meanings_sum_12 : decode b_Meanings_sum 12 = .ok (.getfield 42, 3) := by decide +kernel
theorem d_Meanings_sum_15 : decode b_Meanings_sum 15 = .ok (.iload_n 2, 1) := by decide +kernel
theorem d_Meanings_sum_16 : decode b_Meanings_sum 16 = .ok (.iaload, 1) := by decide +kernel
theorem d_Meanings_sum_17 : decode b_Meanings_sum 17 = .ok (.ifCond .le 7, 3) := by decide +kernel
theorem d_Meanings_sum_20 : decode b_Meanings_sum 20 = .ok (.iconst 1, 1) := by decide +kernel
theorem d_Meanings_sum_21 : decode b_Meanings_sum 21 = .ok (.goto 4, 3) := by decide +kernel
theorem d_Meanings_sum_24 : decode b_Meanings_sum 24 = .ok (.iconst 0, 1) := by decide +kernel
theorem d_Meanings_sum_25 : decode b_Meanings_sum 25 = .ok (.iadd, 1) := by decide +kernel
theorem d_Meanings_sum_26 : decode b_Meanings_sum 26 = .ok (.istore_n 1, 1) := by decide +kernel
theorem d_Meanings_sum_27 : decode b_Meanings_sum 27 = .ok (.iinc 2 1, 3) := by decide +kernel
theorem d_Meanings_sum_30 : decode b_Meanings_sum 30 = .ok (.goto (-26), 3) := by decide +kernel
theorem d_Meanings_sum_33 : decode b_Meanings_sum 33 = .ok (.iload_n 1, 1) := by decide +kernel
theorem d_Meanings_sum_34 : decode b_Meanings_sum 34 = .ok (.ireturn, 1) := by decide +kernel
/-- Meanings_sum -/
def w_Meanings_sum (L : Nat → Nat)  (Q : Int → IS → Prop) (σ : IS) : Prop := WL (fun (K1 : Int × Int → IS → Prop) (s3 : Int × Int) (σ4 : IS) => if s3.2 < 6 then inL L 160 s3.2 ∧ inR (s3.1 + (if 0 < (σ4.2 160 (Int.toNat s3.2)) then (1 : Int) else (0 : Int))) ∧ inR (s3.2 + 1) ∧ K1 ((s3.1 + (if 0 < (σ4.2 160 (Int.toNat s3.2)) then (1 : Int) else (0 : Int))), (s3.2 + 1)) σ4 else Q s3.1 σ4) (0, 0) σ
set_option maxHeartbeats 4000000 in
set_option maxRecDepth 20000 in
theorem s_Meanings_sum {L : Nat → Nat} (hL : ∀ r, L r < 2147483648) {d : Nat} (hd : 0 ≤ d)  {Q : Int → IS → Prop} {σ : IS}  (h : w_Meanings_sum L  Q σ) : OkI BF L d 10 b_Meanings_sum 3 1 0 [] [some (.inr 10)] σ (qi Q) := by
  unfold w_Meanings_sum at h
  refine k_sb (lv' := [some (.inr 10), none, none]) (sb_s (sb_e (sb_e sb_nil))) ?_
  refine k_iconst d_Meanings_sum_0 cI_0 ?_
  refine k_istore_n (lv' := [some (.inr 10), some (.inl 0), none]) d_Meanings_sum_1 rfl rfl ?_
  refine k_iconst d_Meanings_sum_2 cI_0 ?_
  refine k_istore_n (lv' := [some (.inr 10), some (.inl 0), some (.inl 0)]) d_Meanings_sum_3 rfl rfl ?_
  refine k_sb (lv' := [some (.inr 10), some (.inl 0), some (.inl 0)]) (sb_s (sb_s (sb_s sb_nil))) ?_
  refine k_loop (S := Int × Int) (st := fun _ => []) (lv := fun s3 => [some (.inr 10), some (.inl s3.1), some (.inl s3.2)]) (fun K1 hK2 s3 σ4 h => ?_) (0, 0) _ h
  refine k_iload_n d_Meanings_sum_4 rfl ?_
  refine k_bipush d_Meanings_sum_5 cB_6 ?_
  refine k_icge d_Meanings_sum_7 rfl (fun c5 => ?_) (fun c5 => ?_)
  · have h := ineg c5 h
    refine k_iload_n d_Meanings_sum_33 rfl ?_
    exact k_iret d_Meanings_sum_34 (Or.inl rfl) h
  · have h := ipos c5 h
    refine k_iload_n d_Meanings_sum_10 rfl ?_
    refine k_aload_n d_Meanings_sum_11 rfl ?_
    refine k_getR d_Meanings_sum_12 fl_10_42 ob_10 rfl ?_
    refine k_iload_n d_Meanings_sum_15 rfl ?_
    obtain ⟨p12, h⟩ := h
    refine k_ild (x := (σ4.2 160 (Int.toNat s3.2))) d_Meanings_sum_16 rI_160 p12 rfl ?_
    have hV8 : OkI BF L d 10 b_Meanings_sum 3 1 25 [.inl (if 0 < (σ4.2 160 (Int.toNat s3.2)) then (1 : Int) else (0 : Int)), .inl s3.1] [some (.inr 10), some (.inl s3.1), some (.inl s3.2)] σ4 (qi Q) := by
      obtain ⟨p7, h⟩ := h
      refine k_iadd d_Meanings_sum_25 p7 ?_
      refine k_istore_n (lv' := [some (.inr 10), some (.inl (s3.1 + (if 0 < (σ4.2 160 (Int.toNat s3.2)) then (1 : Int) else (0 : Int)))), some (.inl s3.2)]) d_Meanings_sum_26 rfl rfl ?_
      obtain ⟨p6, h⟩ := h
      refine k_iinc (lv' := [some (.inr 10), some (.inl (s3.1 + (if 0 < (σ4.2 160 (Int.toNat s3.2)) then (1 : Int) else (0 : Int)))), some (.inl (s3.2 + 1))]) d_Meanings_sum_27 cI_1 rfl rfl p6 rfl ?_
      refine k_goto d_Meanings_sum_30 rfl ?_
      exact k_sb (sb_s (sb_s (sb_s sb_nil))) (hK2 ((s3.1 + (if 0 < (σ4.2 160 (Int.toNat s3.2)) then (1 : Int) else (0 : Int))), (s3.2 + 1)) _ h)
    refine k_ifle d_Meanings_sum_17 rfl (fun c9 => ?_) (fun c9 => ?_)
    · have hV11 := k_eqI (if_neg c9) hV8
      refine k_iconst d_Meanings_sum_24 cI_0 ?_
      exact hV11
    · have hV10 := k_eqI (if_pos c9) hV8
      refine k_iconst d_Meanings_sum_20 cI_1 ?_
      refine k_goto d_Meanings_sum_21 rfl ?_
      exact hV10
theorem d_Writer_put_0 : decode b_Writer_put 0 = .ok (.aload_n 0, 1) := by decide +kernel
theorem d_Writer_put_1 : decode b_Writer_put 1 = .ok (.getfield 40, 3) := by decide +kernel
theorem d_Writer_put_4 : decode b_Writer_put 4 = .ok (.ldc 23, 2) := by decide +kernel
theorem d_Writer_put_6 : decode b_Writer_put 6 = .ok (.if_icmp .ge 27, 3) := by decide +kernel
theorem d_Writer_put_9 : decode b_Writer_put 9 = .ok (.aload_n 0, 1) := by decide +kernel
theorem d_Writer_put_10 : decode b_Writer_put 10 = .ok (.getfield 28, 3) := by decide +kernel
theorem d_Writer_put_13 : decode b_Writer_put 13 = .ok (.aload_n 0, 1) := by decide +kernel
theorem d_Writer_put_14 : decode b_Writer_put 14 = .ok (.getfield 40, 3) := by decide +kernel
theorem d_Writer_put_17 : decode b_Writer_put 17 = .ok (.iload_n 1, 1) := by decide +kernel
theorem d_Writer_put_18 : decode b_Writer_put 18 = .ok (.i2b, 1) := by decide +kernel
theorem d_Writer_put_19 : decode b_Writer_put 19 = .ok (.bastore, 1) := by decide +kernel
theorem d_Writer_put_20 : decode b_Writer_put 20 = .ok (.aload_n 0, 1) := by decide +kernel
theorem d_Writer_put_21 : decode b_Writer_put 21 = .ok (.dup, 1) := by decide +kernel
theorem d_Writer_put_22 : decode b_Writer_put 22 = .ok (.getfield 40, 3) := by decide +kernel
theorem d_Writer_put_25 : decode b_Writer_put 25 = .ok (.iconst 1, 1) := by decide +kernel
theorem d_Writer_put_26 : decode b_Writer_put 26 = .ok (.iadd, 1) := by decide +kernel
theorem d_Writer_put_27 : decode b_Writer_put 27 = .ok (.putfield 40, 3) := by decide +kernel
theorem d_Writer_put_30 : decode b_Writer_put 30 = .ok (.goto 8, 3) := by decide +kernel
theorem d_Writer_put_33 : decode b_Writer_put 33 = .ok (.aload_n 0, 1) := by decide +kernel
theorem d_Writer_put_34 : decode b_Writer_put 34 = .ok (.iconst 1, 1) := by decide +kernel
theorem d_Writer_put_35 : decode b_Writer_put 35 = .ok (.putfield 44, 3) := by decide +kernel
theorem d_Writer_put_38 : decode b_Writer_put 38 = .ok (.return_, 1) := by decide +kernel
/-- Writer_put -/
def w_Writer_put (L : Nat → Nat) (a1 : Int) (Q : IS → Prop) (σ : IS) : Prop := WJ (fun (s3 : Unit) (σ4 : IS) => Q σ4) (fun J1 => if (σ.1 11 6) < 262144 then dyB (σ.1 11 5) ∧ inL L (Int.toNat (σ.1 11 5)) (σ.1 11 6) ∧ inR ((σ.1 11 6) + 1) ∧ J1 () (pf (pr σ (Int.toNat (σ.1 11 5)) (Int.toNat (σ.1 11 6)) (nb a1)) 11 6 ((σ.1 11 6) + 1)) else J1 () (pf σ 11 7 1))
set_option maxHeartbeats 4000000 in
set_option maxRecDepth 20000 in
theorem s_Writer_put {L : Nat → Nat} (hL : ∀ r, L r < 2147483648) {d : Nat} (hd : 0 ≤ d) {a1 : Int} {Q : IS → Prop} {σ : IS}  (h : w_Writer_put L a1 Q σ) : OkI BF L d 11 b_Writer_put 2 0 0 [] [some (.inr 11), some (.inl a1)] σ (qv Q) := by
  unfold w_Writer_put at h
  refine k_sb (lv' := [some (.inr 11), some (.inl a1)]) (sb_s (sb_s sb_nil)) ?_
  refine k_aload_n d_Writer_put_0 rfl ?_
  refine k_getI (x := (σ.1 11 6)) d_Writer_put_1 fl_11_40 ob_11 rfl rfl ?_
  refine k_ldc d_Writer_put_4 ks_11_23 cL_262144 ?_
  refine k_join (S := Unit) (pc' := 38) (st' := fun s3 => []) (lv' := fun s3 => [none, none]) (fun s3 σ4 h => ?_) (fun J1 hJ2 h => ?_) h
  · exact k_ret d_Writer_put_38 h
  · refine k_icge d_Writer_put_6 rfl (fun c5 => ?_) (fun c5 => ?_)
    · have h := ineg c5 h
      refine k_aload_n d_Writer_put_33 rfl ?_
      refine k_iconst d_Writer_put_34 cI_1 ?_
      refine k_putZ d_Writer_put_35 fl_11_44 ob_11 rfl (Or.inr rfl) ?_
      exact k_sb (sb_n (sb_n sb_nil)) (hJ2 () _ h)
    · have h := ipos c5 h
      refine k_aload_n d_Writer_put_9 rfl ?_
      obtain ⟨y6, h⟩ := h
      refine k_getD (x := (σ.1 11 5)) d_Writer_put_10 fl_11_28 ob_11 rfl rfl (dyB_pos y6) ?_
      refine k_aload_n d_Writer_put_13 rfl ?_
      refine k_getI (x := (σ.1 11 6)) d_Writer_put_14 fl_11_40 ob_11 rfl rfl ?_
      refine k_iload_n d_Writer_put_17 rfl ?_
      refine k_i2b d_Writer_put_18 ?_
      obtain ⟨p8, h⟩ := h
      refine k_bst d_Writer_put_19 (dyB_row y6) p8 (nb_in _) ?_
      refine k_aload_n d_Writer_put_20 rfl ?_
      refine k_dup d_Writer_put_21 ?_
      refine k_getI (x := (σ.1 11 6)) d_Writer_put_22 fl_11_40 ob_11 rfl rfl ?_
      refine k_iconst d_Writer_put_25 cI_1 ?_
      obtain ⟨p7, h⟩ := h
      refine k_iadd d_Writer_put_26 p7 ?_
      refine k_putI d_Writer_put_27 fl_11_40 ob_11 rfl ?_
      refine k_goto d_Writer_put_30 rfl ?_
      exact k_sb (sb_n (sb_n sb_nil)) (hJ2 () _ h)
theorem d_Writer_putText_0 : decode b_Writer_putText 0 = .ok (.iconst 0, 1) := by decide +kernel
theorem d_Writer_putText_1 : decode b_Writer_putText 1 = .ok (.istore_n 2, 1) := by decide +kernel
theorem d_Writer_putText_2 : decode b_Writer_putText 2 = .ok (.iload_n 2, 1) := by decide +kernel
theorem d_Writer_putText_3 : decode b_Writer_putText 3 = .ok (.aload_n 1, 1) := by decide +kernel
theorem d_Writer_putText_4 : decode b_Writer_putText 4 = .ok (.invokevirtual 163, 3) := by decide +kernel
theorem d_Writer_putText_7 : decode b_Writer_putText 7 = .ok (.if_icmp .ge 18, 3) := by decide +kernel
theorem d_Writer_putText_10 : decode b_Writer_putText 10 = .ok (.aload_n 0, 1) := by decide +kernel
theorem d_Writer_putText_11 : decode b_Writer_putText 11 = .ok (.aload_n 1, 1) := by decide +kernel
theorem d_Writer_putText_12 : decode b_Writer_putText 12 = .ok (.iload_n 2, 1) := by decide +kernel
theorem d_Writer_putText_13 : decode b_Writer_putText 13 = .ok (.invokevirtual 169, 3) := by decide +kernel
theorem d_Writer_putText_16 : decode b_Writer_putText 16 = .ok (.invokevirtual 85, 3) := by decide +kernel
theorem d_Writer_putText_19 : decode b_Writer_putText 19 = .ok (.iinc 2 1, 3) := by decide +kernel
theorem d_Writer_putText_22 : decode b_Writer_putText 22 = .ok (.goto (-20), 3) := by decide +kernel
theorem d_Writer_putText_25 : decode b_Writer_putText 25 = .ok (.return_, 1) := by decide +kernel
/-- Writer_putText -/
def w_Writer_putText (L : Nat → Nat) (a1 : Nat) (Q : IS → Prop) (σ : IS) : Prop := WL (fun (K1 : Int → IS → Prop) (s3 : Int) (σ4 : IS) => if s3 < (tN a1) then ((0 : Int) ≤ s3 ∧ s3 < tN a1) ∧ w_Writer_put L (tC a1 s3) (fun σ6 => inR (s3 + 1) ∧ K1 (s3 + 1) σ6) σ4 else Q σ4) 0 σ
set_option maxHeartbeats 4000000 in
set_option maxRecDepth 20000 in
theorem s_Writer_putText {L : Nat → Nat} (hL : ∀ r, L r < 2147483648) {d : Nat} (hd : 1 ≤ d) {a1 : Nat} {Q : IS → Prop} {σ : IS} (ha1 : isT a1) (h : w_Writer_putText L a1 Q σ) : OkI BF L d 11 b_Writer_putText 3 0 0 [] [some (.inr 11), some (.inr a1)] σ (qv Q) := by
  unfold w_Writer_putText at h
  obtain ⟨d, rfl⟩ : ∃ e, d = e + 1 := ⟨d - 1, by omega⟩
  refine k_sb (lv' := [some (.inr 11), some (.inr a1), none]) (sb_s (sb_s (sb_e sb_nil))) ?_
  refine k_iconst d_Writer_putText_0 cI_0 ?_
  refine k_istore_n (lv' := [some (.inr 11), some (.inr a1), some (.inl 0)]) d_Writer_putText_1 rfl rfl ?_
  refine k_sb (lv' := [some (.inr 11), some (.inr a1), some (.inl 0)]) (sb_s (sb_s (sb_s sb_nil))) ?_
  refine k_loop (S := Int) (st := fun _ => []) (lv := fun s3 => [some (.inr 11), some (.inr a1), some (.inl s3)]) (fun K1 hK2 s3 σ4 h => ?_) 0 _ h
  refine k_iload_n d_Writer_putText_2 rfl ?_
  refine k_aload_n d_Writer_putText_3 rfl ?_
  refine k_tlen d_Writer_putText_4 ml_11_163 ha1 rfl ?_
  refine k_icge d_Writer_putText_7 rfl (fun c5 => ?_) (fun c5 => ?_)
  · have h := ineg c5 h
    exact k_ret d_Writer_putText_25 h
  · have h := ipos c5 h
    refine k_aload_n d_Writer_putText_10 rfl ?_
    refine k_aload_n d_Writer_putText_11 rfl ?_
    refine k_iload_n d_Writer_putText_12 rfl ?_
    obtain ⟨p9, h⟩ := h
    refine k_tchr d_Writer_putText_13 ml_11_169 ha1 p9 rfl ?_
    refine k_cvv [.inl (tC a1 s3)] d_Writer_putText_16 ml_11_85 rfl rfl ob_11 rfl (s_Writer_put hL (by omega)  h) (fun σ6 h => ?_)
    obtain ⟨p8, h⟩ := h
    refine k_iinc (lv' := [some (.inr 11), some (.inr a1), some (.inl (s3 + 1))]) d_Writer_putText_19 cI_1 rfl rfl p8 rfl ?_
    refine k_goto d_Writer_putText_22 rfl ?_
    exact k_sb (sb_s (sb_s (sb_s sb_nil))) (hK2 (s3 + 1) _ h)
theorem d_Writer_putBytes_0 : decode b_Writer_putBytes 0 = .ok (.iload_n 1, 1) := by decide +kernel
theorem d_Writer_putBytes_1 : decode b_Writer_putBytes 1 = .ok (.sipush 128, 3) := by decide +kernel
theorem d_Writer_putBytes_4 : decode b_Writer_putBytes 4 = .ok (.if_icmp .ge 11, 3) := by decide +kernel
theorem d_Writer_putBytes_7 : decode b_Writer_putBytes 7 = .ok (.aload_n 0, 1) := by decide +kernel
theorem d_Writer_putBytes_8 : decode b_Writer_putBytes 8 = .ok (.iload_n 1, 1) := by decide +kernel
theorem d_Writer_putBytes_9 : decode b_Writer_putBytes 9 = .ok (.invokevirtual 85, 3) := by decide +kernel
theorem d_Writer_putBytes_12 : decode b_Writer_putBytes 12 = .ok (.goto 139, 3) := by decide +kernel
theorem d_Writer_putBytes_15 : decode b_Writer_putBytes 15 = .ok (.iload_n 1, 1) := by decide +kernel
theorem d_Writer_putBytes_16 : decode b_Writer_putBytes 16 = .ok (.sipush 2048, 3) := by decide +kernel
theorem d_Writer_putBytes_19 : decode b_Writer_putBytes 19 = .ok (.if_icmp .ge 30, 3) := by decide +kernel
theorem d_Writer_putBytes_22 : decode b_Writer_putBytes 22 = .ok (.aload_n 0, 1) := by decide +kernel
theorem d_Writer_putBytes_23 : decode b_Writer_putBytes 23 = .ok (.sipush 192, 3) := by decide +kernel
theorem d_Writer_putBytes_26 : decode b_Writer_putBytes 26 = .ok (.iload_n 1, 1) := by decide +kernel
theorem d_Writer_putBytes_27 : decode b_Writer_putBytes 27 = .ok (.bipush 6, 2) := by decide +kernel
theorem d_Writer_putBytes_29 : decode b_Writer_putBytes 29 = .ok (.ishr, 1) := by decide +kernel
theorem d_Writer_putBytes_30 : decode b_Writer_putBytes 30 = .ok (.ior, 1) := by decide +kernel
theorem d_Writer_putBytes_31 : decode b_Writer_putBytes 31 = .ok (.invokevirtual 85, 3) := by decide +kernel
theorem d_Writer_putBytes_34 : decode b_Writer_putBytes 34 = .ok (.aload_n 0, 1) := by decide +kernel
theorem d_Writer_putBytes_35 : decode b_Writer_putBytes 35 = .ok (.sipush 128, 3) := by decide +kernel
theorem d_Writer_putBytes_38 : decode b_Writer_putBytes 38 = .ok (.iload_n 1, 1) := by decide +kernel
theorem d_Writer_putBytes_39 : decode b_Writer_putBytes 39 = .ok (.bipush 63, 2) := by decide +kernel
theorem d_Writer_putBytes_41 : decode b_Writer_putBytes 41 = .ok (.iand, 1) := by decide +kernel
theorem d_Writer_putBytes_42 : decode b_Writer_putBytes 42 = .ok (.ior, 1) := by decide +kernel
theorem d_Writer_putBytes_43 : decode b_Writer_putBytes 43 = .ok (.invokevirtual 85, 3) := by decide +kernel
theorem d_Writer_putBytes_46 : decode b_Writer_putBytes 46 = .ok (.goto 105, 3) := by decide +kernel
theorem d_Writer_putBytes_49 : decode b_Writer_putBytes 49 = .ok (.iload_n 1, 1) := by decide +kernel
theorem d_Writer_putBytes_50 : decode b_Writer_putBytes 50 = .ok (.ldc 173, 2) := by decide +kernel
theorem d_Writer_putBytes_52 : decode b_Writer_putBytes 52 = .ok (.if_icmp .ge 45, 3) := by decide +kernel
theorem d_Writer_putBytes_55 : decode b_Writer_putBytes 55 = .ok (.aload_n 0, 1) := by decide +kernel
theorem d_Writer_putBytes_56 : decode b_Writer_putBytes 56 = .ok (.sipush 224, 3) := by decide +kernel
theorem d_Writer_putBytes_59 : decode b_Writer_putBytes 59 = .ok (.iload_n 1, 1) := by decide +kernel
theorem d_Writer_putBytes_60 : decode b_Writer_putBytes 60 = .ok (.bipush 12, 2) := by decide +kernel
theorem d_Writer_putBytes_62 : decode b_Writer_putBytes 62 = .ok (.ishr, 1) := by decide +kernel
theorem d_Writer_putBytes_63 : decode b_Writer_putBytes 63 = .ok (.ior, 1) := by decide +kernel
theorem d_Writer_putBytes_64 : decode b_Writer_putBytes 64 = .ok (.invokevirtual 85, 3) := by decide +kernel
theorem d_Writer_putBytes_67 : decode b_Writer_putBytes 67 = .ok (.aload_n 0, 1) := by decide +kernel
theorem d_Writer_putBytes_68 : decode b_Writer_putBytes 68 = .ok (.sipush 128, 3) := by decide +kernel
theorem d_Writer_putBytes_71 : decode b_Writer_putBytes 71 = .ok (.iload_n 1, 1) := by decide +kernel
theorem d_Writer_putBytes_72 : decode b_Writer_putBytes 72 = .ok (.bipush 6, 2) := by decide +kernel
theorem d_Writer_putBytes_74 : decode b_Writer_putBytes 74 = .ok (.ishr, 1) := by decide +kernel
theorem d_Writer_putBytes_75 : decode b_Writer_putBytes 75 = .ok (.bipush 63, 2) := by decide +kernel
theorem d_Writer_putBytes_77 : decode b_Writer_putBytes 77 = .ok (.iand, 1) := by decide +kernel
theorem d_Writer_putBytes_78 : decode b_Writer_putBytes 78 = .ok (.ior, 1) := by decide +kernel
theorem d_Writer_putBytes_79 : decode b_Writer_putBytes 79 = .ok (.invokevirtual 85, 3) := by decide +kernel
theorem d_Writer_putBytes_82 : decode b_Writer_putBytes 82 = .ok (.aload_n 0, 1) := by decide +kernel
theorem d_Writer_putBytes_83 : decode b_Writer_putBytes 83 = .ok (.sipush 128, 3) := by decide +kernel
theorem d_Writer_putBytes_86 : decode b_Writer_putBytes 86 = .ok (.iload_n 1, 1) := by decide +kernel
theorem d_Writer_putBytes_87 : decode b_Writer_putBytes 87 = .ok (.bipush 63, 2) := by decide +kernel
theorem d_Writer_putBytes_89 : decode b_Writer_putBytes 89 = .ok (.iand, 1) := by decide +kernel
theorem d_Writer_putBytes_90 : decode b_Writer_putBytes 90 = .ok (.ior, 1) := by decide +kernel
theorem d_Writer_putBytes_91 : decode b_Writer_putBytes 91 = .ok (.invokevirtual 85, 3) := by decide +kernel
theorem d_Writer_putBytes_94 : decode b_Writer_putBytes 94 = .ok (.goto 57, 3) := by decide +kernel
theorem d_Writer_putBytes_97 : decode b_Writer_putBytes 97 = .ok (.aload_n 0, 1) := by decide +kernel
theorem d_Writer_putBytes_98 : decode b_Writer_putBytes 98 = .ok (.sipush 240, 3) := by decide +kernel
theorem d_Writer_putBytes_101 : decode b_Writer_putBytes 101 = .ok (.iload_n 1, 1) := by decide +kernel
theorem d_Writer_putBytes_102 : decode b_Writer_putBytes 102 = .ok (.bipush 18, 2) := by decide +kernel
theorem d_Writer_putBytes_104 : decode b_Writer_putBytes 104 = .ok (.ishr, 1) := by decide +kernel
theorem d_Writer_putBytes_105 : decode b_Writer_putBytes 105 = .ok (.ior, 1) := by decide +kernel
theorem d_Writer_putBytes_106 : decode b_Writer_putBytes 106 = .ok (.invokevirtual 85, 3) := by decide +kernel
theorem d_Writer_putBytes_109 : decode b_Writer_putBytes 109 = .ok (.aload_n 0, 1) := by decide +kernel
theorem d_Writer_putBytes_110 : decode b_Writer_putBytes 110 = .ok (.sipush 128, 3) := by decide +kernel
theorem d_Writer_putBytes_113 : decode b_Writer_putBytes 113 = .ok (.iload_n 1, 1) := by decide +kernel
theorem d_Writer_putBytes_114 : decode b_Writer_putBytes 114 = .ok (.bipush 12, 2) := by decide +kernel
theorem d_Writer_putBytes_116 : decode b_Writer_putBytes 116 = .ok (.ishr, 1) := by decide +kernel
theorem d_Writer_putBytes_117 : decode b_Writer_putBytes 117 = .ok (.bipush 63, 2) := by decide +kernel
theorem d_Writer_putBytes_119 : decode b_Writer_putBytes 119 = .ok (.iand, 1) := by decide +kernel
theorem d_Writer_putBytes_120 : decode b_Writer_putBytes 120 = .ok (.ior, 1) := by decide +kernel
theorem d_Writer_putBytes_121 : decode b_Writer_putBytes 121 = .ok (.invokevirtual 85, 3) := by decide +kernel
theorem d_Writer_putBytes_124 : decode b_Writer_putBytes 124 = .ok (.aload_n 0, 1) := by decide +kernel
theorem d_Writer_putBytes_125 : decode b_Writer_putBytes 125 = .ok (.sipush 128, 3) := by decide +kernel
theorem d_Writer_putBytes_128 : decode b_Writer_putBytes 128 = .ok (.iload_n 1, 1) := by decide +kernel
theorem d_Writer_putBytes_129 : decode b_Writer_putBytes 129 = .ok (.bipush 6, 2) := by decide +kernel
theorem d_Writer_putBytes_131 : decode b_Writer_putBytes 131 = .ok (.ishr, 1) := by decide +kernel
theorem d_Writer_putBytes_132 : decode b_Writer_putBytes 132 = .ok (.bipush 63, 2) := by decide +kernel
theorem d_Writer_putBytes_134 : decode b_Writer_putBytes 134 = .ok (.iand, 1) := by decide +kernel
theorem d_Writer_putBytes_135 : decode b_Writer_putBytes 135 = .ok (.ior, 1) := by decide +kernel
theorem d_Writer_putBytes_136 : decode b_Writer_putBytes 136 = .ok (.invokevirtual 85, 3) := by decide +kernel
theorem d_Writer_putBytes_139 : decode b_Writer_putBytes 139 = .ok (.aload_n 0, 1) := by decide +kernel
theorem d_Writer_putBytes_140 : decode b_Writer_putBytes 140 = .ok (.sipush 128, 3) := by decide +kernel
theorem d_Writer_putBytes_143 : decode b_Writer_putBytes 143 = .ok (.iload_n 1, 1) := by decide +kernel
theorem d_Writer_putBytes_144 : decode b_Writer_putBytes 144 = .ok (.bipush 63, 2) := by decide +kernel
theorem d_Writer_putBytes_146 : decode b_Writer_putBytes 146 = .ok (.iand, 1) := by decide +kernel
theorem d_Writer_putBytes_147 : decode b_Writer_putBytes 147 = .ok (.ior, 1) := by decide +kernel
theorem d_Writer_putBytes_148 : decode b_Writer_putBytes 148 = .ok (.invokevirtual 85, 3) := by decide +kernel
theorem d_Writer_putBytes_151 : decode b_Writer_putBytes 151 = .ok (.return_, 1) := by decide +kernel
/-- Writer_putBytes -/
def w_Writer_putBytes (L : Nat → Nat) (a1 : Int) (Q : IS → Prop) (σ : IS) : Prop := WJ (fun (s3 : Unit) (σ4 : IS) => Q σ4) (fun J1 => if a1 < 128 then w_Writer_put L a1 (fun σ26 => J1 () σ26) σ else if a1 < 2048 then w_Writer_put L (io 192 (isr a1 6)) (fun σ22 => w_Writer_put L (io 128 (ia a1 63)) (fun σ24 => J1 () σ24) σ22) σ else if a1 < 65536 then w_Writer_put L (io 224 (isr a1 12)) (fun σ16 => w_Writer_put L (io 128 (ia (isr a1 6) 63)) (fun σ18 => w_Writer_put L (io 128 (ia a1 63)) (fun σ20 => J1 () σ20) σ18) σ16) σ else w_Writer_put L (io 240 (isr a1 18)) (fun σ8 => w_Writer_put L (io 128 (ia (isr a1 12) 63)) (fun σ10 => w_Writer_put L (io 128 (ia (isr a1 6) 63)) (fun σ12 => w_Writer_put L (io 128 (ia a1 63)) (fun σ14 => J1 () σ14) σ12) σ10) σ8) σ)
set_option maxHeartbeats 4000000 in
set_option maxRecDepth 20000 in
theorem s_Writer_putBytes {L : Nat → Nat} (hL : ∀ r, L r < 2147483648) {d : Nat} (hd : 1 ≤ d) {a1 : Int} {Q : IS → Prop} {σ : IS}  (h : w_Writer_putBytes L a1 Q σ) : OkI BF L d 11 b_Writer_putBytes 2 0 0 [] [some (.inr 11), some (.inl a1)] σ (qv Q) := by
  unfold w_Writer_putBytes at h
  obtain ⟨d, rfl⟩ : ∃ e, d = e + 1 := ⟨d - 1, by omega⟩
  refine k_sb (lv' := [some (.inr 11), some (.inl a1)]) (sb_s (sb_s sb_nil)) ?_
  refine k_iload_n d_Writer_putBytes_0 rfl ?_
  refine k_sipush d_Writer_putBytes_1 cS_128 ?_
  refine k_join (S := Unit) (pc' := 151) (st' := fun s3 => []) (lv' := fun s3 => [none, none]) (fun s3 σ4 h => ?_) (fun J1 hJ2 h => ?_) h
  · exact k_ret d_Writer_putBytes_151 h
  · refine k_icge d_Writer_putBytes_4 rfl (fun c5 => ?_) (fun c5 => ?_)
    · have h := ineg c5 h
      refine k_iload_n d_Writer_putBytes_15 rfl ?_
      refine k_sipush d_Writer_putBytes_16 cS_2048 ?_
      refine k_icge d_Writer_putBytes_19 rfl (fun c6 => ?_) (fun c6 => ?_)
      · have h := ineg c6 h
        refine k_iload_n d_Writer_putBytes_49 rfl ?_
        refine k_ldc d_Writer_putBytes_50 ks_11_173 cL_65536 ?_
        refine k_icge d_Writer_putBytes_52 rfl (fun c7 => ?_) (fun c7 => ?_)
        · have h := ineg c7 h
          refine k_aload_n d_Writer_putBytes_97 rfl ?_
          refine k_sipush d_Writer_putBytes_98 cS_240 ?_
          refine k_iload_n d_Writer_putBytes_101 rfl ?_
          refine k_bipush d_Writer_putBytes_102 cB_18 ?_
          refine k_ishr d_Writer_putBytes_104 ?_
          refine k_ior d_Writer_putBytes_105 ?_
          refine k_cvv [.inl (io 240 (isr a1 18))] d_Writer_putBytes_106 ml_11_85 rfl rfl ob_11 rfl (s_Writer_put hL (by omega)  h) (fun σ8 h => ?_)
          refine k_aload_n d_Writer_putBytes_109 rfl ?_
          refine k_sipush d_Writer_putBytes_110 cS_128 ?_
          refine k_iload_n d_Writer_putBytes_113 rfl ?_
          refine k_bipush d_Writer_putBytes_114 cB_12 ?_
          refine k_ishr d_Writer_putBytes_116 ?_
          refine k_bipush d_Writer_putBytes_117 cB_63 ?_
          refine k_iand d_Writer_putBytes_119 ?_
          refine k_ior d_Writer_putBytes_120 ?_
          refine k_cvv [.inl (io 128 (ia (isr a1 12) 63))] d_Writer_putBytes_121 ml_11_85 rfl rfl ob_11 rfl (s_Writer_put hL (by omega)  h) (fun σ10 h => ?_)
          refine k_aload_n d_Writer_putBytes_124 rfl ?_
          refine k_sipush d_Writer_putBytes_125 cS_128 ?_
          refine k_iload_n d_Writer_putBytes_128 rfl ?_
          refine k_bipush d_Writer_putBytes_129 cB_6 ?_
          refine k_ishr d_Writer_putBytes_131 ?_
          refine k_bipush d_Writer_putBytes_132 cB_63 ?_
          refine k_iand d_Writer_putBytes_134 ?_
          refine k_ior d_Writer_putBytes_135 ?_
          refine k_cvv [.inl (io 128 (ia (isr a1 6) 63))] d_Writer_putBytes_136 ml_11_85 rfl rfl ob_11 rfl (s_Writer_put hL (by omega)  h) (fun σ12 h => ?_)
          refine k_aload_n d_Writer_putBytes_139 rfl ?_
          refine k_sipush d_Writer_putBytes_140 cS_128 ?_
          refine k_iload_n d_Writer_putBytes_143 rfl ?_
          refine k_bipush d_Writer_putBytes_144 cB_63 ?_
          refine k_iand d_Writer_putBytes_146 ?_
          refine k_ior d_Writer_putBytes_147 ?_
          refine k_cvv [.inl (io 128 (ia a1 63))] d_Writer_putBytes_148 ml_11_85 rfl rfl ob_11 rfl (s_Writer_put hL (by omega)  h) (fun σ14 h => ?_)
          exact k_sb (sb_n (sb_n sb_nil)) (hJ2 () _ h)
        · have h := ipos c7 h
          refine k_aload_n d_Writer_putBytes_55 rfl ?_
          refine k_sipush d_Writer_putBytes_56 cS_224 ?_
          refine k_iload_n d_Writer_putBytes_59 rfl ?_
          refine k_bipush d_Writer_putBytes_60 cB_12 ?_
          refine k_ishr d_Writer_putBytes_62 ?_
          refine k_ior d_Writer_putBytes_63 ?_
          refine k_cvv [.inl (io 224 (isr a1 12))] d_Writer_putBytes_64 ml_11_85 rfl rfl ob_11 rfl (s_Writer_put hL (by omega)  h) (fun σ16 h => ?_)
          refine k_aload_n d_Writer_putBytes_67 rfl ?_
          refine k_sipush d_Writer_putBytes_68 cS_128 ?_
          refine k_iload_n d_Writer_putBytes_71 rfl ?_
          refine k_bipush d_Writer_putBytes_72 cB_6 ?_
          refine k_ishr d_Writer_putBytes_74 ?_
          refine k_bipush d_Writer_putBytes_75 cB_63 ?_
          refine k_iand d_Writer_putBytes_77 ?_
          refine k_ior d_Writer_putBytes_78 ?_
          refine k_cvv [.inl (io 128 (ia (isr a1 6) 63))] d_Writer_putBytes_79 ml_11_85 rfl rfl ob_11 rfl (s_Writer_put hL (by omega)  h) (fun σ18 h => ?_)
          refine k_aload_n d_Writer_putBytes_82 rfl ?_
          refine k_sipush d_Writer_putBytes_83 cS_128 ?_
          refine k_iload_n d_Writer_putBytes_86 rfl ?_
          refine k_bipush d_Writer_putBytes_87 cB_63 ?_
          refine k_iand d_Writer_putBytes_89 ?_
          refine k_ior d_Writer_putBytes_90 ?_
          refine k_cvv [.inl (io 128 (ia a1 63))] d_Writer_putBytes_91 ml_11_85 rfl rfl ob_11 rfl (s_Writer_put hL (by omega)  h) (fun σ20 h => ?_)
          refine k_goto d_Writer_putBytes_94 rfl ?_
          exact k_sb (sb_n (sb_n sb_nil)) (hJ2 () _ h)
      · have h := ipos c6 h
        refine k_aload_n d_Writer_putBytes_22 rfl ?_
        refine k_sipush d_Writer_putBytes_23 cS_192 ?_
        refine k_iload_n d_Writer_putBytes_26 rfl ?_
        refine k_bipush d_Writer_putBytes_27 cB_6 ?_
        refine k_ishr d_Writer_putBytes_29 ?_
        refine k_ior d_Writer_putBytes_30 ?_
        refine k_cvv [.inl (io 192 (isr a1 6))] d_Writer_putBytes_31 ml_11_85 rfl rfl ob_11 rfl (s_Writer_put hL (by omega)  h) (fun σ22 h => ?_)
        refine k_aload_n d_Writer_putBytes_34 rfl ?_
        refine k_sipush d_Writer_putBytes_35 cS_128 ?_
        refine k_iload_n d_Writer_putBytes_38 rfl ?_
        refine k_bipush d_Writer_putBytes_39 cB_63 ?_
        refine k_iand d_Writer_putBytes_41 ?_
        refine k_ior d_Writer_putBytes_42 ?_
        refine k_cvv [.inl (io 128 (ia a1 63))] d_Writer_putBytes_43 ml_11_85 rfl rfl ob_11 rfl (s_Writer_put hL (by omega)  h) (fun σ24 h => ?_)
        refine k_goto d_Writer_putBytes_46 rfl ?_
        exact k_sb (sb_n (sb_n sb_nil)) (hJ2 () _ h)
    · have h := ipos c5 h
      refine k_aload_n d_Writer_putBytes_7 rfl ?_
      refine k_iload_n d_Writer_putBytes_8 rfl ?_
      refine k_cvv [.inl a1] d_Writer_putBytes_9 ml_11_85 rfl rfl ob_11 rfl (s_Writer_put hL (by omega)  h) (fun σ26 h => ?_)
      refine k_goto d_Writer_putBytes_12 rfl ?_
      exact k_sb (sb_n (sb_n sb_nil)) (hJ2 () _ h)
theorem d_Writer_putCharacter_0 : decode b_Writer_putCharacter 0 = .ok (.iload_n 1, 1) := by decide +kernel
theorem d_Writer_putCharacter_1 : decode b_Writer_putCharacter 1 = .ok (.bipush 38, 2) := by decide +kernel
theorem d_Writer_putCharacter_3 : decode b_Writer_putCharacter 3 = .ok (.if_icmp .ne 12, 3) := by decide +kernel
theorem d_Writer_putCharacter_6 : decode b_Writer_putCharacter 6 = .ok (.aload_n 0, 1) := by decide +kernel
theorem d_Writer_putCharacter_7 : decode b_Writer_putCharacter 7 = .ok (.ldc 151, 2) := by decide +kernel
theorem d_Writer_putCharacter_9 : decode b_Writer_putCharacter 9 = .ok (.invokevirtual 113, 3) := by decide +kernel
theorem d_Writer_putCharacter_12 : decode b_Writer_putCharacter 12 = .ok (.goto 114, 3) := by decide +kernel
theorem d_Writer_putCharacter_15 : decode b_Writer_putCharacter 15 = .ok (.iload_n 1, 1) := by decide +kernel
theorem d_Writer_putCharacter_16 : decode b_Writer_putCharacter 16 = .ok (.bipush 60, 2) := by decide +kernel
theorem d_Writer_putCharacter_18 : decode b_Writer_putCharacter 18 = .ok (.if_icmp .ne 12, 3) := by decide +kernel
theorem d_Writer_putCharacter_21 : decode b_Writer_putCharacter 21 = .ok (.aload_n 0, 1) := by decide +kernel
theorem d_Writer_putCharacter_22 : decode b_Writer_putCharacter 22 = .ok (.ldc 153, 2) := by decide +kernel
theorem d_Writer_putCharacter_24 : decode b_Writer_putCharacter 24 = .ok (.invokevirtual 113, 3) := by decide +kernel
theorem d_Writer_putCharacter_27 : decode b_Writer_putCharacter 27 = .ok (.goto 99, 3) := by decide +kernel
theorem d_Writer_putCharacter_30 : decode b_Writer_putCharacter 30 = .ok (.iload_n 1, 1) := by decide +kernel
theorem d_Writer_putCharacter_31 : decode b_Writer_putCharacter 31 = .ok (.bipush 13, 2) := by decide +kernel
theorem d_Writer_putCharacter_33 : decode b_Writer_putCharacter 33 = .ok (.if_icmp .ne 12, 3) := by decide +kernel
theorem d_Writer_putCharacter_36 : decode b_Writer_putCharacter 36 = .ok (.aload_n 0, 1) := by decide +kernel
theorem d_Writer_putCharacter_37 : decode b_Writer_putCharacter 37 = .ok (.ldc 141, 2) := by decide +kernel
theorem d_Writer_putCharacter_39 : decode b_Writer_putCharacter 39 = .ok (.invokevirtual 113, 3) := by decide +kernel
theorem d_Writer_putCharacter_42 : decode b_Writer_putCharacter 42 = .ok (.goto 84, 3) := by decide +kernel
theorem d_Writer_putCharacter_45 : decode b_Writer_putCharacter 45 = .ok (.iload_n 1, 1) := by decide +kernel
theorem d_Writer_putCharacter_46 : decode b_Writer_putCharacter 46 = .ok (.bipush 62, 2) := by decide +kernel
theorem d_Writer_putCharacter_48 : decode b_Writer_putCharacter 48 = .ok (.if_icmp .ne 16, 3) := by decide +kernel
theorem d_Writer_putCharacter_51 : decode b_Writer_putCharacter 51 = .ok (.iload_n 2, 1) := by decide +kernel
theorem d_Writer_putCharacter_52 : decode b_Writer_putCharacter 52 = .ok (.ifCond .ne 12, 3) := by decide +kernel
theorem d_Writer_putCharacter_55 : decode b_Writer_putCharacter 55 = .ok (.aload_n 0, 1) := by decide +kernel
theorem d_Writer_putCharacter_56 : decode b_Writer_putCharacter 56 = .ok (.ldc 155, 2) := by decide +kernel
theorem d_Writer_putCharacter_58 : decode b_Writer_putCharacter 58 = .ok (.invokevirtual 113, 3) := by decide +kernel
theorem d_Writer_putCharacter_61 : decode b_Writer_putCharacter 61 = .ok (.goto 65, 3) := by decide +kernel
theorem d_Writer_putCharacter_64 : decode b_Writer_putCharacter 64 = .ok (.iload_n 1, 1) := by decide +kernel
theorem d_Writer_putCharacter_65 : decode b_Writer_putCharacter 65 = .ok (.bipush 34, 2) := by decide +kernel
theorem d_Writer_putCharacter_67 : decode b_Writer_putCharacter 67 = .ok (.if_icmp .ne 16, 3) := by decide +kernel
theorem d_Writer_putCharacter_70 : decode b_Writer_putCharacter 70 = .ok (.iload_n 2, 1) := by decide +kernel
theorem d_Writer_putCharacter_71 : decode b_Writer_putCharacter 71 = .ok (.ifCond .eq 12, 3) := by decide +kernel
theorem d_Writer_putCharacter_74 : decode b_Writer_putCharacter 74 = .ok (.aload_n 0, 1) := by decide +kernel
theorem d_Writer_putCharacter_75 : decode b_Writer_putCharacter 75 = .ok (.ldc 157, 2) := by decide +kernel
theorem d_Writer_putCharacter_77 : decode b_Writer_putCharacter 77 = .ok (.invokevirtual 113, 3) := by decide +kernel
theorem d_Writer_putCharacter_80 : decode b_Writer_putCharacter 80 = .ok (.goto 46, 3) := by decide +kernel
theorem d_Writer_putCharacter_83 : decode b_Writer_putCharacter 83 = .ok (.iload_n 1, 1) := by decide +kernel
theorem d_Writer_putCharacter_84 : decode b_Writer_putCharacter 84 = .ok (.bipush 9, 2) := by decide +kernel
theorem d_Writer_putCharacter_86 : decode b_Writer_putCharacter 86 = .ok (.if_icmp .ne 16, 3) := by decide +kernel
theorem d_Writer_putCharacter_89 : decode b_Writer_putCharacter 89 = .ok (.iload_n 2, 1) := by decide +kernel
theorem d_Writer_putCharacter_90 : decode b_Writer_putCharacter 90 = .ok (.ifCond .eq 12, 3) := by decide +kernel
theorem d_Writer_putCharacter_93 : decode b_Writer_putCharacter 93 = .ok (.aload_n 0, 1) := by decide +kernel
theorem d_Writer_putCharacter_94 : decode b_Writer_putCharacter 94 = .ok (.ldc 159, 2) := by decide +kernel
theorem d_Writer_putCharacter_96 : decode b_Writer_putCharacter 96 = .ok (.invokevirtual 113, 3) := by decide +kernel
theorem d_Writer_putCharacter_99 : decode b_Writer_putCharacter 99 = .ok (.goto 27, 3) := by decide +kernel
theorem d_Writer_putCharacter_102 : decode b_Writer_putCharacter 102 = .ok (.iload_n 1, 1) := by decide +kernel
theorem d_Writer_putCharacter_103 : decode b_Writer_putCharacter 103 = .ok (.bipush 10, 2) := by decide +kernel
theorem d_Writer_putCharacter_105 : decode b_Writer_putCharacter 105 = .ok (.if_icmp .ne 16, 3) := by decide +kernel
theorem d_Writer_putCharacter_108 : decode b_Writer_putCharacter 108 = .ok (.iload_n 2, 1) := by decide +kernel
theorem d_Writer_putCharacter_109 : decode b_Writer_putCharacter 109 = .ok (.ifCond .eq 12, 3) := by decide +kernel
theorem d_Writer_putCharacter_112 : decode b_Writer_putCharacter 112 = .ok (.aload_n 0, 1) := by decide +kernel
theorem d_Writer_putCharacter_113 : decode b_Writer_putCharacter 113 = .ok (.ldc 161, 2) := by decide +kernel
theorem d_Writer_putCharacter_115 : decode b_Writer_putCharacter 115 = .ok (.invokevirtual 113, 3) := by decide +kernel
theorem d_Writer_putCharacter_118 : decode b_Writer_putCharacter 118 = .ok (.goto 8, 3) := by decide +kernel
theorem d_Writer_putCharacter_121 : decode b_Writer_putCharacter 121 = .ok (.aload_n 0, 1) := by decide +kernel
theorem d_Writer_putCharacter_122 : decode b_Writer_putCharacter 122 = .ok (.iload_n 1, 1) := by decide +kernel
theorem d_Writer_putCharacter_123 : decode b_Writer_putCharacter 123 = .ok (.invokevirtual 138, 3) := by decide +kernel
theorem d_Writer_putCharacter_126 : decode b_Writer_putCharacter 126 = .ok (.return_, 1) := by decide +kernel
/-- Writer_putCharacter -/
def w_Writer_putCharacter (L : Nat → Nat) (a1 : Int) (a2 : Int) (Q : IS → Prop) (σ : IS) : Prop := WJ (fun (s3 : Unit) (σ4 : IS) => Q σ4) (fun J1 => if a1 = 38 then w_Writer_putText L 1090 (fun σ42 => J1 () σ42) σ else if a1 = 60 then w_Writer_putText L 1091 (fun σ40 => J1 () σ40) σ else if a1 = 13 then w_Writer_putText L 1088 (fun σ38 => J1 () σ38) σ else if a1 = 62 ∧ (a2 = 0) then w_Writer_putText L 1092 (fun σ8 => J1 () σ8) σ else if a1 = 34 ∧ (¬ a2 = 0) then w_Writer_putText L 1093 (fun σ10 => J1 () σ10) σ else if a1 = 9 ∧ (¬ a2 = 0) then w_Writer_putText L 1094 (fun σ12 => J1 () σ12) σ else if a1 = 10 ∧ (¬ a2 = 0) then w_Writer_putText L 1095 (fun σ14 => J1 () σ14) σ else w_Writer_putBytes L a1 (fun σ16 => J1 () σ16) σ)
set_option maxHeartbeats 4000000 in
set_option maxRecDepth 20000 in
theorem s_Writer_putCharacter {L : Nat → Nat} (hL : ∀ r, L r < 2147483648) {d : Nat} (hd : 2 ≤ d) {a1 : Int} {a2 : Int} {Q : IS → Prop} {σ : IS}  (h : w_Writer_putCharacter L a1 a2 Q σ) : OkI BF L d 11 b_Writer_putCharacter 3 0 0 [] [some (.inr 11), some (.inl a1), some (.inl a2)] σ (qv Q) := by
  unfold w_Writer_putCharacter at h
  obtain ⟨d, rfl⟩ : ∃ e, d = e + 1 := ⟨d - 1, by omega⟩
  refine k_sb (lv' := [some (.inr 11), some (.inl a1), some (.inl a2)]) (sb_s (sb_s (sb_s sb_nil))) ?_
  refine k_iload_n d_Writer_putCharacter_0 rfl ?_
  refine k_bipush d_Writer_putCharacter_1 cB_38 ?_
  refine k_join (S := Unit) (pc' := 126) (st' := fun s3 => []) (lv' := fun s3 => [none, none, none]) (fun s3 σ4 h => ?_) (fun J1 hJ2 h => ?_) h
  · exact k_ret d_Writer_putCharacter_126 h
  · refine k_icne d_Writer_putCharacter_3 rfl (fun c5 => ?_) (fun c5 => ?_)
    · have h := ineg c5 h
      refine k_iload_n d_Writer_putCharacter_15 rfl ?_
      refine k_bipush d_Writer_putCharacter_16 cB_60 ?_
      refine k_icne d_Writer_putCharacter_18 rfl (fun c6 => ?_) (fun c6 => ?_)
      · have h := ineg c6 h
        refine k_iload_n d_Writer_putCharacter_30 rfl ?_
        refine k_bipush d_Writer_putCharacter_31 cB_13 ?_
        refine k_icne d_Writer_putCharacter_33 rfl (fun c7 => ?_) (fun c7 => ?_)
        · have h := ineg c7 h
          refine k_iload_n d_Writer_putCharacter_45 rfl ?_
          refine k_bipush d_Writer_putCharacter_46 cB_62 ?_
          have hX33 : (a1 = 62 ∧ (a2 = 0)) → OkI BF L (d + 1) 11 b_Writer_putCharacter 3 0 55 [] [some (.inr 11), some (.inl a1), some (.inl a2)] σ (qv Q) := fun e35 => by
            have h := ipos e35 h
            refine k_aload_n d_Writer_putCharacter_55 rfl ?_
            refine k_ldc d_Writer_putCharacter_56 ks_11_155 rfl ?_
            refine k_cvv [.inr 1092] d_Writer_putCharacter_58 ml_11_113 rfl rfl ob_11 rfl (s_Writer_putText hL (by omega) it_1092 h) (fun σ8 h => ?_)
            refine k_goto d_Writer_putCharacter_61 rfl ?_
            exact k_sb (sb_n (sb_n (sb_n sb_nil))) (hJ2 () _ h)
          have hY34 : ¬ (a1 = 62 ∧ (a2 = 0)) → OkI BF L (d + 1) 11 b_Writer_putCharacter 3 0 64 [] [some (.inr 11), some (.inl a1), some (.inl a2)] σ (qv Q) := fun e35 => by
            have h := ineg e35 h
            refine k_iload_n d_Writer_putCharacter_64 rfl ?_
            refine k_bipush d_Writer_putCharacter_65 cB_34 ?_
            have hX28 : (a1 = 34 ∧ (¬ a2 = 0)) → OkI BF L (d + 1) 11 b_Writer_putCharacter 3 0 74 [] [some (.inr 11), some (.inl a1), some (.inl a2)] σ (qv Q) := fun e30 => by
              have h := ipos e30 h
              refine k_aload_n d_Writer_putCharacter_74 rfl ?_
              refine k_ldc d_Writer_putCharacter_75 ks_11_157 rfl ?_
              refine k_cvv [.inr 1093] d_Writer_putCharacter_77 ml_11_113 rfl rfl ob_11 rfl (s_Writer_putText hL (by omega) it_1093 h) (fun σ10 h => ?_)
              refine k_goto d_Writer_putCharacter_80 rfl ?_
              exact k_sb (sb_n (sb_n (sb_n sb_nil))) (hJ2 () _ h)
            have hY29 : ¬ (a1 = 34 ∧ (¬ a2 = 0)) → OkI BF L (d + 1) 11 b_Writer_putCharacter 3 0 83 [] [some (.inr 11), some (.inl a1), some (.inl a2)] σ (qv Q) := fun e30 => by
              have h := ineg e30 h
              refine k_iload_n d_Writer_putCharacter_83 rfl ?_
              refine k_bipush d_Writer_putCharacter_84 cB_9 ?_
              have hX23 : (a1 = 9 ∧ (¬ a2 = 0)) → OkI BF L (d + 1) 11 b_Writer_putCharacter 3 0 93 [] [some (.inr 11), some (.inl a1), some (.inl a2)] σ (qv Q) := fun e25 => by
                have h := ipos e25 h
                refine k_aload_n d_Writer_putCharacter_93 rfl ?_
                refine k_ldc d_Writer_putCharacter_94 ks_11_159 rfl ?_
                refine k_cvv [.inr 1094] d_Writer_putCharacter_96 ml_11_113 rfl rfl ob_11 rfl (s_Writer_putText hL (by omega) it_1094 h) (fun σ12 h => ?_)
                refine k_goto d_Writer_putCharacter_99 rfl ?_
                exact k_sb (sb_n (sb_n (sb_n sb_nil))) (hJ2 () _ h)
              have hY24 : ¬ (a1 = 9 ∧ (¬ a2 = 0)) → OkI BF L (d + 1) 11 b_Writer_putCharacter 3 0 102 [] [some (.inr 11), some (.inl a1), some (.inl a2)] σ (qv Q) := fun e25 => by
                have h := ineg e25 h
                refine k_iload_n d_Writer_putCharacter_102 rfl ?_
                refine k_bipush d_Writer_putCharacter_103 cB_10 ?_
                have hX18 : (a1 = 10 ∧ (¬ a2 = 0)) → OkI BF L (d + 1) 11 b_Writer_putCharacter 3 0 112 [] [some (.inr 11), some (.inl a1), some (.inl a2)] σ (qv Q) := fun e20 => by
                  have h := ipos e20 h
                  refine k_aload_n d_Writer_putCharacter_112 rfl ?_
                  refine k_ldc d_Writer_putCharacter_113 ks_11_161 rfl ?_
                  refine k_cvv [.inr 1095] d_Writer_putCharacter_115 ml_11_113 rfl rfl ob_11 rfl (s_Writer_putText hL (by omega) it_1095 h) (fun σ14 h => ?_)
                  refine k_goto d_Writer_putCharacter_118 rfl ?_
                  exact k_sb (sb_n (sb_n (sb_n sb_nil))) (hJ2 () _ h)
                have hY19 : ¬ (a1 = 10 ∧ (¬ a2 = 0)) → OkI BF L (d + 1) 11 b_Writer_putCharacter 3 0 121 [] [some (.inr 11), some (.inl a1), some (.inl a2)] σ (qv Q) := fun e20 => by
                  have h := ineg e20 h
                  refine k_aload_n d_Writer_putCharacter_121 rfl ?_
                  refine k_iload_n d_Writer_putCharacter_122 rfl ?_
                  refine k_cvv [.inl a1] d_Writer_putCharacter_123 ml_11_138 rfl rfl ob_11 rfl (s_Writer_putBytes hL (by omega)  h) (fun σ16 h => ?_)
                  exact k_sb (sb_n (sb_n (sb_n sb_nil))) (hJ2 () _ h)
                refine k_icne d_Writer_putCharacter_105 rfl (fun c21 => ?_) (fun c21 => ?_)
                · exact hY19 (fun z => c21 z.1)
                · refine k_iload_n d_Writer_putCharacter_108 rfl ?_
                  refine k_ifeq d_Writer_putCharacter_109 rfl (fun c22 => ?_) (fun c22 => ?_)
                  · exact hY19 (fun z => (fun z => z c22) z.2)
                  · exact hX18 (⟨c21, c22⟩)
              refine k_icne d_Writer_putCharacter_86 rfl (fun c26 => ?_) (fun c26 => ?_)
              · exact hY24 (fun z => c26 z.1)
              · refine k_iload_n d_Writer_putCharacter_89 rfl ?_
                refine k_ifeq d_Writer_putCharacter_90 rfl (fun c27 => ?_) (fun c27 => ?_)
                · exact hY24 (fun z => (fun z => z c27) z.2)
                · exact hX23 (⟨c26, c27⟩)
            refine k_icne d_Writer_putCharacter_67 rfl (fun c31 => ?_) (fun c31 => ?_)
            · exact hY29 (fun z => c31 z.1)
            · refine k_iload_n d_Writer_putCharacter_70 rfl ?_
              refine k_ifeq d_Writer_putCharacter_71 rfl (fun c32 => ?_) (fun c32 => ?_)
              · exact hY29 (fun z => (fun z => z c32) z.2)
              · exact hX28 (⟨c31, c32⟩)
          refine k_icne d_Writer_putCharacter_48 rfl (fun c36 => ?_) (fun c36 => ?_)
          · exact hY34 (fun z => c36 z.1)
          · refine k_iload_n d_Writer_putCharacter_51 rfl ?_
            refine k_ifne d_Writer_putCharacter_52 rfl (fun c37 => ?_) (fun c37 => ?_)
            · exact hY34 (fun z => (c37) z.2)
            · exact hX33 (⟨c36, c37⟩)
        · have h := ipos c7 h
          refine k_aload_n d_Writer_putCharacter_36 rfl ?_
          refine k_ldc d_Writer_putCharacter_37 ks_11_141 rfl ?_
          refine k_cvv [.inr 1088] d_Writer_putCharacter_39 ml_11_113 rfl rfl ob_11 rfl (s_Writer_putText hL (by omega) it_1088 h) (fun σ38 h => ?_)
          refine k_goto d_Writer_putCharacter_42 rfl ?_
          exact k_sb (sb_n (sb_n (sb_n sb_nil))) (hJ2 () _ h)
      · have h := ipos c6 h
        refine k_aload_n d_Writer_putCharacter_21 rfl ?_
        refine k_ldc d_Writer_putCharacter_22 ks_11_153 rfl ?_
        refine k_cvv [.inr 1091] d_Writer_putCharacter_24 ml_11_113 rfl rfl ob_11 rfl (s_Writer_putText hL (by omega) it_1091 h) (fun σ40 h => ?_)
        refine k_goto d_Writer_putCharacter_27 rfl ?_
        exact k_sb (sb_n (sb_n (sb_n sb_nil))) (hJ2 () _ h)
    · have h := ipos c5 h
      refine k_aload_n d_Writer_putCharacter_6 rfl ?_
      refine k_ldc d_Writer_putCharacter_7 ks_11_151 rfl ?_
      refine k_cvv [.inr 1090] d_Writer_putCharacter_9 ml_11_113 rfl rfl ob_11 rfl (s_Writer_putText hL (by omega) it_1090 h) (fun σ42 h => ?_)
      refine k_goto d_Writer_putCharacter_12 rfl ?_
      exact k_sb (sb_n (sb_n (sb_n sb_nil))) (hJ2 () _ h)
theorem d_Writer_putInstruction_0 : decode b_Writer_putInstruction 0 = .ok (.aload_n 0, 1) := by decide +kernel
theorem d_Writer_putInstruction_1 : decode b_Writer_putInstruction 1 = .ok (.getfield 15, 3) := by decide +kernel
theorem d_Writer_putInstruction_4 : decode b_Writer_putInstruction 4 = .ok (.getfield 57, 3) := by decide +kernel
theorem d_Writer_putInstruction_7 : decode b_Writer_putInstruction 7 = .ok (.astore_n 2, 1) := by decide +kernel
theorem d_Writer_putInstruction_8 : decode b_Writer_putInstruction 8 = .ok (.aload_n 0, 1) := by decide +kernel
theorem d_Writer_putInstruction_9 : decode b_Writer_putInstruction 9 = .ok (.getfield 51, 3) := by decide +kernel
theorem d_Writer_putInstruction_12 : decode b_Writer_putInstruction 12 = .ok (.iconst (-1), 1) := by decide +kernel
theorem d_Writer_putInstruction_13 : decode b_Writer_putInstruction 13 = .ok (.if_icmp .ne 16, 3) := by decide +kernel
theorem d_Writer_putInstruction_16 : decode b_Writer_putInstruction 16 = .ok (.aload_n 0, 1) := by decide +kernel
theorem d_Writer_putInstruction_17 : decode b_Writer_putInstruction 17 = .ok (.getfield 48, 3) := by decide +kernel
theorem d_Writer_putInstruction_20 : decode b_Writer_putInstruction 20 = .ok (.ifCond .eq 9, 3) := by decide +kernel
theorem d_Writer_putInstruction_23 : decode b_Writer_putInstruction 23 = .ok (.aload_n 0, 1) := by decide +kernel
theorem d_Writer_putInstruction_24 : decode b_Writer_putInstruction 24 = .ok (.bipush 10, 2) := by decide +kernel
theorem d_Writer_putInstruction_26 : decode b_Writer_putInstruction 26 = .ok (.invokevirtual 85, 3) := by decide +kernel
theorem d_Writer_putInstruction_29 : decode b_Writer_putInstruction 29 = .ok (.aload_n 0, 1) := by decide +kernel
theorem d_Writer_putInstruction_30 : decode b_Writer_putInstruction 30 = .ok (.ldc 131, 2) := by decide +kernel
theorem d_Writer_putInstruction_32 : decode b_Writer_putInstruction 32 = .ok (.invokevirtual 113, 3) := by decide +kernel
theorem d_Writer_putInstruction_35 : decode b_Writer_putInstruction 35 = .ok (.aload_n 2, 1) := by decide +kernel
theorem d_Writer_putInstruction_36 : decode b_Writer_putInstruction 36 = .ok (.iload_n 1, 1) := by decide +kernel
theorem d_Writer_putInstruction_37 : decode b_Writer_putInstruction 37 = .ok (.iaload, 1) := by decide +kernel
theorem d_Writer_putInstruction_38 : decode b_Writer_putInstruction 38 = .ok (.istore_n 3, 1) := by decide +kernel
theorem d_Writer_putInstruction_39 : decode b_Writer_putInstruction 39 = .ok (.iload_n 3, 1) := by decide +kernel
theorem d_Writer_putInstruction_40 : decode b_Writer_putInstruction 40 = .ok (.aload_n 2, 1) := by decide +kernel
theorem d_Writer_putInstruction_41 : decode b_Writer_putInstruction 41 = .ok (.iload_n 1, 1) := by decide +kernel
theorem d_Writer_putInstruction_42 : decode b_Writer_putInstruction 42 = .ok (.iaload, 1) := by decide +kernel
theorem d_Writer_putInstruction_43 : decode b_Writer_putInstruction 43 = .ok (.aload_n 2, 1) := by decide +kernel
theorem d_Writer_putInstruction_44 : decode b_Writer_putInstruction 44 = .ok (.iload_n 1, 1) := by decide +kernel
theorem d_Writer_putInstruction_45 : decode b_Writer_putInstruction 45 = .ok (.iconst 1, 1) := by decide +kernel
theorem d_Writer_putInstruction_46 : decode b_Writer_putInstruction 46 = .ok (.iadd, 1) := by decide +kernel
theorem d_Writer_putInstruction_47 : decode b_Writer_putInstruction 47 = .ok (.iaload, 1) := by decide +kernel
theorem d_Writer_putInstruction_48 : decode b_Writer_putInstruction 48 = .ok (.iadd, 1) := by decide +kernel
theorem d_Writer_putInstruction_49 : decode b_Writer_putInstruction 49 = .ok (.if_icmp .ge 22, 3) := by decide +kernel
theorem d_Writer_putInstruction_52 : decode b_Writer_putInstruction 52 = .ok (.aload_n 0, 1) := by decide +kernel
theorem d_Writer_putInstruction_53 : decode b_Writer_putInstruction 53 = .ok (.aload_n 0, 1) := by decide +kernel
theorem d_Writer_putInstruction_54 : decode b_Writer_putInstruction 54 = .ok (.getfield 9, 3) := by decide +kernel
theorem d_Writer_putInstruction_57 : decode b_Writer_putInstruction 57 = .ok (.getfield 133, 3) := by decide +kernel
theorem d_Writer_putInstruction_60 : decode b_Writer_putInstruction 60 = .ok (.iload_n 3, 1) := by decide +kernel
theorem d_Writer_putInstruction_61 : decode b_Writer_putInstruction 61 = .ok (.iaload, 1) := by decide +kernel
theorem d_Writer_putInstruction_62 : decode b_Writer_putInstruction 62 = .ok (.invokevirtual 138, 3) := by decide +kernel
theorem d_Writer_putInstruction_65 : decode b_Writer_putInstruction 65 = .ok (.iinc 3 1, 3) := by decide +kernel
theorem d_Writer_putInstruction_68 : decode b_Writer_putInstruction 68 = .ok (.goto (-29), 3) := by decide +kernel
theorem d_Writer_putInstruction_71 : decode b_Writer_putInstruction 71 = .ok (.aload_n 2, 1) := by decide +kernel
theorem d_Writer_putInstruction_72 : decode b_Writer_putInstruction 72 = .ok (.iload_n 1, 1) := by decide +kernel
theorem d_Writer_putInstruction_73 : decode b_Writer_putInstruction 73 = .ok (.iconst 2, 1) := by decide +kernel
theorem d_Writer_putInstruction_74 : decode b_Writer_putInstruction 74 = .ok (.iadd, 1) := by decide +kernel
theorem d_Writer_putInstruction_75 : decode b_Writer_putInstruction 75 = .ok (.iaload, 1) := by decide +kernel
theorem d_Writer_putInstruction_76 : decode b_Writer_putInstruction 76 = .ok (.istore_n 3, 1) := by decide +kernel
theorem d_Writer_putInstruction_77 : decode b_Writer_putInstruction 77 = .ok (.iload_n 3, 1) := by decide +kernel
theorem d_Writer_putInstruction_78 : decode b_Writer_putInstruction 78 = .ok (.aload_n 2, 1) := by decide +kernel
theorem d_Writer_putInstruction_79 : decode b_Writer_putInstruction 79 = .ok (.iload_n 1, 1) := by decide +kernel
theorem d_Writer_putInstruction_80 : decode b_Writer_putInstruction 80 = .ok (.iconst 3, 1) := by decide +kernel
theorem d_Writer_putInstruction_81 : decode b_Writer_putInstruction 81 = .ok (.iadd, 1) := by decide +kernel
theorem d_Writer_putInstruction_82 : decode b_Writer_putInstruction 82 = .ok (.iaload, 1) := by decide +kernel
theorem d_Writer_putInstruction_83 : decode b_Writer_putInstruction 83 = .ok (.iadd, 1) := by decide +kernel
theorem d_Writer_putInstruction_84 : decode b_Writer_putInstruction 84 = .ok (.istore 4, 2) := by decide +kernel
theorem d_Writer_putInstruction_86 : decode b_Writer_putInstruction 86 = .ok (.iload 4, 2) := by decide +kernel
theorem d_Writer_putInstruction_88 : decode b_Writer_putInstruction 88 = .ok (.iload_n 3, 1) := by decide +kernel
theorem d_Writer_putInstruction_89 : decode b_Writer_putInstruction 89 = .ok (.if_icmp .le 9, 3) := by decide +kernel
theorem d_Writer_putInstruction_92 : decode b_Writer_putInstruction 92 = .ok (.aload_n 0, 1) := by decide +kernel
theorem d_Writer_putInstruction_93 : decode b_Writer_putInstruction 93 = .ok (.bipush 32, 2) := by decide +kernel
theorem d_Writer_putInstruction_95 : decode b_Writer_putInstruction 95 = .ok (.invokevirtual 85, 3) := by decide +kernel
theorem d_Writer_putInstruction_98 : decode b_Writer_putInstruction 98 = .ok (.iload_n 3, 1) := by decide +kernel
theorem d_Writer_putInstruction_99 : decode b_Writer_putInstruction 99 = .ok (.istore 5, 2) := by decide +kernel
theorem d_Writer_putInstruction_101 : decode b_Writer_putInstruction 101 = .ok (.iload 5, 2) := by decide +kernel
theorem d_Writer_putInstruction_103 : decode b_Writer_putInstruction 103 = .ok (.iload 4, 2) := by decide +kernel
theorem d_Writer_putInstruction_105 : decode b_Writer_putInstruction 105 = .ok (.if_icmp .ge 54, 3) := by decide +kernel
theorem d_Writer_putInstruction_108 : decode b_Writer_putInstruction 108 = .ok (.aload_n 0, 1) := by decide +kernel
theorem d_Writer_putInstruction_109 : decode b_Writer_putInstruction 109 = .ok (.getfield 44, 3) := by decide +kernel
theorem d_Writer_putInstruction_112 : decode b_Writer_putInstruction 112 = .ok (.ifCond .ne 47, 3) := by decide +kernel
theorem d_Writer_putInstruction_115 : decode b_Writer_putInstruction 115 = .ok (.aload_n 0, 1) := by decide +kernel
theorem d_Writer_putInstruction_116 : decode b_Writer_putInstruction 116 = .ok (.getfield 9, 3) := by decide +kernel
theorem d_Writer_putInstruction_119 : decode b_Writer_putInstruction 119 = .ok (.getfield 133, 3) := by decide +kernel
theorem d_Writer_putInstruction_122 : decode b_Writer_putInstruction 122 = .ok (.iload 5, 2) := by decide +kernel
theorem d_Writer_putInstruction_124 : decode b_Writer_putInstruction 124 = .ok (.iaload, 1) := by decide +kernel
theorem d_Writer_putInstruction_125 : decode b_Writer_putInstruction 125 = .ok (.bipush 13, 2) := by decide +kernel
theorem d_Writer_putInstruction_127 : decode b_Writer_putInstruction 127 = .ok (.if_icmp .ne 12, 3) := by decide +kernel
theorem d_Writer_putInstruction_130 : decode b_Writer_putInstruction 130 = .ok (.aload_n 0, 1) := by decide +kernel
theorem d_Writer_putInstruction_131 : decode b_Writer_putInstruction 131 = .ok (.ldc 141, 2) := by decide +kernel
theorem d_Writer_putInstruction_133 : decode b_Writer_putInstruction 133 = .ok (.invokevirtual 113, 3) := by decide +kernel
theorem d_Writer_putInstruction_136 : decode b_Writer_putInstruction 136 = .ok (.goto 17, 3) := by decide +kernel
theorem d_Writer_putInstruction_139 : decode b_Writer_putInstruction 139 = .ok (.aload_n 0, 1) := by decide +kernel
theorem d_Writer_putInstruction_140 : decode b_Writer_putInstruction 140 = .ok (.aload_n 0, 1) := by decide +kernel
theorem d_Writer_putInstruction_141 : decode b_Writer_putInstruction 141 = .ok (.getfield 9, 3) := by decide +kernel
theorem d_Writer_putInstruction_144 : decode b_Writer_putInstruction 144 = .ok (.getfield 133, 3) := by decide +kernel
theorem d_Writer_putInstruction_147 : decode b_Writer_putInstruction 147 = .ok (.iload 5, 2) := by decide +kernel
theorem d_Writer_putInstruction_149 : decode b_Writer_putInstruction 149 = .ok (.iaload, 1) := by decide +kernel
theorem d_Writer_putInstruction_150 : decode b_Writer_putInstruction 150 = .ok (.invokevirtual 138, 3) := by decide +kernel
theorem d_Writer_putInstruction_153 : decode b_Writer_putInstruction 153 = .ok (.iinc 5 1, 3) := by decide +kernel
theorem d_Writer_putInstruction_156 : decode b_Writer_putInstruction 156 = .ok (.goto (-55), 3) := by decide +kernel
theorem d_Writer_putInstruction_159 : decode b_Writer_putInstruction 159 = .ok (.aload_n 0, 1) := by decide +kernel
theorem d_Writer_putInstruction_160 : decode b_Writer_putInstruction 160 = .ok (.ldc 143, 2) := by decide +kernel
theorem d_Writer_putInstruction_162 : decode b_Writer_putInstruction 162 = .ok (.invokevirtual 113, 3) := by decide +kernel
theorem d_Writer_putInstruction_165 : decode b_Writer_putInstruction 165 = .ok (.aload_n 0, 1) := by decide +kernel
theorem d_Writer_putInstruction_166 : decode b_Writer_putInstruction 166 = .ok (.getfield 48, 3) := by decide +kernel
theorem d_Writer_putInstruction_169 : decode b_Writer_putInstruction 169 = .ok (.ifCond .ne 9, 3) := by decide +kernel
theorem d_Writer_putInstruction_172 : decode b_Writer_putInstruction 172 = .ok (.aload_n 0, 1) := by decide +kernel
theorem d_Writer_putInstruction_173 : decode b_Writer_putInstruction 173 = .ok (.bipush 10, 2) := by decide +kernel
theorem d_Writer_putInstruction_175 : decode b_Writer_putInstruction 175 = .ok (.invokevirtual 85, 3) := by decide +kernel
theorem d_Writer_putInstruction_178 : decode b_Writer_putInstruction 178 = .ok (.return_, 1) := by decide +kernel
/-- Writer_putInstruction -/
def w_Writer_putInstruction (L : Nat → Nat) (a1 : Int) (Q : IS → Prop) (σ : IS) : Prop := WJ (fun (s3 : Unit) (σ4 : IS) => w_Writer_putText L 1087 (fun σ5 => inL L 136 a1 ∧ WL (fun (K7 : Int → IS → Prop) (s9 : Int) (σ10 : IS) => inL L 136 a1 ∧ inR (a1 + 1) ∧ inL L 136 (a1 + 1) ∧ inR ((σ10.2 136 (Int.toNat a1)) + (σ10.2 136 (Int.toNat (a1 + 1)))) ∧ if s9 < ((σ10.2 136 (Int.toNat a1)) + (σ10.2 136 (Int.toNat (a1 + 1)))) then inL L 101 s9 ∧ w_Writer_putBytes L (σ10.2 101 (Int.toNat s9)) (fun σ54 => inR (s9 + 1) ∧ K7 (s9 + 1) σ54) σ10 else inR (a1 + 2) ∧ inL L 136 (a1 + 2) ∧ inR (a1 + 3) ∧ inL L 136 (a1 + 3) ∧ inR ((σ10.2 136 (Int.toNat (a1 + 2))) + (σ10.2 136 (Int.toNat (a1 + 3)))) ∧ WJ (fun (s14 : Unit) (σ15 : IS) => WL (fun (K16 : Int → IS → Prop) (s18 : Int) (σ19 : IS) => if s18 < ((σ10.2 136 (Int.toNat (a1 + 2))) + (σ10.2 136 (Int.toNat (a1 + 3)))) ∧ ((σ19.1 11 7) = 0) then inL L 101 s18 ∧ WJ (fun (s22 : Unit) (σ23 : IS) => inR (s18 + 1) ∧ K16 (s18 + 1) σ23) (fun J20 => if (σ19.2 101 (Int.toNat s18)) = 13 then w_Writer_putText L 1088 (fun σ29 => J20 () σ29) σ19 else inL L 101 s18 ∧ w_Writer_putBytes L (σ19.2 101 (Int.toNat s18)) (fun σ26 => J20 () σ26) σ19) else w_Writer_putText L 1089 (fun σ32 => WJ (fun (s36 : Unit) (σ37 : IS) => Q σ37) (fun J34 => if (σ32.1 11 9) = 0 then w_Writer_put L 10 (fun σ39 => J34 () σ39) σ32 else J34 () σ32)) σ19) (σ10.2 136 (Int.toNat (a1 + 2))) σ15) (fun J12 => if (σ10.2 136 (Int.toNat (a1 + 2))) < ((σ10.2 136 (Int.toNat (a1 + 2))) + (σ10.2 136 (Int.toNat (a1 + 3)))) then w_Writer_put L 32 (fun σ47 => J12 () σ47) σ10 else J12 () σ10)) (σ5.2 136 (Int.toNat a1)) σ5) σ4) (fun J1 => if (σ.1 11 8) = (-1) ∧ (¬ (σ.1 11 9) = 0) then w_Writer_put L 10 (fun σ63 => J1 () σ63) σ else J1 () σ)
set_option maxHeartbeats 4000000 in
set_option maxRecDepth 20000 in
theorem s_Writer_putInstruction {L : Nat → Nat} (hL : ∀ r, L r < 2147483648) {d : Nat} (hd : 2 ≤ d) {a1 : Int} {Q : IS → Prop} {σ : IS}  (h : w_Writer_putInstruction L a1 Q σ) : OkI BF L d 11 b_Writer_putInstruction 6 0 0 [] [some (.inr 11), some (.inl a1)] σ (qv Q) := by
  unfold w_Writer_putInstruction at h
  obtain ⟨d, rfl⟩ : ∃ e, d = e + 1 := ⟨d - 1, by omega⟩
  refine k_sb (lv' := [some (.inr 11), some (.inl a1), none, none, none, none]) (sb_s (sb_s (sb_e (sb_e (sb_e (sb_e sb_nil)))))) ?_
  refine k_aload_n d_Writer_putInstruction_0 rfl ?_
  refine k_getR d_Writer_putInstruction_1 fl_11_15 ob_11 rfl ?_
  refine k_getR d_Writer_putInstruction_4 fl_11_57 ob_6 rfl ?_
  refine k_astore_n (lv' := [some (.inr 11), some (.inl a1), some (.inr 136), none, none, none]) d_Writer_putInstruction_7 rfl rfl ?_
  refine k_aload_n d_Writer_putInstruction_8 rfl ?_
  refine k_getI (x := (σ.1 11 8)) d_Writer_putInstruction_9 fl_11_51 ob_11 rfl rfl ?_
  refine k_iconst d_Writer_putInstruction_12 cI_m1 ?_
  refine k_join (S := Unit) (pc' := 29) (st' := fun s3 => []) (lv' := fun s3 => [some (.inr 11), some (.inl a1), some (.inr 136), none, none, none]) (fun s3 σ4 h => ?_) (fun J1 hJ2 h => ?_) h
  · refine k_aload_n d_Writer_putInstruction_29 rfl ?_
    refine k_ldc d_Writer_putInstruction_30 ks_11_131 rfl ?_
    refine k_cvv [.inr 1087] d_Writer_putInstruction_32 ml_11_113 rfl rfl ob_11 rfl (s_Writer_putText hL (by omega) it_1087 h) (fun σ5 h => ?_)
    refine k_aload_n d_Writer_putInstruction_35 rfl ?_
    refine k_iload_n d_Writer_putInstruction_36 rfl ?_
    obtain ⟨p62, h⟩ := h
    refine k_ild (x := (σ5.2 136 (Int.toNat a1))) d_Writer_putInstruction_37 rI_136 p62 rfl ?_
    refine k_istore_n (lv' := [some (.inr 11), some (.inl a1), some (.inr 136), some (.inl (σ5.2 136 (Int.toNat a1))), none, none]) d_Writer_putInstruction_38 rfl rfl ?_
    refine k_sb (lv' := [some (.inr 11), some (.inl a1), some (.inr 136), some (.inl (σ5.2 136 (Int.toNat a1))), none, none]) (sb_s (sb_s (sb_s (sb_s (sb_s (sb_s sb_nil)))))) ?_
    refine k_loop (S := Int) (st := fun _ => []) (lv := fun s9 => [some (.inr 11), some (.inl a1), some (.inr 136), some (.inl s9), none, none]) (fun K7 hK8 s9 σ10 h => ?_) (σ5.2 136 (Int.toNat a1)) _ h
    refine k_iload_n d_Writer_putInstruction_39 rfl ?_
    refine k_aload_n d_Writer_putInstruction_40 rfl ?_
    refine k_iload_n d_Writer_putInstruction_41 rfl ?_
    obtain ⟨p61, h⟩ := h
    refine k_ild (x := (σ10.2 136 (Int.toNat a1))) d_Writer_putInstruction_42 rI_136 p61 rfl ?_
    refine k_aload_n d_Writer_putInstruction_43 rfl ?_
    refine k_iload_n d_Writer_putInstruction_44 rfl ?_
    refine k_iconst d_Writer_putInstruction_45 cI_1 ?_
    obtain ⟨p60, h⟩ := h
    refine k_iadd d_Writer_putInstruction_46 p60 ?_
    obtain ⟨p59, h⟩ := h
    refine k_ild (x := (σ10.2 136 (Int.toNat (a1 + 1)))) d_Writer_putInstruction_47 rI_136 p59 rfl ?_
    obtain ⟨p58, h⟩ := h
    refine k_iadd d_Writer_putInstruction_48 p58 ?_
    refine k_icge d_Writer_putInstruction_49 rfl (fun c11 => ?_) (fun c11 => ?_)
    · have h := ineg c11 h
      refine k_aload_n d_Writer_putInstruction_71 rfl ?_
      refine k_iload_n d_Writer_putInstruction_72 rfl ?_
      refine k_iconst d_Writer_putInstruction_73 cI_2 ?_
      obtain ⟨p53, h⟩ := h
      refine k_iadd d_Writer_putInstruction_74 p53 ?_
      obtain ⟨p52, h⟩ := h
      refine k_ild (x := (σ10.2 136 (Int.toNat (a1 + 2)))) d_Writer_putInstruction_75 rI_136 p52 rfl ?_
      refine k_istore_n (lv' := [some (.inr 11), some (.inl a1), some (.inr 136), some (.inl (σ10.2 136 (Int.toNat (a1 + 2)))), none, none]) d_Writer_putInstruction_76 rfl rfl ?_
      refine k_iload_n d_Writer_putInstruction_77 rfl ?_
      refine k_aload_n d_Writer_putInstruction_78 rfl ?_
      refine k_iload_n d_Writer_putInstruction_79 rfl ?_
      refine k_iconst d_Writer_putInstruction_80 cI_3 ?_
      obtain ⟨p51, h⟩ := h
      refine k_iadd d_Writer_putInstruction_81 p51 ?_
      obtain ⟨p50, h⟩ := h
      refine k_ild (x := (σ10.2 136 (Int.toNat (a1 + 3)))) d_Writer_putInstruction_82 rI_136 p50 rfl ?_
      obtain ⟨p49, h⟩ := h
      refine k_iadd d_Writer_putInstruction_83 p49 ?_
      refine k_istore (lv' := [some (.inr 11), some (.inl a1), some (.inr 136), some (.inl (σ10.2 136 (Int.toNat (a1 + 2)))), some (.inl ((σ10.2 136 (Int.toNat (a1 + 2))) + (σ10.2 136 (Int.toNat (a1 + 3))))), none]) d_Writer_putInstruction_84 rfl rfl ?_
      refine k_iload d_Writer_putInstruction_86 rfl ?_
      refine k_iload_n d_Writer_putInstruction_88 rfl ?_
      refine k_join (S := Unit) (pc' := 98) (st' := fun s14 => []) (lv' := fun s14 => [some (.inr 11), none, none, some (.inl (σ10.2 136 (Int.toNat (a1 + 2)))), some (.inl ((σ10.2 136 (Int.toNat (a1 + 2))) + (σ10.2 136 (Int.toNat (a1 + 3))))), none]) (fun s14 σ15 h => ?_) (fun J12 hJ13 h => ?_) h
      · refine k_iload_n d_Writer_putInstruction_98 rfl ?_
        refine k_istore (lv' := [some (.inr 11), none, none, some (.inl (σ10.2 136 (Int.toNat (a1 + 2)))), some (.inl ((σ10.2 136 (Int.toNat (a1 + 2))) + (σ10.2 136 (Int.toNat (a1 + 3))))), some (.inl (σ10.2 136 (Int.toNat (a1 + 2))))]) d_Writer_putInstruction_99 rfl rfl ?_
        refine k_sb (lv' := [some (.inr 11), none, none, none, some (.inl ((σ10.2 136 (Int.toNat (a1 + 2))) + (σ10.2 136 (Int.toNat (a1 + 3))))), some (.inl (σ10.2 136 (Int.toNat (a1 + 2))))]) (sb_s (sb_s (sb_s (sb_n (sb_s (sb_s sb_nil)))))) ?_
        refine k_loop (S := Int) (st := fun _ => []) (lv := fun s18 => [some (.inr 11), none, none, none, some (.inl ((σ10.2 136 (Int.toNat (a1 + 2))) + (σ10.2 136 (Int.toNat (a1 + 3))))), some (.inl s18)]) (fun K16 hK17 s18 σ19 h => ?_) (σ10.2 136 (Int.toNat (a1 + 2))) _ h
        refine k_iload d_Writer_putInstruction_101 rfl ?_
        refine k_iload d_Writer_putInstruction_103 rfl ?_
        have hX41 : (s18 < ((σ10.2 136 (Int.toNat (a1 + 2))) + (σ10.2 136 (Int.toNat (a1 + 3)))) ∧ ((σ19.1 11 7) = 0)) → OkI BF L (d + 1) 11 b_Writer_putInstruction 6 0 115 [] [some (.inr 11), none, none, none, some (.inl ((σ10.2 136 (Int.toNat (a1 + 2))) + (σ10.2 136 (Int.toNat (a1 + 3))))), some (.inl s18)] σ19 (qv Q) := fun e43 => by
          have h := ipos e43 h
          refine k_aload_n d_Writer_putInstruction_115 rfl ?_
          refine k_getR d_Writer_putInstruction_116 fl_11_9 ob_11 rfl ?_
          refine k_getR d_Writer_putInstruction_119 fl_11_133 ob_1 rfl ?_
          refine k_iload d_Writer_putInstruction_122 rfl ?_
          obtain ⟨p31, h⟩ := h
          refine k_ild (x := (σ19.2 101 (Int.toNat s18))) d_Writer_putInstruction_124 rI_101 p31 rfl ?_
          refine k_bipush d_Writer_putInstruction_125 cB_13 ?_
          refine k_join (S := Unit) (pc' := 153) (st' := fun s22 => []) (lv' := fun s22 => [some (.inr 11), none, none, none, some (.inl ((σ10.2 136 (Int.toNat (a1 + 2))) + (σ10.2 136 (Int.toNat (a1 + 3))))), some (.inl s18)]) (fun s22 σ23 h => ?_) (fun J20 hJ21 h => ?_) h
          · obtain ⟨p24, h⟩ := h
            refine k_iinc (lv' := [some (.inr 11), none, none, none, some (.inl ((σ10.2 136 (Int.toNat (a1 + 2))) + (σ10.2 136 (Int.toNat (a1 + 3))))), some (.inl (s18 + 1))]) d_Writer_putInstruction_153 cI_1 rfl rfl p24 rfl ?_
            refine k_goto d_Writer_putInstruction_156 rfl ?_
            exact k_sb (sb_s (sb_s (sb_s (sb_s (sb_s (sb_s sb_nil)))))) (hK17 (s18 + 1) _ h)
          · refine k_icne d_Writer_putInstruction_127 rfl (fun c25 => ?_) (fun c25 => ?_)
            · have h := ineg c25 h
              refine k_aload_n d_Writer_putInstruction_139 rfl ?_
              refine k_aload_n d_Writer_putInstruction_140 rfl ?_
              refine k_getR d_Writer_putInstruction_141 fl_11_9 ob_11 rfl ?_
              refine k_getR d_Writer_putInstruction_144 fl_11_133 ob_1 rfl ?_
              refine k_iload d_Writer_putInstruction_147 rfl ?_
              obtain ⟨p28, h⟩ := h
              refine k_ild (x := (σ19.2 101 (Int.toNat s18))) d_Writer_putInstruction_149 rI_101 p28 rfl ?_
              refine k_cvv [.inl (σ19.2 101 (Int.toNat s18))] d_Writer_putInstruction_150 ml_11_138 rfl rfl ob_11 rfl (s_Writer_putBytes hL (by omega)  h) (fun σ26 h => ?_)
              exact k_sb (sb_s (sb_s (sb_s (sb_s (sb_s (sb_s sb_nil)))))) (hJ21 () _ h)
            · have h := ipos c25 h
              refine k_aload_n d_Writer_putInstruction_130 rfl ?_
              refine k_ldc d_Writer_putInstruction_131 ks_11_141 rfl ?_
              refine k_cvv [.inr 1088] d_Writer_putInstruction_133 ml_11_113 rfl rfl ob_11 rfl (s_Writer_putText hL (by omega) it_1088 h) (fun σ29 h => ?_)
              refine k_goto d_Writer_putInstruction_136 rfl ?_
              exact k_sb (sb_s (sb_s (sb_s (sb_s (sb_s (sb_s sb_nil)))))) (hJ21 () _ h)
        have hY42 : ¬ (s18 < ((σ10.2 136 (Int.toNat (a1 + 2))) + (σ10.2 136 (Int.toNat (a1 + 3)))) ∧ ((σ19.1 11 7) = 0)) → OkI BF L (d + 1) 11 b_Writer_putInstruction 6 0 159 [] [some (.inr 11), none, none, none, some (.inl ((σ10.2 136 (Int.toNat (a1 + 2))) + (σ10.2 136 (Int.toNat (a1 + 3))))), some (.inl s18)] σ19 (qv Q) := fun e43 => by
          have h := ineg e43 h
          refine k_aload_n d_Writer_putInstruction_159 rfl ?_
          refine k_ldc d_Writer_putInstruction_160 ks_11_143 rfl ?_
          refine k_cvv [.inr 1089] d_Writer_putInstruction_162 ml_11_113 rfl rfl ob_11 rfl (s_Writer_putText hL (by omega) it_1089 h) (fun σ32 h => ?_)
          refine k_aload_n d_Writer_putInstruction_165 rfl ?_
          refine k_getI (x := (σ32.1 11 9)) d_Writer_putInstruction_166 fl_11_48 ob_11 rfl rfl ?_
          refine k_join (S := Unit) (pc' := 178) (st' := fun s36 => []) (lv' := fun s36 => [none, none, none, none, none, none]) (fun s36 σ37 h => ?_) (fun J34 hJ35 h => ?_) h
          · exact k_ret d_Writer_putInstruction_178 h
          · refine k_ifne d_Writer_putInstruction_169 rfl (fun c38 => ?_) (fun c38 => ?_)
            · have h := ineg c38 h
              exact k_sb (sb_n (sb_s (sb_s (sb_s (sb_n (sb_n sb_nil)))))) (hJ35 () _ h)
            · have h := ipos c38 h
              refine k_aload_n d_Writer_putInstruction_172 rfl ?_
              refine k_bipush d_Writer_putInstruction_173 cB_10 ?_
              refine k_cvv [.inl 10] d_Writer_putInstruction_175 ml_11_85 rfl rfl ob_11 rfl (s_Writer_put hL (by omega)  h) (fun σ39 h => ?_)
              exact k_sb (sb_n (sb_s (sb_s (sb_s (sb_n (sb_n sb_nil)))))) (hJ35 () _ h)
        refine k_icge d_Writer_putInstruction_105 rfl (fun c44 => ?_) (fun c44 => ?_)
        · exact hY42 (fun z => c44 z.1)
        · refine k_aload_n d_Writer_putInstruction_108 rfl ?_
          refine k_getI (x := (σ19.1 11 7)) d_Writer_putInstruction_109 fl_11_44 ob_11 rfl rfl ?_
          refine k_ifne d_Writer_putInstruction_112 rfl (fun c45 => ?_) (fun c45 => ?_)
          · exact hY42 (fun z => (c45) z.2)
          · exact hX41 (⟨c44, c45⟩)
      · refine k_icle d_Writer_putInstruction_89 rfl (fun c46 => ?_) (fun c46 => ?_)
        · have h := ineg c46 h
          exact k_sb (sb_s (sb_n (sb_n (sb_s (sb_s (sb_s sb_nil)))))) (hJ13 () _ h)
        · have h := ipos c46 h
          refine k_aload_n d_Writer_putInstruction_92 rfl ?_
          refine k_bipush d_Writer_putInstruction_93 cB_32 ?_
          refine k_cvv [.inl 32] d_Writer_putInstruction_95 ml_11_85 rfl rfl ob_11 rfl (s_Writer_put hL (by omega)  h) (fun σ47 h => ?_)
          exact k_sb (sb_s (sb_n (sb_n (sb_s (sb_s (sb_s sb_nil)))))) (hJ13 () _ h)
    · have h := ipos c11 h
      refine k_aload_n d_Writer_putInstruction_52 rfl ?_
      refine k_aload_n d_Writer_putInstruction_53 rfl ?_
      refine k_getR d_Writer_putInstruction_54 fl_11_9 ob_11 rfl ?_
      refine k_getR d_Writer_putInstruction_57 fl_11_133 ob_1 rfl ?_
      refine k_iload_n d_Writer_putInstruction_60 rfl ?_
      obtain ⟨p57, h⟩ := h
      refine k_ild (x := (σ10.2 101 (Int.toNat s9))) d_Writer_putInstruction_61 rI_101 p57 rfl ?_
      refine k_cvv [.inl (σ10.2 101 (Int.toNat s9))] d_Writer_putInstruction_62 ml_11_138 rfl rfl ob_11 rfl (s_Writer_putBytes hL (by omega)  h) (fun σ54 h => ?_)
      obtain ⟨p56, h⟩ := h
      refine k_iinc (lv' := [some (.inr 11), some (.inl a1), some (.inr 136), some (.inl (s9 + 1)), none, none]) d_Writer_putInstruction_65 cI_1 rfl rfl p56 rfl ?_
      refine k_goto d_Writer_putInstruction_68 rfl ?_
      exact k_sb (sb_s (sb_s (sb_s (sb_s (sb_s (sb_s sb_nil)))))) (hK8 (s9 + 1) _ h)
  · have hX65 : ((σ.1 11 8) = (-1) ∧ (¬ (σ.1 11 9) = 0)) → OkI BF L (d + 1) 11 b_Writer_putInstruction 6 0 23 [] [some (.inr 11), some (.inl a1), some (.inr 136), none, none, none] σ (qv Q) := fun e67 => by
      have h := ipos e67 h
      refine k_aload_n d_Writer_putInstruction_23 rfl ?_
      refine k_bipush d_Writer_putInstruction_24 cB_10 ?_
      refine k_cvv [.inl 10] d_Writer_putInstruction_26 ml_11_85 rfl rfl ob_11 rfl (s_Writer_put hL (by omega)  h) (fun σ63 h => ?_)
      exact k_sb (sb_s (sb_s (sb_s (sb_s (sb_s (sb_s sb_nil)))))) (hJ2 () _ h)
    have hY66 : ¬ ((σ.1 11 8) = (-1) ∧ (¬ (σ.1 11 9) = 0)) → OkI BF L (d + 1) 11 b_Writer_putInstruction 6 0 29 [] [some (.inr 11), some (.inl a1), some (.inr 136), none, none, none] σ (qv Q) := fun e67 => by
      have h := ineg e67 h
      exact k_sb (sb_s (sb_s (sb_s (sb_s (sb_s (sb_s sb_nil)))))) (hJ2 () _ h)
    refine k_icne d_Writer_putInstruction_13 rfl (fun c68 => ?_) (fun c68 => ?_)
    · exact hY66 (fun z => c68 z.1)
    · refine k_aload_n d_Writer_putInstruction_16 rfl ?_
      refine k_getI (x := (σ.1 11 9)) d_Writer_putInstruction_17 fl_11_48 ob_11 rfl rfl ?_
      refine k_ifeq d_Writer_putInstruction_20 rfl (fun c69 => ?_) (fun c69 => ?_)
      · exact hY66 (fun z => (fun z => z c69) z.2)
      · exact hX65 (⟨c68, c69⟩)
theorem d_Writer_putWord_0 : decode b_Writer_putWord 0 = .ok (.iconst 0, 1) := by decide +kernel
theorem d_Writer_putWord_1 : decode b_Writer_putWord 1 = .ok (.istore_n 2, 1) := by decide +kernel
theorem d_Writer_putWord_2 : decode b_Writer_putWord 2 = .ok (.iload_n 2, 1) := by decide +kernel
theorem d_Writer_putWord_3 : decode b_Writer_putWord 3 = .ok (.aload_n 0, 1) := by decide +kernel
theorem d_Writer_putWord_4 : decode b_Writer_putWord 4 = .ok (.getfield 9, 3) := by decide +kernel
theorem d_Writer_putWord_7 : decode b_Writer_putWord 7 = .ok (.getfield 145, 3) := by decide +kernel
theorem d_Writer_putWord_10 : decode b_Writer_putWord 10 = .ok (.iload_n 1, 1) := by decide +kernel
theorem d_Writer_putWord_11 : decode b_Writer_putWord 11 = .ok (.iaload, 1) := by decide +kernel
theorem d_Writer_putWord_12 : decode b_Writer_putWord 12 = .ok (.if_icmp .ge 29, 3) := by decide +kernel
theorem d_Writer_putWord_15 : decode b_Writer_putWord 15 = .ok (.aload_n 0, 1) := by decide +kernel
theorem d_Writer_putWord_16 : decode b_Writer_putWord 16 = .ok (.getfield 44, 3) := by decide +kernel
theorem d_Writer_putWord_19 : decode b_Writer_putWord 19 = .ok (.ifCond .ne 22, 3) := by decide +kernel
theorem d_Writer_putWord_22 : decode b_Writer_putWord 22 = .ok (.aload_n 0, 1) := by decide +kernel
theorem d_Writer_putWord_23 : decode b_Writer_putWord 23 = .ok (.aload_n 0, 1) := by decide +kernel
theorem d_Writer_putWord_24 : decode b_Writer_putWord 24 = .ok (.getfield 9, 3) := by decide +kernel
theorem d_Writer_putWord_27 : decode b_Writer_putWord 27 = .ok (.iload_n 1, 1) := by decide +kernel
theorem d_Writer_putWord_28 : decode b_Writer_putWord 28 = .ok (.iload_n 2, 1) := by decide +kernel
theorem d_Writer_putWord_29 : decode b_Writer_putWord 29 = .ok (.invokevirtual 147, 3) := by decide +kernel
theorem d_Writer_putWord_32 : decode b_Writer_putWord 32 = .ok (.invokevirtual 138, 3) := by decide +kernel
theorem d_Writer_putWord_35 : decode b_Writer_putWord 35 = .ok (.iinc 2 1, 3) := by decide +kernel
theorem d_Writer_putWord_38 : decode b_Writer_putWord 38 = .ok (.goto (-36), 3) := by decide +kernel
theorem d_Writer_putWord_41 : decode b_Writer_putWord 41 = .ok (.return_, 1) := by decide +kernel
/-- Writer_putWord -/
def w_Writer_putWord (L : Nat → Nat) (a1 : Int) (Q : IS → Prop) (σ : IS) : Prop := WL (fun (K1 : Int → IS → Prop) (s3 : Int) (σ4 : IS) => inL L 103 a1 ∧ if s3 < (σ4.2 103 (Int.toNat a1)) ∧ ((σ4.1 11 7) = 0) then w_Store_letter L a1 s3 (fun v6 σ5 => w_Writer_putBytes L v6 (fun σ7 => inR (s3 + 1) ∧ K1 (s3 + 1) σ7) σ5) σ4 else Q σ4) 0 σ
set_option maxHeartbeats 4000000 in
set_option maxRecDepth 20000 in
theorem s_Writer_putWord {L : Nat → Nat} (hL : ∀ r, L r < 2147483648) {d : Nat} (hd : 2 ≤ d) {a1 : Int} {Q : IS → Prop} {σ : IS}  (h : w_Writer_putWord L a1 Q σ) : OkI BF L d 11 b_Writer_putWord 3 0 0 [] [some (.inr 11), some (.inl a1)] σ (qv Q) := by
  unfold w_Writer_putWord at h
  obtain ⟨d, rfl⟩ : ∃ e, d = e + 1 := ⟨d - 1, by omega⟩
  refine k_sb (lv' := [some (.inr 11), some (.inl a1), none]) (sb_s (sb_s (sb_e sb_nil))) ?_
  refine k_iconst d_Writer_putWord_0 cI_0 ?_
  refine k_istore_n (lv' := [some (.inr 11), some (.inl a1), some (.inl 0)]) d_Writer_putWord_1 rfl rfl ?_
  refine k_sb (lv' := [some (.inr 11), some (.inl a1), some (.inl 0)]) (sb_s (sb_s (sb_s sb_nil))) ?_
  refine k_loop (S := Int) (st := fun _ => []) (lv := fun s3 => [some (.inr 11), some (.inl a1), some (.inl s3)]) (fun K1 hK2 s3 σ4 h => ?_) 0 _ h
  refine k_iload_n d_Writer_putWord_2 rfl ?_
  refine k_aload_n d_Writer_putWord_3 rfl ?_
  refine k_getR d_Writer_putWord_4 fl_11_9 ob_11 rfl ?_
  refine k_getR d_Writer_putWord_7 fl_11_145 ob_1 rfl ?_
  refine k_iload_n d_Writer_putWord_10 rfl ?_
  obtain ⟨p15, h⟩ := h
  refine k_ild (x := (σ4.2 103 (Int.toNat a1))) d_Writer_putWord_11 rI_103 p15 rfl ?_
  have hX10 : (s3 < (σ4.2 103 (Int.toNat a1)) ∧ ((σ4.1 11 7) = 0)) → OkI BF L (d + 1) 11 b_Writer_putWord 3 0 22 [] [some (.inr 11), some (.inl a1), some (.inl s3)] σ4 (qv Q) := fun e12 => by
    have h := ipos e12 h
    refine k_aload_n d_Writer_putWord_22 rfl ?_
    refine k_aload_n d_Writer_putWord_23 rfl ?_
    refine k_getR d_Writer_putWord_24 fl_11_9 ob_11 rfl ?_
    refine k_iload_n d_Writer_putWord_27 rfl ?_
    refine k_iload_n d_Writer_putWord_28 rfl ?_
    refine k_cvi [.inl a1, .inl s3] d_Writer_putWord_29 ml_11_147 rfl rfl ob_1 rfl (s_Store_letter hL (by omega)  h) (fun v6 σ5 h => ?_)
    refine k_cvv [.inl v6] d_Writer_putWord_32 ml_11_138 rfl rfl ob_11 rfl (s_Writer_putBytes hL (by omega)  h) (fun σ7 h => ?_)
    obtain ⟨p9, h⟩ := h
    refine k_iinc (lv' := [some (.inr 11), some (.inl a1), some (.inl (s3 + 1))]) d_Writer_putWord_35 cI_1 rfl rfl p9 rfl ?_
    refine k_goto d_Writer_putWord_38 rfl ?_
    exact k_sb (sb_s (sb_s (sb_s sb_nil))) (hK2 (s3 + 1) _ h)
  have hY11 : ¬ (s3 < (σ4.2 103 (Int.toNat a1)) ∧ ((σ4.1 11 7) = 0)) → OkI BF L (d + 1) 11 b_Writer_putWord 3 0 41 [] [some (.inr 11), some (.inl a1), some (.inl s3)] σ4 (qv Q) := fun e12 => by
    have h := ineg e12 h
    exact k_ret d_Writer_putWord_41 h
  refine k_icge d_Writer_putWord_12 rfl (fun c13 => ?_) (fun c13 => ?_)
  · exact hY11 (fun z => c13 z.1)
  · refine k_aload_n d_Writer_putWord_15 rfl ?_
    refine k_getI (x := (σ4.1 11 7)) d_Writer_putWord_16 fl_11_44 ob_11 rfl rfl ?_
    refine k_ifne d_Writer_putWord_19 rfl (fun c14 => ?_) (fun c14 => ?_)
    · exact hY11 (fun z => (c14) z.2)
    · exact hX10 (⟨c13, c14⟩)
theorem d_Meanings_prefix_0 : decode b_Meanings_prefix 0 = .ok (.aload_n 0, 1) := by decide +kernel
theorem d_Meanings_prefix_1 : decode b_Meanings_prefix 1 = .ok (.getfield 25, 3) := by decide +kernel
theorem d_Meanings_prefix_4 : decode b_Meanings_prefix 4 = .ok (.iload_n 1, 1) := by decide +kernel
theorem d_Meanings_prefix_5 : decode b_Meanings_prefix 5 = .ok (.iaload, 1) := by decide +kernel
theorem d_Meanings_prefix_6 : decode b_Meanings_prefix 6 = .ok (.iconst (-1), 1) := by decide +kernel
theorem d_Meanings_prefix_7 : decode b_Meanings_prefix 7 = .ok (.if_icmp .ne 7, 3) := by decide +kernel
theorem d_Meanings_prefix_10 : decode b_Meanings_prefix 10 = .ok (.iconst 0, 1) := by decide +kernel
theorem d_Meanings_prefix_11 : decode b_Meanings_prefix 11 = .ok (.goto 11, 3) := by decide +kernel
theorem d_Meanings_prefix_14 : decode b_Meanings_prefix 14 = .ok (.aload_n 0, 1) := by decide +kernel
theorem d_Meanings_prefix_15 : decode b_Meanings_prefix 15 = .ok (.getfield 25, 3) := by decide +kernel
theorem d_Meanings_prefix_18 : decode b_Meanings_prefix 18 = .ok (.iload_n 1, 1) := by decide +kernel
theorem d_Meanings_prefix_19 : decode b_Meanings_prefix 19 = .ok (.iaload, 1) := by decide +kernel
theorem d_Meanings_prefix_20 : decode b_Meanings_prefix 20 = .ok (.iconst 1, 1) := by decide +kernel
theorem d_Meanings_prefix_21 : decode b_Meanings_prefix 21 = .ok (.isub, 1) := by decide +kernel
theorem d_Meanings_prefix_22 : decode b_Meanings_prefix 22 = .ok (.ireturn, 1) := by decide +kernel
/-- Meanings_prefix -/
def w_Meanings_prefix (L : Nat → Nat) (a1 : Int) (Q : Int → IS → Prop) (σ : IS) : Prop := inL L 156 a1 ∧ ((¬ (σ.2 156 (Int.toNat a1)) = (-1) → (inL L 156 a1 ∧ inR ((σ.2 156 (Int.toNat a1)) - 1)))) ∧ Q (if (σ.2 156 (Int.toNat a1)) = (-1) then (0 : Int) else ((σ.2 156 (Int.toNat a1)) - 1)) σ
set_option maxHeartbeats 4000000 in
set_option maxRecDepth 20000 in
theorem s_Meanings_prefix {L : Nat → Nat} (hL : ∀ r, L r < 2147483648) {d : Nat} (hd : 0 ≤ d) {a1 : Int} {Q : Int → IS → Prop} {σ : IS}  (h : w_Meanings_prefix L a1 Q σ) : OkI BF L d 10 b_Meanings_prefix 2 1 0 [] [some (.inr 10), some (.inl a1)] σ (qi Q) := by
  unfold w_Meanings_prefix at h
  refine k_sb (lv' := [some (.inr 10), some (.inl a1)]) (sb_s (sb_s sb_nil)) ?_
  refine k_aload_n d_Meanings_prefix_0 rfl ?_
  refine k_getR d_Meanings_prefix_1 fl_10_25 ob_10 rfl ?_
  refine k_iload_n d_Meanings_prefix_4 rfl ?_
  obtain ⟨p9, h⟩ := h
  refine k_ild (x := (σ.2 156 (Int.toNat a1))) d_Meanings_prefix_5 rI_156 p9 rfl ?_
  refine k_iconst d_Meanings_prefix_6 cI_m1 ?_
  obtain ⟨pt4, h⟩ := h
  have hV3 : OkI BF L d 10 b_Meanings_prefix 2 1 22 [.inl (if (σ.2 156 (Int.toNat a1)) = (-1) then (0 : Int) else ((σ.2 156 (Int.toNat a1)) - 1))] [some (.inr 10), some (.inl a1)] σ (qi Q) := by
    exact k_iret d_Meanings_prefix_22 (Or.inl rfl) h
  have pb5 := pt4
  refine k_icne d_Meanings_prefix_7 rfl (fun c6 => ?_) (fun c6 => ?_)
  · have pb5 := pb5 c6
    have hV8 := k_eqI (if_neg c6) hV3
    obtain ⟨p1, p2⟩ := pb5
    refine k_aload_n d_Meanings_prefix_14 rfl ?_
    refine k_getR d_Meanings_prefix_15 fl_10_25 ob_10 rfl ?_
    refine k_iload_n d_Meanings_prefix_18 rfl ?_
    refine k_ild (x := (σ.2 156 (Int.toNat a1))) d_Meanings_prefix_19 rI_156 p1 rfl ?_
    refine k_iconst d_Meanings_prefix_20 cI_1 ?_
    refine k_isub d_Meanings_prefix_21 p2 ?_
    exact hV8
  · have hV7 := k_eqI (if_pos c6) hV3
    refine k_iconst d_Meanings_prefix_10 cI_0 ?_
    refine k_goto d_Meanings_prefix_11 rfl ?_
    exact hV7
theorem d_Meanings_declares_0 : decode b_Meanings_declares 0 = .ok (.aload_n 0, 1) := by decide +kernel
theorem d_Meanings_declares_1 : decode b_Meanings_declares 1 = .ok (.getfield 15, 3) := by decide +kernel
theorem d_Meanings_declares_4 : decode b_Meanings_declares 4 = .ok (.getfield 34, 3) := by decide +kernel
theorem d_Meanings_declares_7 : decode b_Meanings_declares 7 = .ok (.iload_n 1, 1) := by decide +kernel
theorem d_Meanings_declares_8 : decode b_Meanings_declares 8 = .ok (.iaload, 1) := by decide +kernel
theorem d_Meanings_declares_9 : decode b_Meanings_declares 9 = .ok (.istore_n 2, 1) := by decide +kernel
theorem d_Meanings_declares_10 : decode b_Meanings_declares 10 = .ok (.iload_n 2, 1) := by decide +kernel
theorem d_Meanings_declares_11 : decode b_Meanings_declares 11 = .ok (.bipush 7, 2) := by decide +kernel
theorem d_Meanings_declares_13 : decode b_Meanings_declares 13 = .ok (.if_icmp .ne 5, 3) := by decide +kernel
theorem d_Meanings_declares_16 : decode b_Meanings_declares 16 = .ok (.iconst 0, 1) := by decide +kernel
theorem d_Meanings_declares_17 : decode b_Meanings_declares 17 = .ok (.ireturn, 1) := by decide +kernel
theorem d_Meanings_declares_18 : decode b_Meanings_declares 18 = .ok (.aload_n 0, 1) := by decide +kernel
theorem d_Meanings_declares_19 : decode b_Meanings_declares 19 = .ok (.iload_n 2, 1) := by decide +kernel
theorem d_Meanings_declares_20 : decode b_Meanings_declares 20 = .ok (.invokevirtual 120, 3) := by decide +kernel
theorem d_Meanings_declares_23 : decode b_Meanings_declares 23 = .ok (.bipush 7, 2) := by decide +kernel
theorem d_Meanings_declares_25 : decode b_Meanings_declares 25 = .ok (.if_icmp .ne 12, 3) := by decide +kernel
theorem d_Meanings_declares_28 : decode b_Meanings_declares 28 = .ok (.aload_n 0, 1) := by decide +kernel
theorem d_Meanings_declares_29 : decode b_Meanings_declares 29 = .ok (.getfield 28, 3) := by decide +kernel
theorem d_Meanings_declares_32 : decode b_Meanings_declares 32 = .ok (.iload_n 2, 1) := by decide +kernel
theorem d_Meanings_declares_33 : decode b_Meanings_declares 33 = .ok (.iaload, 1) := by decide +kernel
theorem d_Meanings_declares_34 : decode b_Meanings_declares 34 = .ok (.goto 4, 3) := by decide +kernel
theorem d_Meanings_declares_37 : decode b_Meanings_declares 37 = .ok (.iconst (-1), 1) := by decide +kernel
theorem d_Meanings_declares_38 : decode b_Meanings_declares 38 = .ok (.ireturn, 1) := by decide +kernel
/-- Meanings_declares -/
def w_Meanings_declares (L : Nat → Nat) (a1 : Int) (Q : Int → IS → Prop) (σ : IS) : Prop := inL L 161 a1 ∧ if (σ.2 161 (Int.toNat a1)) = 7 then Q 0 σ else w_Meanings_prefix L (σ.2 161 (Int.toNat a1)) (fun v3 σ2 => ((v3 = 7 → inL L 157 (σ.2 161 (Int.toNat a1)))) ∧ Q (if v3 = 7 then (σ2.2 157 (Int.toNat (σ.2 161 (Int.toNat a1)))) else ((-1) : Int)) σ2) σ
set_option maxHeartbeats 4000000 in
set_option maxRecDepth 20000 in
theorem s_Meanings_declares {L : Nat → Nat} (hL : ∀ r, L r < 2147483648) {d : Nat} (hd : 1 ≤ d) {a1 : Int} {Q : Int → IS → Prop} {σ : IS}  (h : w_Meanings_declares L a1 Q σ) : OkI BF L d 10 b_Meanings_declares 3 1 0 [] [some (.inr 10), some (.inl a1)] σ (qi Q) := by
  unfold w_Meanings_declares at h
  obtain ⟨d, rfl⟩ : ∃ e, d = e + 1 := ⟨d - 1, by omega⟩
  refine k_sb (lv' := [some (.inr 10), some (.inl a1), none]) (sb_s (sb_s (sb_e sb_nil))) ?_
  refine k_aload_n d_Meanings_declares_0 rfl ?_
  refine k_getR d_Meanings_declares_1 fl_10_15 ob_10 rfl ?_
  refine k_getR d_Meanings_declares_4 fl_10_34 ob_6 rfl ?_
  refine k_iload_n d_Meanings_declares_7 rfl ?_
  obtain ⟨p11, h⟩ := h
  refine k_ild (x := (σ.2 161 (Int.toNat a1))) d_Meanings_declares_8 rI_161 p11 rfl ?_
  refine k_istore_n (lv' := [some (.inr 10), some (.inl a1), some (.inl (σ.2 161 (Int.toNat a1)))]) d_Meanings_declares_9 rfl rfl ?_
  refine k_iload_n d_Meanings_declares_10 rfl ?_
  refine k_bipush d_Meanings_declares_11 cB_7 ?_
  refine k_icne d_Meanings_declares_13 rfl (fun c1 => ?_) (fun c1 => ?_)
  · have h := ineg c1 h
    refine k_aload_n d_Meanings_declares_18 rfl ?_
    refine k_iload_n d_Meanings_declares_19 rfl ?_
    refine k_cvi [.inl (σ.2 161 (Int.toNat a1))] d_Meanings_declares_20 ml_10_120 rfl rfl ob_10 rfl (s_Meanings_prefix hL (by omega)  h) (fun v3 σ2 h => ?_)
    refine k_bipush d_Meanings_declares_23 cB_7 ?_
    obtain ⟨pt6, h⟩ := h
    have hV5 : OkI BF L (d + 1) 10 b_Meanings_declares 3 1 38 [.inl (if v3 = 7 then (σ2.2 157 (Int.toNat (σ.2 161 (Int.toNat a1)))) else ((-1) : Int))] [some (.inr 10), some (.inl a1), some (.inl (σ.2 161 (Int.toNat a1)))] σ2 (qi Q) := by
      exact k_iret d_Meanings_declares_38 (Or.inl rfl) h
    have pa7 := pt6
    refine k_icne d_Meanings_declares_25 rfl (fun c8 => ?_) (fun c8 => ?_)
    · have hV10 := k_eqI (if_neg c8) hV5
      refine k_iconst d_Meanings_declares_37 cI_m1 ?_
      exact hV10
    · have pa7 := pa7 c8
      have hV9 := k_eqI (if_pos c8) hV5
      have p4 := pa7
      refine k_aload_n d_Meanings_declares_28 rfl ?_
      refine k_getR d_Meanings_declares_29 fl_10_28 ob_10 rfl ?_
      refine k_iload_n d_Meanings_declares_32 rfl ?_
      refine k_ild (x := (σ2.2 157 (Int.toNat (σ.2 161 (Int.toNat a1))))) d_Meanings_declares_33 rI_157 p4 rfl ?_
      refine k_goto d_Meanings_declares_34 rfl ?_
      exact hV9
  · have h := ipos c1 h
    refine k_iconst d_Meanings_declares_16 cI_0 ?_
    exact k_iret d_Meanings_declares_17 (Or.inl rfl) h
theorem d_Meanings_leave_0 : decode b_Meanings_leave 0 = .ok (.aload_n 0, 1) := by decide +kernel
theorem d_Meanings_leave_1 : decode b_Meanings_leave 1 = .ok (.getfield 15, 3) := by decide +kernel
theorem d_Meanings_leave_4 : decode b_Meanings_leave 4 = .ok (.getfield 127, 3) := by decide +kernel
theorem d_Meanings_leave_7 : decode b_Meanings_leave 7 = .ok (.iload_n 1, 1) := by decide +kernel
theorem d_Meanings_leave_8 : decode b_Meanings_leave 8 = .ok (.iaload, 1) := by decide +kernel
theorem d_Meanings_leave_9 : decode b_Meanings_leave 9 = .ok (.istore_n 2, 1) := by decide +kernel
theorem d_Meanings_leave_10 : decode b_Meanings_leave 10 = .ok (.iload_n 2, 1) := by decide +kernel
theorem d_Meanings_leave_11 : decode b_Meanings_leave 11 = .ok (.aload_n 0, 1) := by decide +kernel
theorem d_Meanings_leave_12 : decode b_Meanings_leave 12 = .ok (.getfield 15, 3) := by decide +kernel
theorem d_Meanings_leave_15 : decode b_Meanings_leave 15 = .ok (.getfield 127, 3) := by decide +kernel
theorem d_Meanings_leave_18 : decode b_Meanings_leave 18 = .ok (.iload_n 1, 1) := by decide +kernel
theorem d_Meanings_leave_19 : decode b_Meanings_leave 19 = .ok (.iaload, 1) := by decide +kernel
theorem d_Meanings_leave_20 : decode b_Meanings_leave 20 = .ok (.aload_n 0, 1) := by decide +kernel
theorem d_Meanings_leave_21 : decode b_Meanings_leave 21 = .ok (.getfield 15, 3) := by decide +kernel
theorem d_Meanings_leave_24 : decode b_Meanings_leave 24 = .ok (.getfield 130, 3) := by decide +kernel
theorem d_Meanings_leave_27 : decode b_Meanings_leave 27 = .ok (.iload_n 1, 1) := by decide +kernel
theorem d_Meanings_leave_28 : decode b_Meanings_leave 28 = .ok (.iaload, 1) := by decide +kernel
theorem d_Meanings_leave_29 : decode b_Meanings_leave 29 = .ok (.iadd, 1) := by decide +kernel
theorem d_Meanings_leave_30 : decode b_Meanings_leave 30 = .ok (.if_icmp .ge 32, 3) := by decide +kernel
theorem d_Meanings_leave_33 : decode b_Meanings_leave 33 = .ok (.aload_n 0, 1) := by decide +kernel
theorem d_Meanings_leave_34 : decode b_Meanings_leave 34 = .ok (.iload_n 2, 1) := by decide +kernel
theorem d_Meanings_leave_35 : decode b_Meanings_leave 35 = .ok (.invokevirtual 133, 3) := by decide +kernel
theorem d_Meanings_leave_38 : decode b_Meanings_leave 38 = .ok (.istore_n 3, 1) := by decide +kernel
theorem d_Meanings_leave_39 : decode b_Meanings_leave 39 = .ok (.iload_n 3, 1) := by decide +kernel
theorem d_Meanings_leave_40 : decode b_Meanings_leave 40 = .ok (.iconst (-1), 1) := by decide +kernel
theorem d_Meanings_leave_41 : decode b_Meanings_leave 41 = .ok (.if_icmp .eq 15, 3) := by decide +kernel
theorem d_Meanings_leave_44 : decode b_Meanings_leave 44 = .ok (.aload_n 0, 1) := by decide +kernel
theorem d_Meanings_leave_45 : decode b_Meanings_leave 45 = .ok (.getfield 31, 3) := by decide +kernel
theorem d_Meanings_leave_48 : decode b_Meanings_leave 48 = .ok (.iload_n 3, 1) := by decide +kernel
theorem d_Meanings_leave_49 : decode b_Meanings_leave 49 = .ok (.aload_n 0, 1) := by decide +kernel
theorem d_Meanings_leave_50 : decode b_Meanings_leave 50 = .ok (.getfield 39, 3) := by decide +kernel
theorem d_Meanings_leave_53 : decode b_Meanings_leave 53 = .ok (.iload_n 2, 1) := by decide +kernel
theorem d_Meanings_leave_54 : decode b_Meanings_leave 54 = .ok (.iaload, 1) := by decide +kernel
theorem d_Meanings_leave_55 : decode b_Meanings_leave 55 = .ok (.iastore, 1) := by decide +kernel
theorem d_Meanings_leave_56 : decode b_Meanings_leave 56 = .ok (.iinc 2 1, 3) := by decide +kernel
theorem d_Meanings_leave_59 : decode b_Meanings_leave 59 = .ok (.goto (-49), 3) := by decide +kernel
theorem d_Meanings_leave_62 : decode b_Meanings_leave 62 = .ok (.return_, 1) := by decide +kernel
/-- Meanings_leave -/
def w_Meanings_leave (L : Nat → Nat) (a1 : Int) (Q : IS → Prop) (σ : IS) : Prop := inL L 130 a1 ∧ WL (fun (K1 : Int → IS → Prop) (s3 : Int) (σ4 : IS) => inL L 130 a1 ∧ inL L 131 a1 ∧ inR ((σ4.2 130 (Int.toNat a1)) + (σ4.2 131 (Int.toNat a1))) ∧ if s3 < ((σ4.2 130 (Int.toNat a1)) + (σ4.2 131 (Int.toNat a1))) then w_Meanings_declares L s3 (fun v7 σ6 => WJ (fun (s10 : Unit) (σ11 : IS) => inR (s3 + 1) ∧ K1 (s3 + 1) σ11) (fun J8 => if v7 = (-1) then J8 () σ6 else inL L 159 s3 ∧ inL L 158 v7 ∧ J8 () (pr σ6 158 (Int.toNat v7) (σ6.2 159 (Int.toNat s3))))) σ4 else Q σ4) (σ.2 130 (Int.toNat a1)) σ
set_option maxHeartbeats 4000000 in
set_option maxRecDepth 20000 in
theorem s_Meanings_leave {L : Nat → Nat} (hL : ∀ r, L r < 2147483648) {d : Nat} (hd : 2 ≤ d) {a1 : Int} {Q : IS → Prop} {σ : IS}  (h : w_Meanings_leave L a1 Q σ) : OkI BF L d 10 b_Meanings_leave 4 0 0 [] [some (.inr 10), some (.inl a1)] σ (qv Q) := by
  unfold w_Meanings_leave at h
  obtain ⟨d, rfl⟩ : ∃ e, d = e + 1 := ⟨d - 1, by omega⟩
  refine k_sb (lv' := [some (.inr 10), some (.inl a1), none, none]) (sb_s (sb_s (sb_e (sb_e sb_nil)))) ?_
  refine k_aload_n d_Meanings_leave_0 rfl ?_
  refine k_getR d_Meanings_leave_1 fl_10_15 ob_10 rfl ?_
  refine k_getR d_Meanings_leave_4 fl_10_127 ob_6 rfl ?_
  refine k_iload_n d_Meanings_leave_7 rfl ?_
  obtain ⟨p19, h⟩ := h
  refine k_ild (x := (σ.2 130 (Int.toNat a1))) d_Meanings_leave_8 rI_130 p19 rfl ?_
  refine k_istore_n (lv' := [some (.inr 10), some (.inl a1), some (.inl (σ.2 130 (Int.toNat a1))), none]) d_Meanings_leave_9 rfl rfl ?_
  refine k_sb (lv' := [some (.inr 10), some (.inl a1), some (.inl (σ.2 130 (Int.toNat a1))), none]) (sb_s (sb_s (sb_s (sb_s sb_nil)))) ?_
  refine k_loop (S := Int) (st := fun _ => []) (lv := fun s3 => [some (.inr 10), some (.inl a1), some (.inl s3), none]) (fun K1 hK2 s3 σ4 h => ?_) (σ.2 130 (Int.toNat a1)) _ h
  refine k_iload_n d_Meanings_leave_10 rfl ?_
  refine k_aload_n d_Meanings_leave_11 rfl ?_
  refine k_getR d_Meanings_leave_12 fl_10_15 ob_10 rfl ?_
  refine k_getR d_Meanings_leave_15 fl_10_127 ob_6 rfl ?_
  refine k_iload_n d_Meanings_leave_18 rfl ?_
  obtain ⟨p18, h⟩ := h
  refine k_ild (x := (σ4.2 130 (Int.toNat a1))) d_Meanings_leave_19 rI_130 p18 rfl ?_
  refine k_aload_n d_Meanings_leave_20 rfl ?_
  refine k_getR d_Meanings_leave_21 fl_10_15 ob_10 rfl ?_
  refine k_getR d_Meanings_leave_24 fl_10_130 ob_6 rfl ?_
  refine k_iload_n d_Meanings_leave_27 rfl ?_
  obtain ⟨p17, h⟩ := h
  refine k_ild (x := (σ4.2 131 (Int.toNat a1))) d_Meanings_leave_28 rI_131 p17 rfl ?_
  obtain ⟨p16, h⟩ := h
  refine k_iadd d_Meanings_leave_29 p16 ?_
  refine k_icge d_Meanings_leave_30 rfl (fun c5 => ?_) (fun c5 => ?_)
  · have h := ineg c5 h
    exact k_ret d_Meanings_leave_62 h
  · have h := ipos c5 h
    refine k_aload_n d_Meanings_leave_33 rfl ?_
    refine k_iload_n d_Meanings_leave_34 rfl ?_
    refine k_cvi [.inl s3] d_Meanings_leave_35 ml_10_133 rfl rfl ob_10 rfl (s_Meanings_declares hL (by omega)  h) (fun v7 σ6 h => ?_)
    refine k_istore_n (lv' := [some (.inr 10), some (.inl a1), some (.inl s3), some (.inl v7)]) d_Meanings_leave_38 rfl rfl ?_
    refine k_iload_n d_Meanings_leave_39 rfl ?_
    refine k_iconst d_Meanings_leave_40 cI_m1 ?_
    refine k_join (S := Unit) (pc' := 56) (st' := fun s10 => []) (lv' := fun s10 => [some (.inr 10), some (.inl a1), some (.inl s3), none]) (fun s10 σ11 h => ?_) (fun J8 hJ9 h => ?_) h
    · obtain ⟨p12, h⟩ := h
      refine k_iinc (lv' := [some (.inr 10), some (.inl a1), some (.inl (s3 + 1)), none]) d_Meanings_leave_56 cI_1 rfl rfl p12 rfl ?_
      refine k_goto d_Meanings_leave_59 rfl ?_
      exact k_sb (sb_s (sb_s (sb_s (sb_s sb_nil)))) (hK2 (s3 + 1) _ h)
    · refine k_iceq d_Meanings_leave_41 rfl (fun c13 => ?_) (fun c13 => ?_)
      · have h := ipos c13 h
        exact k_sb (sb_s (sb_s (sb_s (sb_n sb_nil)))) (hJ9 () _ h)
      · have h := ineg c13 h
        refine k_aload_n d_Meanings_leave_44 rfl ?_
        refine k_getR d_Meanings_leave_45 fl_10_31 ob_10 rfl ?_
        refine k_iload_n d_Meanings_leave_48 rfl ?_
        refine k_aload_n d_Meanings_leave_49 rfl ?_
        refine k_getR d_Meanings_leave_50 fl_10_39 ob_10 rfl ?_
        refine k_iload_n d_Meanings_leave_53 rfl ?_
        obtain ⟨p15, h⟩ := h
        refine k_ild (x := (σ6.2 159 (Int.toNat s3))) d_Meanings_leave_54 rI_159 p15 rfl ?_
        obtain ⟨p14, h⟩ := h
        refine k_ist d_Meanings_leave_55 rI_158 p14 ?_
        exact k_sb (sb_s (sb_s (sb_s (sb_n sb_nil)))) (hJ9 () _ h)
theorem d_Writer_putEnd_0 : decode b_Writer_putEnd 0 = .ok (.aload_n 0, 1) := by decide +kernel
theorem d_Writer_putEnd_1 : decode b_Writer_putEnd 1 = .ok (.getfield 51, 3) := by decide +kernel
theorem d_Writer_putEnd_4 : decode b_Writer_putEnd 4 = .ok (.iconst (-1), 1) := by decide +kernel
theorem d_Writer_putEnd_5 : decode b_Writer_putEnd 5 = .ok (.if_icmp .eq 58, 3) := by decide +kernel
theorem d_Writer_putEnd_8 : decode b_Writer_putEnd 8 = .ok (.aload_n 0, 1) := by decide +kernel
theorem d_Writer_putEnd_9 : decode b_Writer_putEnd 9 = .ok (.ldc 123, 2) := by decide +kernel
theorem d_Writer_putEnd_11 : decode b_Writer_putEnd 11 = .ok (.invokevirtual 113, 3) := by decide +kernel
theorem d_Writer_putEnd_14 : decode b_Writer_putEnd 14 = .ok (.aload_n 0, 1) := by decide +kernel
theorem d_Writer_putEnd_15 : decode b_Writer_putEnd 15 = .ok (.aload_n 0, 1) := by decide +kernel
theorem d_Writer_putEnd_16 : decode b_Writer_putEnd 16 = .ok (.getfield 15, 3) := by decide +kernel
theorem d_Writer_putEnd_19 : decode b_Writer_putEnd 19 = .ok (.getfield 88, 3) := by decide +kernel
theorem d_Writer_putEnd_22 : decode b_Writer_putEnd 22 = .ok (.aload_n 0, 1) := by decide +kernel
theorem d_Writer_putEnd_23 : decode b_Writer_putEnd 23 = .ok (.getfield 51, 3) := by decide +kernel
theorem d_Writer_putEnd_26 : decode b_Writer_putEnd 26 = .ok (.iaload, 1) := by decide +kernel
theorem d_Writer_putEnd_27 : decode b_Writer_putEnd 27 = .ok (.invokevirtual 91, 3) := by decide +kernel
theorem d_Writer_putEnd_30 : decode b_Writer_putEnd 30 = .ok (.aload_n 0, 1) := by decide +kernel
theorem d_Writer_putEnd_31 : decode b_Writer_putEnd 31 = .ok (.bipush 62, 2) := by decide +kernel
theorem d_Writer_putEnd_33 : decode b_Writer_putEnd 33 = .ok (.invokevirtual 85, 3) := by decide +kernel
theorem d_Writer_putEnd_36 : decode b_Writer_putEnd 36 = .ok (.aload_n 0, 1) := by decide +kernel
theorem d_Writer_putEnd_37 : decode b_Writer_putEnd 37 = .ok (.getfield 19, 3) := by decide +kernel
theorem d_Writer_putEnd_40 : decode b_Writer_putEnd 40 = .ok (.aload_n 0, 1) := by decide +kernel
theorem d_Writer_putEnd_41 : decode b_Writer_putEnd 41 = .ok (.getfield 51, 3) := by decide +kernel
theorem d_Writer_putEnd_44 : decode b_Writer_putEnd 44 = .ok (.invokevirtual 125, 3) := by decide +kernel
theorem d_Writer_putEnd_47 : decode b_Writer_putEnd 47 = .ok (.aload_n 0, 1) := by decide +kernel
theorem d_Writer_putEnd_48 : decode b_Writer_putEnd 48 = .ok (.aload_n 0, 1) := by decide +kernel
theorem d_Writer_putEnd_49 : decode b_Writer_putEnd 49 = .ok (.getfield 15, 3) := by decide +kernel
theorem d_Writer_putEnd_52 : decode b_Writer_putEnd 52 = .ok (.getfield 128, 3) := by decide +kernel
theorem d_Writer_putEnd_55 : decode b_Writer_putEnd 55 = .ok (.aload_n 0, 1) := by decide +kernel
theorem d_Writer_putEnd_56 : decode b_Writer_putEnd 56 = .ok (.getfield 51, 3) := by decide +kernel
theorem d_Writer_putEnd_59 : decode b_Writer_putEnd 59 = .ok (.iaload, 1) := by decide +kernel
theorem d_Writer_putEnd_60 : decode b_Writer_putEnd 60 = .ok (.putfield 51, 3) := by decide +kernel
theorem d_Writer_putEnd_63 : decode b_Writer_putEnd 63 = .ok (.return_, 1) := by decide +kernel
/-- Writer_putEnd -/
def w_Writer_putEnd (L : Nat → Nat)  (Q : IS → Prop) (σ : IS) : Prop := WJ (fun (s3 : Unit) (σ4 : IS) => Q σ4) (fun J1 => if (σ.1 11 8) = (-1) then J1 () σ else w_Writer_putText L 1086 (fun σ6 => inL L 146 (σ6.1 11 8) ∧ w_Writer_putWord L (σ6.2 146 (Int.toNat (σ6.1 11 8))) (fun σ8 => w_Writer_put L 62 (fun σ10 => w_Meanings_leave L (σ10.1 11 8) (fun σ12 => inL L 129 (σ12.1 11 8) ∧ J1 () (pf σ12 11 8 (σ12.2 129 (Int.toNat (σ12.1 11 8))))) σ10) σ8) σ6) σ)
set_option maxHeartbeats 4000000 in
set_option maxRecDepth 20000 in
theorem s_Writer_putEnd {L : Nat → Nat} (hL : ∀ r, L r < 2147483648) {d : Nat} (hd : 3 ≤ d)  {Q : IS → Prop} {σ : IS}  (h : w_Writer_putEnd L  Q σ) : OkI BF L d 11 b_Writer_putEnd 1 0 0 [] [some (.inr 11)] σ (qv Q) := by
  unfold w_Writer_putEnd at h
  obtain ⟨d, rfl⟩ : ∃ e, d = e + 1 := ⟨d - 1, by omega⟩
  refine k_sb (lv' := [some (.inr 11)]) (sb_s sb_nil) ?_
  refine k_aload_n d_Writer_putEnd_0 rfl ?_
  refine k_getI (x := (σ.1 11 8)) d_Writer_putEnd_1 fl_11_51 ob_11 rfl rfl ?_
  refine k_iconst d_Writer_putEnd_4 cI_m1 ?_
  refine k_join (S := Unit) (pc' := 63) (st' := fun s3 => []) (lv' := fun s3 => [none]) (fun s3 σ4 h => ?_) (fun J1 hJ2 h => ?_) h
  · exact k_ret d_Writer_putEnd_63 h
  · refine k_iceq d_Writer_putEnd_5 rfl (fun c5 => ?_) (fun c5 => ?_)
    · have h := ipos c5 h
      exact k_sb (sb_n sb_nil) (hJ2 () _ h)
    · have h := ineg c5 h
      refine k_aload_n d_Writer_putEnd_8 rfl ?_
      refine k_ldc d_Writer_putEnd_9 ks_11_123 rfl ?_
      refine k_cvv [.inr 1086] d_Writer_putEnd_11 ml_11_113 rfl rfl ob_11 rfl (s_Writer_putText hL (by omega) it_1086 h) (fun σ6 h => ?_)
      refine k_aload_n d_Writer_putEnd_14 rfl ?_
      refine k_aload_n d_Writer_putEnd_15 rfl ?_
      refine k_getR d_Writer_putEnd_16 fl_11_15 ob_11 rfl ?_
      refine k_getR d_Writer_putEnd_19 fl_11_88 ob_6 rfl ?_
      refine k_aload_n d_Writer_putEnd_22 rfl ?_
      refine k_getI (x := (σ6.1 11 8)) d_Writer_putEnd_23 fl_11_51 ob_11 rfl rfl ?_
      obtain ⟨p15, h⟩ := h
      refine k_ild (x := (σ6.2 146 (Int.toNat (σ6.1 11 8)))) d_Writer_putEnd_26 rI_146 p15 rfl ?_
      refine k_cvv [.inl (σ6.2 146 (Int.toNat (σ6.1 11 8)))] d_Writer_putEnd_27 ml_11_91 rfl rfl ob_11 rfl (s_Writer_putWord hL (by omega)  h) (fun σ8 h => ?_)
      refine k_aload_n d_Writer_putEnd_30 rfl ?_
      refine k_bipush d_Writer_putEnd_31 cB_62 ?_
      refine k_cvv [.inl 62] d_Writer_putEnd_33 ml_11_85 rfl rfl ob_11 rfl (s_Writer_put hL (by omega)  h) (fun σ10 h => ?_)
      refine k_aload_n d_Writer_putEnd_36 rfl ?_
      refine k_getR d_Writer_putEnd_37 fl_11_19 ob_11 rfl ?_
      refine k_aload_n d_Writer_putEnd_40 rfl ?_
      refine k_getI (x := (σ10.1 11 8)) d_Writer_putEnd_41 fl_11_51 ob_11 rfl rfl ?_
      refine k_cvv [.inl (σ10.1 11 8)] d_Writer_putEnd_44 ml_11_125 rfl rfl ob_10 rfl (s_Meanings_leave hL (by omega)  h) (fun σ12 h => ?_)
      refine k_aload_n d_Writer_putEnd_47 rfl ?_
      refine k_aload_n d_Writer_putEnd_48 rfl ?_
      refine k_getR d_Writer_putEnd_49 fl_11_15 ob_11 rfl ?_
      refine k_getR d_Writer_putEnd_52 fl_11_128 ob_6 rfl ?_
      refine k_aload_n d_Writer_putEnd_55 rfl ?_
      refine k_getI (x := (σ12.1 11 8)) d_Writer_putEnd_56 fl_11_51 ob_11 rfl rfl ?_
      obtain ⟨p14, h⟩ := h
      refine k_ild (x := (σ12.2 129 (Int.toNat (σ12.1 11 8)))) d_Writer_putEnd_59 rI_129 p14 rfl ?_
      refine k_putI d_Writer_putEnd_60 fl_11_51 ob_11 rfl ?_
      exact k_sb (sb_n sb_nil) (hJ2 () _ h)
theorem d_Meanings_enter_0 : decode b_Meanings_enter 0 = .ok (.aload_n 0, 1) := by decide +kernel
theorem d_Meanings_enter_1 : decode b_Meanings_enter 1 = .ok (.getfield 15, 3) := by decide +kernel
theorem d_Meanings_enter_4 : decode b_Meanings_enter 4 = .ok (.getfield 127, 3) := by decide +kernel
theorem d_Meanings_enter_7 : decode b_Meanings_enter 7 = .ok (.iload_n 1, 1) := by decide +kernel
theorem d_Meanings_enter_8 : decode b_Meanings_enter 8 = .ok (.iaload, 1) := by decide +kernel
theorem d_Meanings_enter_9 : decode b_Meanings_enter 9 = .ok (.istore_n 2, 1) := by decide +kernel
theorem d_Meanings_enter_10 : decode b_Meanings_enter 10 = .ok (.iload_n 2, 1) := by decide +kernel
theorem d_Meanings_enter_11 : decode b_Meanings_enter 11 = .ok (.aload_n 0, 1) := by decide +kernel
theorem d_Meanings_enter_12 : decode b_Meanings_enter 12 = .ok (.getfield 15, 3) := by decide +kernel
theorem d_Meanings_enter_15 : decode b_Meanings_enter 15 = .ok (.getfield 127, 3) := by decide +kernel
theorem d_Meanings_enter_18 : decode b_Meanings_enter 18 = .ok (.iload_n 1, 1) := by decide +kernel
theorem d_Meanings_enter_19 : decode b_Meanings_enter 19 = .ok (.iaload, 1) := by decide +kernel
theorem d_Meanings_enter_20 : decode b_Meanings_enter 20 = .ok (.aload_n 0, 1) := by decide +kernel
theorem d_Meanings_enter_21 : decode b_Meanings_enter 21 = .ok (.getfield 15, 3) := by decide +kernel
theorem d_Meanings_enter_24 : decode b_Meanings_enter 24 = .ok (.getfield 130, 3) := by decide +kernel
theorem d_Meanings_enter_27 : decode b_Meanings_enter 27 = .ok (.iload_n 1, 1) := by decide +kernel
theorem d_Meanings_enter_28 : decode b_Meanings_enter 28 = .ok (.iaload, 1) := by decide +kernel
theorem d_Meanings_enter_29 : decode b_Meanings_enter 29 = .ok (.iadd, 1) := by decide +kernel
theorem d_Meanings_enter_30 : decode b_Meanings_enter 30 = .ok (.if_icmp .ge 59, 3) := by decide +kernel
theorem d_Meanings_enter_33 : decode b_Meanings_enter 33 = .ok (.aload_n 0, 1) := by decide +kernel
theorem d_Meanings_enter_34 : decode b_Meanings_enter 34 = .ok (.iload_n 2, 1) := by decide +kernel
theorem d_Meanings_enter_35 : decode b_Meanings_enter 35 = .ok (.invokevirtual 133, 3) := by decide +kernel
theorem d_Meanings_enter_38 : decode b_Meanings_enter 38 = .ok (.istore_n 3, 1) := by decide +kernel
theorem d_Meanings_enter_39 : decode b_Meanings_enter 39 = .ok (.iload_n 3, 1) := by decide +kernel
theorem d_Meanings_enter_40 : decode b_Meanings_enter 40 = .ok (.iconst (-1), 1) := by decide +kernel
theorem d_Meanings_enter_41 : decode b_Meanings_enter 41 = .ok (.if_icmp .eq 42, 3) := by decide +kernel
theorem d_Meanings_enter_44 : decode b_Meanings_enter 44 = .ok (.aload_n 0, 1) := by decide +kernel
theorem d_Meanings_enter_45 : decode b_Meanings_enter 45 = .ok (.getfield 39, 3) := by decide +kernel
theorem d_Meanings_enter_48 : decode b_Meanings_enter 48 = .ok (.iload_n 2, 1) := by decide +kernel
theorem d_Meanings_enter_49 : decode b_Meanings_enter 49 = .ok (.aload_n 0, 1) := by decide +kernel
theorem d_Meanings_enter_50 : decode b_Meanings_enter 50 = .ok (.getfield 31, 3) := by decide +kernel
theorem d_Meanings_enter_53 : decode b_Meanings_enter 53 = .ok (.iload_n 3, 1) := by decide +kernel
theorem d_Meanings_enter_54 : decode b_Meanings_enter 54 = .ok (.iaload, 1) := by decide +kernel
theorem d_Meanings_enter_55 : decode b_Meanings_enter 55 = .ok (.iastore, 1) := by decide +kernel
theorem d_Meanings_enter_56 : decode b_Meanings_enter 56 = .ok (.iload_n 3, 1) := by decide +kernel
theorem d_Meanings_enter_57 : decode b_Meanings_enter 57 = .ok (.bipush 6, 2) := by decide +kernel
theorem d_Meanings_enter_59 : decode b_Meanings_enter 59 = .ok (.if_icmp .eq 24, 3) := by decide +kernel
theorem d_Meanings_enter_62 : decode b_Meanings_enter 62 = .ok (.iload_n 3, 1) := by decide +kernel
theorem d_Meanings_enter_63 : decode b_Meanings_enter 63 = .ok (.bipush 7, 2) := by decide +kernel
theorem d_Meanings_enter_65 : decode b_Meanings_enter 65 = .ok (.if_icmp .eq 18, 3) := by decide +kernel
theorem d_Meanings_enter_68 : decode b_Meanings_enter 68 = .ok (.aload_n 0, 1) := by decide +kernel
theorem d_Meanings_enter_69 : decode b_Meanings_enter 69 = .ok (.getfield 31, 3) := by decide +kernel
theorem d_Meanings_enter_72 : decode b_Meanings_enter 72 = .ok (.iload_n 3, 1) := by decide +kernel
theorem d_Meanings_enter_73 : decode b_Meanings_enter 73 = .ok (.aload_n 0, 1) := by decide +kernel
theorem d_Meanings_enter_74 : decode b_Meanings_enter 74 = .ok (.getfield 15, 3) := by decide +kernel
theorem d_Meanings_enter_77 : decode b_Meanings_enter 77 = .ok (.getfield 124, 3) := by decide +kernel
theorem d_Meanings_enter_80 : decode b_Meanings_enter 80 = .ok (.iload_n 2, 1) := by decide +kernel
theorem d_Meanings_enter_81 : decode b_Meanings_enter 81 = .ok (.iaload, 1) := by decide +kernel
theorem d_Meanings_enter_82 : decode b_Meanings_enter 82 = .ok (.iastore, 1) := by decide +kernel
theorem d_Meanings_enter_83 : decode b_Meanings_enter 83 = .ok (.iinc 2 1, 3) := by decide +kernel
theorem d_Meanings_enter_86 : decode b_Meanings_enter 86 = .ok (.goto (-76), 3) := by decide +kernel
theorem d_Meanings_enter_89 : decode b_Meanings_enter 89 = .ok (.return_, 1) := by decide +kernel
/-- Meanings_enter -/
def w_Meanings_enter (L : Nat → Nat) (a1 : Int) (Q : IS → Prop) (σ : IS) : Prop := inL L 130 a1 ∧ WL (fun (K1 : Int → IS → Prop) (s3 : Int) (σ4 : IS) => inL L 130 a1 ∧ inL L 131 a1 ∧ inR ((σ4.2 130 (Int.toNat a1)) + (σ4.2 131 (Int.toNat a1))) ∧ if s3 < ((σ4.2 130 (Int.toNat a1)) + (σ4.2 131 (Int.toNat a1))) then w_Meanings_declares L s3 (fun v7 σ6 => WJ (fun (s10 : Unit) (σ11 : IS) => inR (s3 + 1) ∧ K1 (s3 + 1) σ11) (fun J8 => if v7 = (-1) then J8 () σ6 else inL L 158 v7 ∧ inL L 159 s3 ∧ if ¬ v7 = 6 ∧ (¬ v7 = 7) then inL L 134 s3 ∧ inL L 158 v7 ∧ J8 () (pr (pr σ6 159 (Int.toNat s3) (σ6.2 158 (Int.toNat v7))) 158 (Int.toNat v7) (σ6.2 134 (Int.toNat s3))) else J8 () (pr σ6 159 (Int.toNat s3) (σ6.2 158 (Int.toNat v7))))) σ4 else Q σ4) (σ.2 130 (Int.toNat a1)) σ
set_option maxHeartbeats 4000000 in
set_option maxRecDepth 20000 in
theorem s_Meanings_enter {L : Nat → Nat} (hL : ∀ r, L r < 2147483648) {d : Nat} (hd : 2 ≤ d) {a1 : Int} {Q : IS → Prop} {σ : IS}  (h : w_Meanings_enter L a1 Q σ) : OkI BF L d 10 b_Meanings_enter 4 0 0 [] [some (.inr 10), some (.inl a1)] σ (qv Q) := by
  unfold w_Meanings_enter at h
  obtain ⟨d, rfl⟩ : ∃ e, d = e + 1 := ⟨d - 1, by omega⟩
  refine k_sb (lv' := [some (.inr 10), some (.inl a1), none, none]) (sb_s (sb_s (sb_e (sb_e sb_nil)))) ?_
  refine k_aload_n d_Meanings_enter_0 rfl ?_
  refine k_getR d_Meanings_enter_1 fl_10_15 ob_10 rfl ?_
  refine k_getR d_Meanings_enter_4 fl_10_127 ob_6 rfl ?_
  refine k_iload_n d_Meanings_enter_7 rfl ?_
  obtain ⟨p26, h⟩ := h
  refine k_ild (x := (σ.2 130 (Int.toNat a1))) d_Meanings_enter_8 rI_130 p26 rfl ?_
  refine k_istore_n (lv' := [some (.inr 10), some (.inl a1), some (.inl (σ.2 130 (Int.toNat a1))), none]) d_Meanings_enter_9 rfl rfl ?_
  refine k_sb (lv' := [some (.inr 10), some (.inl a1), some (.inl (σ.2 130 (Int.toNat a1))), none]) (sb_s (sb_s (sb_s (sb_s sb_nil)))) ?_
  refine k_loop (S := Int) (st := fun _ => []) (lv := fun s3 => [some (.inr 10), some (.inl a1), some (.inl s3), none]) (fun K1 hK2 s3 σ4 h => ?_) (σ.2 130 (Int.toNat a1)) _ h
  refine k_iload_n d_Meanings_enter_10 rfl ?_
  refine k_aload_n d_Meanings_enter_11 rfl ?_
  refine k_getR d_Meanings_enter_12 fl_10_15 ob_10 rfl ?_
  refine k_getR d_Meanings_enter_15 fl_10_127 ob_6 rfl ?_
  refine k_iload_n d_Meanings_enter_18 rfl ?_
  obtain ⟨p25, h⟩ := h
  refine k_ild (x := (σ4.2 130 (Int.toNat a1))) d_Meanings_enter_19 rI_130 p25 rfl ?_
  refine k_aload_n d_Meanings_enter_20 rfl ?_
  refine k_getR d_Meanings_enter_21 fl_10_15 ob_10 rfl ?_
  refine k_getR d_Meanings_enter_24 fl_10_130 ob_6 rfl ?_
  refine k_iload_n d_Meanings_enter_27 rfl ?_
  obtain ⟨p24, h⟩ := h
  refine k_ild (x := (σ4.2 131 (Int.toNat a1))) d_Meanings_enter_28 rI_131 p24 rfl ?_
  obtain ⟨p23, h⟩ := h
  refine k_iadd d_Meanings_enter_29 p23 ?_
  refine k_icge d_Meanings_enter_30 rfl (fun c5 => ?_) (fun c5 => ?_)
  · have h := ineg c5 h
    exact k_ret d_Meanings_enter_89 h
  · have h := ipos c5 h
    refine k_aload_n d_Meanings_enter_33 rfl ?_
    refine k_iload_n d_Meanings_enter_34 rfl ?_
    refine k_cvi [.inl s3] d_Meanings_enter_35 ml_10_133 rfl rfl ob_10 rfl (s_Meanings_declares hL (by omega)  h) (fun v7 σ6 h => ?_)
    refine k_istore_n (lv' := [some (.inr 10), some (.inl a1), some (.inl s3), some (.inl v7)]) d_Meanings_enter_38 rfl rfl ?_
    refine k_iload_n d_Meanings_enter_39 rfl ?_
    refine k_iconst d_Meanings_enter_40 cI_m1 ?_
    refine k_join (S := Unit) (pc' := 83) (st' := fun s10 => []) (lv' := fun s10 => [some (.inr 10), some (.inl a1), some (.inl s3), none]) (fun s10 σ11 h => ?_) (fun J8 hJ9 h => ?_) h
    · obtain ⟨p12, h⟩ := h
      refine k_iinc (lv' := [some (.inr 10), some (.inl a1), some (.inl (s3 + 1)), none]) d_Meanings_enter_83 cI_1 rfl rfl p12 rfl ?_
      refine k_goto d_Meanings_enter_86 rfl ?_
      exact k_sb (sb_s (sb_s (sb_s (sb_s sb_nil)))) (hK2 (s3 + 1) _ h)
    · refine k_iceq d_Meanings_enter_41 rfl (fun c13 => ?_) (fun c13 => ?_)
      · have h := ipos c13 h
        exact k_sb (sb_s (sb_s (sb_s (sb_n sb_nil)))) (hJ9 () _ h)
      · have h := ineg c13 h
        refine k_aload_n d_Meanings_enter_44 rfl ?_
        refine k_getR d_Meanings_enter_45 fl_10_39 ob_10 rfl ?_
        refine k_iload_n d_Meanings_enter_48 rfl ?_
        refine k_aload_n d_Meanings_enter_49 rfl ?_
        refine k_getR d_Meanings_enter_50 fl_10_31 ob_10 rfl ?_
        refine k_iload_n d_Meanings_enter_53 rfl ?_
        obtain ⟨p22, h⟩ := h
        refine k_ild (x := (σ6.2 158 (Int.toNat v7))) d_Meanings_enter_54 rI_158 p22 rfl ?_
        obtain ⟨p21, h⟩ := h
        refine k_ist d_Meanings_enter_55 rI_159 p21 ?_
        refine k_iload_n d_Meanings_enter_56 rfl ?_
        refine k_bipush d_Meanings_enter_57 cB_6 ?_
        have hX16 : (¬ v7 = 6 ∧ (¬ v7 = 7)) → OkI BF L (d + 1) 10 b_Meanings_enter 4 0 68 [] [some (.inr 10), some (.inl a1), some (.inl s3), some (.inl v7)] (pr σ6 159 (Int.toNat s3) (σ6.2 158 (Int.toNat v7))) (qv Q) := fun e18 => by
          have h := ipos e18 h
          refine k_aload_n d_Meanings_enter_68 rfl ?_
          refine k_getR d_Meanings_enter_69 fl_10_31 ob_10 rfl ?_
          refine k_iload_n d_Meanings_enter_72 rfl ?_
          refine k_aload_n d_Meanings_enter_73 rfl ?_
          refine k_getR d_Meanings_enter_74 fl_10_15 ob_10 rfl ?_
          refine k_getR d_Meanings_enter_77 fl_10_124 ob_6 rfl ?_
          refine k_iload_n d_Meanings_enter_80 rfl ?_
          obtain ⟨p15, h⟩ := h
          refine k_ild (x := (σ6.2 134 (Int.toNat s3))) d_Meanings_enter_81 rI_134 p15 rfl ?_
          obtain ⟨p14, h⟩ := h
          refine k_ist d_Meanings_enter_82 rI_158 p14 ?_
          exact k_sb (sb_s (sb_s (sb_s (sb_n sb_nil)))) (hJ9 () _ h)
        have hY17 : ¬ (¬ v7 = 6 ∧ (¬ v7 = 7)) → OkI BF L (d + 1) 10 b_Meanings_enter 4 0 83 [] [some (.inr 10), some (.inl a1), some (.inl s3), some (.inl v7)] (pr σ6 159 (Int.toNat s3) (σ6.2 158 (Int.toNat v7))) (qv Q) := fun e18 => by
          have h := ineg e18 h
          exact k_sb (sb_s (sb_s (sb_s (sb_n sb_nil)))) (hJ9 () _ h)
        refine k_iceq d_Meanings_enter_59 rfl (fun c19 => ?_) (fun c19 => ?_)
        · exact hY17 (fun z => z.1 c19)
        · refine k_iload_n d_Meanings_enter_62 rfl ?_
          refine k_bipush d_Meanings_enter_63 cB_7 ?_
          refine k_iceq d_Meanings_enter_65 rfl (fun c20 => ?_) (fun c20 => ?_)
          · exact hY17 (fun z => (fun z => z c20) z.2)
          · exact hX16 (⟨c19, c20⟩)
theorem d_Meanings_isIdle_0 : decode b_Meanings_isIdle 0 = .ok (.aload_n 0, 1) := by decide +kernel
theorem d_Meanings_isIdle_1 : decode b_Meanings_isIdle 1 = .ok (.getfield 15, 3) := by decide +kernel
theorem d_Meanings_isIdle_4 : decode b_Meanings_isIdle 4 = .ok (.getfield 124, 3) := by decide +kernel
theorem d_Meanings_isIdle_7 : decode b_Meanings_isIdle 7 = .ok (.iload_n 1, 1) := by decide +kernel
theorem d_Meanings_isIdle_8 : decode b_Meanings_isIdle 8 = .ok (.iaload, 1) := by decide +kernel
theorem d_Meanings_isIdle_9 : decode b_Meanings_isIdle 9 = .ok (.aload_n 0, 1) := by decide +kernel
theorem d_Meanings_isIdle_10 : decode b_Meanings_isIdle 10 = .ok (.getfield 39, 3) := by decide +kernel
theorem d_Meanings_isIdle_13 : decode b_Meanings_isIdle 13 = .ok (.iload_n 1, 1) := by decide +kernel
theorem d_Meanings_isIdle_14 : decode b_Meanings_isIdle 14 = .ok (.iaload, 1) := by decide +kernel
theorem d_Meanings_isIdle_15 : decode b_Meanings_isIdle 15 = .ok (.if_icmp .ne 7, 3) := by decide +kernel
theorem d_Meanings_isIdle_18 : decode b_Meanings_isIdle 18 = .ok (.iconst 1, 1) := by decide +kernel
theorem d_Meanings_isIdle_19 : decode b_Meanings_isIdle 19 = .ok (.goto 4, 3) := by decide +kernel
theorem d_Meanings_isIdle_22 : decode b_Meanings_isIdle 22 = .ok (.iconst 0, 1) := by decide +kernel
theorem d_Meanings_isIdle_23 : decode b_Meanings_isIdle 23 = .ok (.ireturn, 1) := by decide +kernel
/-- Meanings_isIdle -/
def w_Meanings_isIdle (L : Nat → Nat) (a1 : Int) (Q : Int → IS → Prop) (σ : IS) : Prop := inL L 134 a1 ∧ inL L 159 a1 ∧ Q (if (σ.2 134 (Int.toNat a1)) = (σ.2 159 (Int.toNat a1)) then (1 : Int) else (0 : Int)) σ
set_option maxHeartbeats 4000000 in
set_option maxRecDepth 20000 in
theorem s_Meanings_isIdle {L : Nat → Nat} (hL : ∀ r, L r < 2147483648) {d : Nat} (hd : 0 ≤ d) {a1 : Int} {Q : Int → IS → Prop} {σ : IS}  (h : w_Meanings_isIdle L a1 Q σ) : OkI BF L d 10 b_Meanings_isIdle 2 2 0 [] [some (.inr 10), some (.inl a1)] σ (qi Q) := by
  unfold w_Meanings_isIdle at h
  refine k_sb (lv' := [some (.inr 10), some (.inl a1)]) (sb_s (sb_s sb_nil)) ?_
  refine k_aload_n d_Meanings_isIdle_0 rfl ?_
  refine k_getR d_Meanings_isIdle_1 fl_10_15 ob_10 rfl ?_
  refine k_getR d_Meanings_isIdle_4 fl_10_124 ob_6 rfl ?_
  refine k_iload_n d_Meanings_isIdle_7 rfl ?_
  obtain ⟨p6, h⟩ := h
  refine k_ild (x := (σ.2 134 (Int.toNat a1))) d_Meanings_isIdle_8 rI_134 p6 rfl ?_
  refine k_aload_n d_Meanings_isIdle_9 rfl ?_
  refine k_getR d_Meanings_isIdle_10 fl_10_39 ob_10 rfl ?_
  refine k_iload_n d_Meanings_isIdle_13 rfl ?_
  obtain ⟨p5, h⟩ := h
  refine k_ild (x := (σ.2 159 (Int.toNat a1))) d_Meanings_isIdle_14 rI_159 p5 rfl ?_
  have hV1 : OkI BF L d 10 b_Meanings_isIdle 2 2 23 [.inl (if (σ.2 134 (Int.toNat a1)) = (σ.2 159 (Int.toNat a1)) then (1 : Int) else (0 : Int))] [some (.inr 10), some (.inl a1)] σ (qi Q) := by
    exact k_iret d_Meanings_isIdle_23 (Or.inr ⟨rfl, it01 (Or.inr rfl) (Or.inl rfl)⟩) h
  refine k_icne d_Meanings_isIdle_15 rfl (fun c2 => ?_) (fun c2 => ?_)
  · have hV4 := k_eqI (if_neg c2) hV1
    refine k_iconst d_Meanings_isIdle_22 cI_0 ?_
    exact hV4
  · have hV3 := k_eqI (if_pos c2) hV1
    refine k_iconst d_Meanings_isIdle_18 cI_1 ?_
    refine k_goto d_Meanings_isIdle_19 rfl ?_
    exact hV3
theorem d_Store_compare_0 : decode b_Store_compare 0 = .ok (.aload_n 0, 1) := by decide +kernel
theorem d_Store_compare_1 : decode b_Store_compare 1 = .ok (.getfield 29, 3) := by decide +kernel
theorem d_Store_compare_4 : decode b_Store_compare 4 = .ok (.iload_n 1, 1) := by decide +kernel
theorem d_Store_compare_5 : decode b_Store_compare 5 = .ok (.iaload, 1) := by decide +kernel
theorem d_Store_compare_6 : decode b_Store_compare 6 = .ok (.aload_n 0, 1) := by decide +kernel
theorem d_Store_compare_7 : decode b_Store_compare 7 = .ok (.getfield 29, 3) := by decide +kernel
theorem d_Store_compare_10 : decode b_Store_compare 10 = .ok (.iload_n 2, 1) := by decide +kernel
theorem d_Store_compare_11 : decode b_Store_compare 11 = .ok (.iaload, 1) := by decide +kernel
theorem d_Store_compare_12 : decode b_Store_compare 12 = .ok (.invokestatic 16, 3) := by decide +kernel
theorem d_Store_compare_15 : decode b_Store_compare 15 = .ok (.istore_n 3, 1) := by decide +kernel
theorem d_Store_compare_16 : decode b_Store_compare 16 = .ok (.iconst 0, 1) := by decide +kernel
theorem d_Store_compare_17 : decode b_Store_compare 17 = .ok (.istore 4, 2) := by decide +kernel
theorem d_Store_compare_19 : decode b_Store_compare 19 = .ok (.iload 4, 2) := by decide +kernel
theorem d_Store_compare_21 : decode b_Store_compare 21 = .ok (.iload_n 3, 1) := by decide +kernel
theorem d_Store_compare_22 : decode b_Store_compare 22 = .ok (.if_icmp .ge 48, 3) := by decide +kernel
theorem d_Store_compare_25 : decode b_Store_compare 25 = .ok (.aload_n 0, 1) := by decide +kernel
theorem d_Store_compare_26 : decode b_Store_compare 26 = .ok (.getfield 22, 3) := by decide +kernel
theorem d_Store_compare_29 : decode b_Store_compare 29 = .ok (.aload_n 0, 1) := by decide +kernel
theorem d_Store_compare_30 : decode b_Store_compare 30 = .ok (.getfield 26, 3) := by decide +kernel
theorem d_Store_compare_33 : decode b_Store_compare 33 = .ok (.iload_n 1, 1) := by decide +kernel
theorem d_Store_compare_34 : decode b_Store_compare 34 = .ok (.iaload, 1) := by decide +kernel
theorem d_Store_compare_35 : decode b_Store_compare 35 = .ok (.iload 4, 2) := by decide +kernel
theorem d_Store_compare_37 : decode b_Store_compare 37 = .ok (.iadd, 1) := by decide +kernel
theorem d_Store_compare_38 : decode b_Store_compare 38 = .ok (.iaload, 1) := by decide +kernel
theorem d_Store_compare_39 : decode b_Store_compare 39 = .ok (.aload_n 0, 1) := by decide +kernel
theorem d_Store_compare_40 : decode b_Store_compare 40 = .ok (.getfield 22, 3) := by decide +kernel
theorem d_Store_compare_43 : decode b_Store_compare 43 = .ok (.aload_n 0, 1) := by decide +kernel
theorem d_Store_compare_44 : decode b_Store_compare 44 = .ok (.getfield 26, 3) := by decide +kernel
theorem d_Store_compare_47 : decode b_Store_compare 47 = .ok (.iload_n 2, 1) := by decide +kernel
theorem d_Store_compare_48 : decode b_Store_compare 48 = .ok (.iaload, 1) := by decide +kernel
theorem d_Store_compare_49 : decode b_Store_compare 49 = .ok (.iload 4, 2) := by decide +kernel
theorem d_Store_compare_51 : decode b_Store_compare 51 = .ok (.iadd, 1) := by decide +kernel
theorem d_Store_compare_52 : decode b_Store_compare 52 = .ok (.iaload, 1) := by decide +kernel
theorem d_Store_compare_53 : decode b_Store_compare 53 = .ok (.isub, 1) := by decide +kernel
theorem d_Store_compare_54 : decode b_Store_compare 54 = .ok (.istore 5, 2) := by decide +kernel
theorem d_Store_compare_56 : decode b_Store_compare 56 = .ok (.iload 5, 2) := by decide +kernel
theorem d_Store_compare_58 : decode b_Store_compare 58 = .ok (.ifCond .eq 6, 3) := by decide +kernel
theorem d_Store_compare_61 : decode b_Store_compare 61 = .ok (.iload 5, 2) := by decide +kernel
theorem d_Store_compare_63 : decode b_Store_compare 63 = .ok (.ireturn, 1) := by decide +kernel
theorem d_Store_compare_64 : decode b_Store_compare 64 = .ok (.iinc 4 1, 3) := by decide +kernel
theorem d_Store_compare_67 : decode b_Store_compare 67 = .ok (.goto (-48), 3) := by decide +kernel
theorem d_Store_compare_70 : decode b_Store_compare 70 = .ok (.aload_n 0, 1) := by decide +kernel
theorem d_Store_compare_71 : decode b_Store_compare 71 = .ok (.getfield 29, 3) := by decide +kernel
theorem d_Store_compare_74 : decode b_Store_compare 74 = .ok (.iload_n 1, 1) := by decide +kernel
theorem d_Store_compare_75 : decode b_Store_compare 75 = .ok (.iaload, 1) := by decide +kernel
theorem d_Store_compare_76 : decode b_Store_compare 76 = .ok (.aload_n 0, 1) := by decide +kernel
theorem d_Store_compare_77 : decode b_Store_compare 77 = .ok (.getfield 29, 3) := by decide +kernel
theorem d_Store_compare_80 : decode b_Store_compare 80 = .ok (.iload_n 2, 1) := by decide +kernel
theorem d_Store_compare_81 : decode b_Store_compare 81 = .ok (.iaload, 1) := by decide +kernel
theorem d_Store_compare_82 : decode b_Store_compare 82 = .ok (.isub, 1) := by decide +kernel
theorem d_Store_compare_83 : decode b_Store_compare 83 = .ok (.ireturn, 1) := by decide +kernel
/-- Store_compare -/
def w_Store_compare (L : Nat → Nat) (a1 : Int) (a2 : Int) (Q : Int → IS → Prop) (σ : IS) : Prop := inL L 103 a1 ∧ inL L 103 a2 ∧ WL (fun (K1 : Int → IS → Prop) (s3 : Int) (σ4 : IS) => if s3 < (if (σ.2 103 (Int.toNat a2)) < (σ.2 103 (Int.toNat a1)) then (σ.2 103 (Int.toNat a2)) else (σ.2 103 (Int.toNat a1))) then inL L 102 a1 ∧ inR ((σ4.2 102 (Int.toNat a1)) + s3) ∧ inL L 101 ((σ4.2 102 (Int.toNat a1)) + s3) ∧ inL L 102 a2 ∧ inR ((σ4.2 102 (Int.toNat a2)) + s3) ∧ inL L 101 ((σ4.2 102 (Int.toNat a2)) + s3) ∧ inR ((σ4.2 101 (Int.toNat ((σ4.2 102 (Int.toNat a1)) + s3))) - (σ4.2 101 (Int.toNat ((σ4.2 102 (Int.toNat a2)) + s3)))) ∧ if ((σ4.2 101 (Int.toNat ((σ4.2 102 (Int.toNat a1)) + s3))) - (σ4.2 101 (Int.toNat ((σ4.2 102 (Int.toNat a2)) + s3)))) = 0 then inR (s3 + 1) ∧ K1 (s3 + 1) σ4 else Q ((σ4.2 101 (Int.toNat ((σ4.2 102 (Int.toNat a1)) + s3))) - (σ4.2 101 (Int.toNat ((σ4.2 102 (Int.toNat a2)) + s3)))) σ4 else inL L 103 a1 ∧ inL L 103 a2 ∧ inR ((σ4.2 103 (Int.toNat a1)) - (σ4.2 103 (Int.toNat a2))) ∧ Q ((σ4.2 103 (Int.toNat a1)) - (σ4.2 103 (Int.toNat a2))) σ4) 0 σ
set_option maxHeartbeats 4000000 in
set_option maxRecDepth 20000 in
theorem s_Store_compare {L : Nat → Nat} (hL : ∀ r, L r < 2147483648) {d : Nat} (hd : 0 ≤ d) {a1 : Int} {a2 : Int} {Q : Int → IS → Prop} {σ : IS}  (h : w_Store_compare L a1 a2 Q σ) : OkI BF L d 1 b_Store_compare 6 1 0 [] [some (.inr 1), some (.inl a1), some (.inl a2)] σ (qi Q) := by
  unfold w_Store_compare at h
  refine k_sb (lv' := [some (.inr 1), some (.inl a1), some (.inl a2), none, none, none]) (sb_s (sb_s (sb_s (sb_e (sb_e (sb_e sb_nil)))))) ?_
  refine k_aload_n d_Store_compare_0 rfl ?_
  refine k_getR d_Store_compare_1 fl_1_29 ob_1 rfl ?_
  refine k_iload_n d_Store_compare_4 rfl ?_
  obtain ⟨p19, h⟩ := h
  refine k_ild (x := (σ.2 103 (Int.toNat a1))) d_Store_compare_5 rI_103 p19 rfl ?_
  refine k_aload_n d_Store_compare_6 rfl ?_
  refine k_getR d_Store_compare_7 fl_1_29 ob_1 rfl ?_
  refine k_iload_n d_Store_compare_10 rfl ?_
  obtain ⟨p18, h⟩ := h
  refine k_ild (x := (σ.2 103 (Int.toNat a2))) d_Store_compare_11 rI_103 p18 rfl ?_
  refine k_min d_Store_compare_12 ml_1_16 rfl ?_
  refine k_istore_n (lv' := [some (.inr 1), some (.inl a1), some (.inl a2), some (.inl (if (σ.2 103 (Int.toNat a2)) < (σ.2 103 (Int.toNat a1)) then (σ.2 103 (Int.toNat a2)) else (σ.2 103 (Int.toNat a1)))), none, none]) d_Store_compare_15 rfl rfl ?_
  refine k_iconst d_Store_compare_16 cI_0 ?_
  refine k_istore (lv' := [some (.inr 1), some (.inl a1), some (.inl a2), some (.inl (if (σ.2 103 (Int.toNat a2)) < (σ.2 103 (Int.toNat a1)) then (σ.2 103 (Int.toNat a2)) else (σ.2 103 (Int.toNat a1)))), some (.inl 0), none]) d_Store_compare_17 rfl rfl ?_
  refine k_sb (lv' := [some (.inr 1), some (.inl a1), some (.inl a2), some (.inl (if (σ.2 103 (Int.toNat a2)) < (σ.2 103 (Int.toNat a1)) then (σ.2 103 (Int.toNat a2)) else (σ.2 103 (Int.toNat a1)))), some (.inl 0), none]) (sb_s (sb_s (sb_s (sb_s (sb_s (sb_s sb_nil)))))) ?_
  refine k_loop (S := Int) (st := fun _ => []) (lv := fun s3 => [some (.inr 1), some (.inl a1), some (.inl a2), some (.inl (if (σ.2 103 (Int.toNat a2)) < (σ.2 103 (Int.toNat a1)) then (σ.2 103 (Int.toNat a2)) else (σ.2 103 (Int.toNat a1)))), some (.inl s3), none]) (fun K1 hK2 s3 σ4 h => ?_) 0 _ h
  refine k_iload d_Store_compare_19 rfl ?_
  refine k_iload_n d_Store_compare_21 rfl ?_
  refine k_icge d_Store_compare_22 rfl (fun c5 => ?_) (fun c5 => ?_)
  · have h := ineg c5 h
    refine k_aload_n d_Store_compare_70 rfl ?_
    refine k_getR d_Store_compare_71 fl_1_29 ob_1 rfl ?_
    refine k_iload_n d_Store_compare_74 rfl ?_
    obtain ⟨p8, h⟩ := h
    refine k_ild (x := (σ4.2 103 (Int.toNat a1))) d_Store_compare_75 rI_103 p8 rfl ?_
    refine k_aload_n d_Store_compare_76 rfl ?_
    refine k_getR d_Store_compare_77 fl_1_29 ob_1 rfl ?_
    refine k_iload_n d_Store_compare_80 rfl ?_
    obtain ⟨p7, h⟩ := h
    refine k_ild (x := (σ4.2 103 (Int.toNat a2))) d_Store_compare_81 rI_103 p7 rfl ?_
    obtain ⟨p6, h⟩ := h
    refine k_isub d_Store_compare_82 p6 ?_
    exact k_iret d_Store_compare_83 (Or.inl rfl) h
  · have h := ipos c5 h
    refine k_aload_n d_Store_compare_25 rfl ?_
    refine k_getR d_Store_compare_26 fl_1_22 ob_1 rfl ?_
    refine k_aload_n d_Store_compare_29 rfl ?_
    refine k_getR d_Store_compare_30 fl_1_26 ob_1 rfl ?_
    refine k_iload_n d_Store_compare_33 rfl ?_
    obtain ⟨p17, h⟩ := h
    refine k_ild (x := (σ4.2 102 (Int.toNat a1))) d_Store_compare_34 rI_102 p17 rfl ?_
    refine k_iload d_Store_compare_35 rfl ?_
    obtain ⟨p16, h⟩ := h
    refine k_iadd d_Store_compare_37 p16 ?_
    obtain ⟨p15, h⟩ := h
    refine k_ild (x := (σ4.2 101 (Int.toNat ((σ4.2 102 (Int.toNat a1)) + s3)))) d_Store_compare_38 rI_101 p15 rfl ?_
    refine k_aload_n d_Store_compare_39 rfl ?_
    refine k_getR d_Store_compare_40 fl_1_22 ob_1 rfl ?_
    refine k_aload_n d_Store_compare_43 rfl ?_
    refine k_getR d_Store_compare_44 fl_1_26 ob_1 rfl ?_
    refine k_iload_n d_Store_compare_47 rfl ?_
    obtain ⟨p14, h⟩ := h
    refine k_ild (x := (σ4.2 102 (Int.toNat a2))) d_Store_compare_48 rI_102 p14 rfl ?_
    refine k_iload d_Store_compare_49 rfl ?_
    obtain ⟨p13, h⟩ := h
    refine k_iadd d_Store_compare_51 p13 ?_
    obtain ⟨p12, h⟩ := h
    refine k_ild (x := (σ4.2 101 (Int.toNat ((σ4.2 102 (Int.toNat a2)) + s3)))) d_Store_compare_52 rI_101 p12 rfl ?_
    obtain ⟨p11, h⟩ := h
    refine k_isub d_Store_compare_53 p11 ?_
    refine k_istore (lv' := [some (.inr 1), some (.inl a1), some (.inl a2), some (.inl (if (σ.2 103 (Int.toNat a2)) < (σ.2 103 (Int.toNat a1)) then (σ.2 103 (Int.toNat a2)) else (σ.2 103 (Int.toNat a1)))), some (.inl s3), some (.inl ((σ4.2 101 (Int.toNat ((σ4.2 102 (Int.toNat a1)) + s3))) - (σ4.2 101 (Int.toNat ((σ4.2 102 (Int.toNat a2)) + s3)))))]) d_Store_compare_54 rfl rfl ?_
    refine k_iload d_Store_compare_56 rfl ?_
    refine k_ifeq d_Store_compare_58 rfl (fun c9 => ?_) (fun c9 => ?_)
    · have h := ipos c9 h
      obtain ⟨p10, h⟩ := h
      refine k_iinc (lv' := [some (.inr 1), some (.inl a1), some (.inl a2), some (.inl (if (σ.2 103 (Int.toNat a2)) < (σ.2 103 (Int.toNat a1)) then (σ.2 103 (Int.toNat a2)) else (σ.2 103 (Int.toNat a1)))), some (.inl (s3 + 1)), some (.inl ((σ4.2 101 (Int.toNat ((σ4.2 102 (Int.toNat a1)) + s3))) - (σ4.2 101 (Int.toNat ((σ4.2 102 (Int.toNat a2)) + s3)))))]) d_Store_compare_64 cI_1 rfl rfl p10 rfl ?_
      refine k_goto d_Store_compare_67 rfl ?_
      exact k_sb (sb_s (sb_s (sb_s (sb_s (sb_s (sb_n sb_nil)))))) (hK2 (s3 + 1) _ h)
    · have h := ineg c9 h
      refine k_iload d_Store_compare_61 rfl ?_
      exact k_iret d_Store_compare_63 (Or.inl rfl) h
theorem d_Meanings_meaning_0 : decode b_Meanings_meaning 0 = .ok (.aload_n 0, 1) := by decide +kernel
theorem d_Meanings_meaning_1 : decode b_Meanings_meaning 1 = .ok (.aload_n 0, 1) := by decide +kernel
theorem d_Meanings_meaning_2 : decode b_Meanings_meaning 2 = .ok (.getfield 15, 3) := by decide +kernel
theorem d_Meanings_meaning_5 : decode b_Meanings_meaning 5 = .ok (.getfield 34, 3) := by decide +kernel
theorem d_Meanings_meaning_8 : decode b_Meanings_meaning 8 = .ok (.iload_n 1, 1) := by decide +kernel
theorem d_Meanings_meaning_9 : decode b_Meanings_meaning 9 = .ok (.iaload, 1) := by decide +kernel
theorem d_Meanings_meaning_10 : decode b_Meanings_meaning 10 = .ok (.invokevirtual 120, 3) := by decide +kernel
theorem d_Meanings_meaning_13 : decode b_Meanings_meaning 13 = .ok (.istore_n 2, 1) := by decide +kernel
theorem d_Meanings_meaning_14 : decode b_Meanings_meaning 14 = .ok (.iload_n 2, 1) := by decide +kernel
theorem d_Meanings_meaning_15 : decode b_Meanings_meaning 15 = .ok (.ifCond .ne 7, 3) := by decide +kernel
theorem d_Meanings_meaning_18 : decode b_Meanings_meaning 18 = .ok (.iconst 0, 1) := by decide +kernel
theorem d_Meanings_meaning_19 : decode b_Meanings_meaning 19 = .ok (.goto 9, 3) := by decide +kernel
theorem d_Meanings_meaning_22 : decode b_Meanings_meaning 22 = .ok (.aload_n 0, 1) := by decide +kernel
theorem d_Meanings_meaning_23 : decode b_Meanings_meaning 23 = .ok (.getfield 31, 3) := by decide +kernel
theorem d_Meanings_meaning_26 : decode b_Meanings_meaning 26 = .ok (.iload_n 2, 1) := by decide +kernel
theorem d_Meanings_meaning_27 : decode b_Meanings_meaning 27 = .ok (.iaload, 1) := by decide +kernel
theorem d_Meanings_meaning_28 : decode b_Meanings_meaning 28 = .ok (.ireturn, 1) := by decide +kernel
/-- Meanings_meaning -/
def w_Meanings_meaning (L : Nat → Nat) (a1 : Int) (Q : Int → IS → Prop) (σ : IS) : Prop := inL L 161 a1 ∧ w_Meanings_prefix L (σ.2 161 (Int.toNat a1)) (fun v2 σ1 => ((¬ v2 = 0 → inL L 158 v2)) ∧ Q (if v2 = 0 then (0 : Int) else (σ1.2 158 (Int.toNat v2))) σ1) σ
set_option maxHeartbeats 4000000 in
set_option maxRecDepth 20000 in
theorem s_Meanings_meaning {L : Nat → Nat} (hL : ∀ r, L r < 2147483648) {d : Nat} (hd : 1 ≤ d) {a1 : Int} {Q : Int → IS → Prop} {σ : IS}  (h : w_Meanings_meaning L a1 Q σ) : OkI BF L d 10 b_Meanings_meaning 3 1 0 [] [some (.inr 10), some (.inl a1)] σ (qi Q) := by
  unfold w_Meanings_meaning at h
  obtain ⟨d, rfl⟩ : ∃ e, d = e + 1 := ⟨d - 1, by omega⟩
  refine k_sb (lv' := [some (.inr 10), some (.inl a1), none]) (sb_s (sb_s (sb_e sb_nil))) ?_
  refine k_aload_n d_Meanings_meaning_0 rfl ?_
  refine k_aload_n d_Meanings_meaning_1 rfl ?_
  refine k_getR d_Meanings_meaning_2 fl_10_15 ob_10 rfl ?_
  refine k_getR d_Meanings_meaning_5 fl_10_34 ob_6 rfl ?_
  refine k_iload_n d_Meanings_meaning_8 rfl ?_
  obtain ⟨p10, h⟩ := h
  refine k_ild (x := (σ.2 161 (Int.toNat a1))) d_Meanings_meaning_9 rI_161 p10 rfl ?_
  refine k_cvi [.inl (σ.2 161 (Int.toNat a1))] d_Meanings_meaning_10 ml_10_120 rfl rfl ob_10 rfl (s_Meanings_prefix hL (by omega)  h) (fun v2 σ1 h => ?_)
  refine k_istore_n (lv' := [some (.inr 10), some (.inl a1), some (.inl v2)]) d_Meanings_meaning_13 rfl rfl ?_
  refine k_iload_n d_Meanings_meaning_14 rfl ?_
  obtain ⟨pt5, h⟩ := h
  have hV4 : OkI BF L (d + 1) 10 b_Meanings_meaning 3 1 28 [.inl (if v2 = 0 then (0 : Int) else (σ1.2 158 (Int.toNat v2)))] [some (.inr 10), some (.inl a1), some (.inl v2)] σ1 (qi Q) := by
    exact k_iret d_Meanings_meaning_28 (Or.inl rfl) h
  have pb6 := pt5
  refine k_ifne d_Meanings_meaning_15 rfl (fun c7 => ?_) (fun c7 => ?_)
  · have pb6 := pb6 c7
    have hV9 := k_eqI (if_neg c7) hV4
    have p3 := pb6
    refine k_aload_n d_Meanings_meaning_22 rfl ?_
    refine k_getR d_Meanings_meaning_23 fl_10_31 ob_10 rfl ?_
    refine k_iload_n d_Meanings_meaning_26 rfl ?_
    refine k_ild (x := (σ1.2 158 (Int.toNat v2))) d_Meanings_meaning_27 rI_158 p3 rfl ?_
    exact hV9
  · have hV8 := k_eqI (if_pos c7) hV4
    refine k_iconst d_Meanings_meaning_18 cI_0 ?_
    refine k_goto d_Meanings_meaning_19 rfl ?_
    exact hV8
theorem d_Meanings_local_0 : decode b_Meanings_local 0 = .ok (.aload_n 0, 1) := by decide +kernel
theorem d_Meanings_local_1 : decode b_Meanings_local 1 = .ok (.getfield 28, 3) := by decide +kernel
theorem d_Meanings_local_4 : decode b_Meanings_local 4 = .ok (.aload_n 0, 1) := by decide +kernel
theorem d_Meanings_local_5 : decode b_Meanings_local 5 = .ok (.getfield 15, 3) := by decide +kernel
theorem d_Meanings_local_8 : decode b_Meanings_local 8 = .ok (.getfield 34, 3) := by decide +kernel
theorem d_Meanings_local_11 : decode b_Meanings_local 11 = .ok (.iload_n 1, 1) := by decide +kernel
theorem d_Meanings_local_12 : decode b_Meanings_local 12 = .ok (.iaload, 1) := by decide +kernel
theorem d_Meanings_local_13 : decode b_Meanings_local 13 = .ok (.iaload, 1) := by decide +kernel
theorem d_Meanings_local_14 : decode b_Meanings_local 14 = .ok (.ireturn, 1) := by decide +kernel
/-- Meanings_local -/
def w_Meanings_local (L : Nat → Nat) (a1 : Int) (Q : Int → IS → Prop) (σ : IS) : Prop := inL L 161 a1 ∧ inL L 157 (σ.2 161 (Int.toNat a1)) ∧ Q (σ.2 157 (Int.toNat (σ.2 161 (Int.toNat a1)))) σ
set_option maxHeartbeats 4000000 in
set_option maxRecDepth 20000 in
theorem s_Meanings_local {L : Nat → Nat} (hL : ∀ r, L r < 2147483648) {d : Nat} (hd : 0 ≤ d) {a1 : Int} {Q : Int → IS → Prop} {σ : IS}  (h : w_Meanings_local L a1 Q σ) : OkI BF L d 10 b_Meanings_local 2 1 0 [] [some (.inr 10), some (.inl a1)] σ (qi Q) := by
  unfold w_Meanings_local at h
  refine k_sb (lv' := [some (.inr 10), some (.inl a1)]) (sb_s (sb_s sb_nil)) ?_
  refine k_aload_n d_Meanings_local_0 rfl ?_
  refine k_getR d_Meanings_local_1 fl_10_28 ob_10 rfl ?_
  refine k_aload_n d_Meanings_local_4 rfl ?_
  refine k_getR d_Meanings_local_5 fl_10_15 ob_10 rfl ?_
  refine k_getR d_Meanings_local_8 fl_10_34 ob_6 rfl ?_
  refine k_iload_n d_Meanings_local_11 rfl ?_
  obtain ⟨p2, h⟩ := h
  refine k_ild (x := (σ.2 161 (Int.toNat a1))) d_Meanings_local_12 rI_161 p2 rfl ?_
  obtain ⟨p1, h⟩ := h
  refine k_ild (x := (σ.2 157 (Int.toNat (σ.2 161 (Int.toNat a1))))) d_Meanings_local_13 rI_157 p1 rfl ?_
  exact k_iret d_Meanings_local_14 (Or.inl rfl) h
theorem d_Writer_isBefore_0 : decode b_Writer_isBefore 0 = .ok (.aload_n 0, 1) := by decide +kernel
theorem d_Writer_isBefore_1 : decode b_Writer_isBefore 1 = .ok (.getfield 19, 3) := by decide +kernel
theorem d_Writer_isBefore_4 : decode b_Writer_isBefore 4 = .ok (.iload_n 1, 1) := by decide +kernel
theorem d_Writer_isBefore_5 : decode b_Writer_isBefore 5 = .ok (.invokevirtual 100, 3) := by decide +kernel
theorem d_Writer_isBefore_8 : decode b_Writer_isBefore 8 = .ok (.istore_n 3, 1) := by decide +kernel
theorem d_Writer_isBefore_9 : decode b_Writer_isBefore 9 = .ok (.aload_n 0, 1) := by decide +kernel
theorem d_Writer_isBefore_10 : decode b_Writer_isBefore 10 = .ok (.getfield 19, 3) := by decide +kernel
theorem d_Writer_isBefore_13 : decode b_Writer_isBefore 13 = .ok (.iload_n 2, 1) := by decide +kernel
theorem d_Writer_isBefore_14 : decode b_Writer_isBefore 14 = .ok (.invokevirtual 100, 3) := by decide +kernel
theorem d_Writer_isBefore_17 : decode b_Writer_isBefore 17 = .ok (.istore 4, 2) := by decide +kernel
theorem d_Writer_isBefore_19 : decode b_Writer_isBefore 19 = .ok (.iload_n 3, 1) := by decide +kernel
theorem d_Writer_isBefore_20 : decode b_Writer_isBefore 20 = .ok (.iconst (-1), 1) := by decide +kernel
theorem d_Writer_isBefore_21 : decode b_Writer_isBefore 21 = .ok (.if_icmp .eq 28, 3) := by decide +kernel
theorem d_Writer_isBefore_24 : decode b_Writer_isBefore 24 = .ok (.iload 4, 2) := by decide +kernel
theorem d_Writer_isBefore_26 : decode b_Writer_isBefore 26 = .ok (.iconst (-1), 1) := by decide +kernel
theorem d_Writer_isBefore_27 : decode b_Writer_isBefore 27 = .ok (.if_icmp .eq 22, 3) := by decide +kernel
theorem d_Writer_isBefore_30 : decode b_Writer_isBefore 30 = .ok (.aload_n 0, 1) := by decide +kernel
theorem d_Writer_isBefore_31 : decode b_Writer_isBefore 31 = .ok (.getfield 9, 3) := by decide +kernel
theorem d_Writer_isBefore_34 : decode b_Writer_isBefore 34 = .ok (.iload_n 3, 1) := by decide +kernel
theorem d_Writer_isBefore_35 : decode b_Writer_isBefore 35 = .ok (.iload 4, 2) := by decide +kernel
theorem d_Writer_isBefore_37 : decode b_Writer_isBefore 37 = .ok (.invokevirtual 185, 3) := by decide +kernel
theorem d_Writer_isBefore_40 : decode b_Writer_isBefore 40 = .ok (.ifCond .ge 7, 3) := by decide +kernel
theorem d_Writer_isBefore_43 : decode b_Writer_isBefore 43 = .ok (.iconst 1, 1) := by decide +kernel
theorem d_Writer_isBefore_44 : decode b_Writer_isBefore 44 = .ok (.goto 4, 3) := by decide +kernel
theorem d_Writer_isBefore_47 : decode b_Writer_isBefore 47 = .ok (.iconst 0, 1) := by decide +kernel
theorem d_Writer_isBefore_48 : decode b_Writer_isBefore 48 = .ok (.ireturn, 1) := by decide +kernel
theorem d_Writer_isBefore_49 : decode b_Writer_isBefore 49 = .ok (.iload_n 3, 1) := by decide +kernel
theorem d_Writer_isBefore_50 : decode b_Writer_isBefore 50 = .ok (.iconst (-1), 1) := by decide +kernel
theorem d_Writer_isBefore_51 : decode b_Writer_isBefore 51 = .ok (.if_icmp .ne 9, 3) := by decide +kernel
theorem d_Writer_isBefore_54 : decode b_Writer_isBefore 54 = .ok (.iload 4, 2) := by decide +kernel
theorem d_Writer_isBefore_56 : decode b_Writer_isBefore 56 = .ok (.iconst (-1), 1) := by decide +kernel
theorem d_Writer_isBefore_57 : decode b_Writer_isBefore 57 = .ok (.if_icmp .eq 14, 3) := by decide +kernel
theorem d_Writer_isBefore_60 : decode b_Writer_isBefore 60 = .ok (.iload_n 3, 1) := by decide +kernel
theorem d_Writer_isBefore_61 : decode b_Writer_isBefore 61 = .ok (.iconst (-1), 1) := by decide +kernel
theorem d_Writer_isBefore_62 : decode b_Writer_isBefore 62 = .ok (.if_icmp .eq 7, 3) := by decide +kernel
theorem d_Writer_isBefore_65 : decode b_Writer_isBefore 65 = .ok (.iconst 1, 1) := by decide +kernel
theorem d_Writer_isBefore_66 : decode b_Writer_isBefore 66 = .ok (.goto 4, 3) := by decide +kernel
theorem d_Writer_isBefore_69 : decode b_Writer_isBefore 69 = .ok (.iconst 0, 1) := by decide +kernel
theorem d_Writer_isBefore_70 : decode b_Writer_isBefore 70 = .ok (.ireturn, 1) := by decide +kernel
theorem d_Writer_isBefore_71 : decode b_Writer_isBefore 71 = .ok (.aload_n 0, 1) := by decide +kernel
theorem d_Writer_isBefore_72 : decode b_Writer_isBefore 72 = .ok (.getfield 9, 3) := by decide +kernel
theorem d_Writer_isBefore_75 : decode b_Writer_isBefore 75 = .ok (.aload_n 0, 1) := by decide +kernel
theorem d_Writer_isBefore_76 : decode b_Writer_isBefore 76 = .ok (.getfield 19, 3) := by decide +kernel
theorem d_Writer_isBefore_79 : decode b_Writer_isBefore 79 = .ok (.iload_n 1, 1) := by decide +kernel
theorem d_Writer_isBefore_80 : decode b_Writer_isBefore 80 = .ok (.invokevirtual 188, 3) := by decide +kernel
theorem d_Writer_isBefore_83 : decode b_Writer_isBefore 83 = .ok (.aload_n 0, 1) := by decide +kernel
theorem d_Writer_isBefore_84 : decode b_Writer_isBefore 84 = .ok (.getfield 19, 3) := by decide +kernel
theorem d_Writer_isBefore_87 : decode b_Writer_isBefore 87 = .ok (.iload_n 2, 1) := by decide +kernel
theorem d_Writer_isBefore_88 : decode b_Writer_isBefore 88 = .ok (.invokevirtual 188, 3) := by decide +kernel
theorem d_Writer_isBefore_91 : decode b_Writer_isBefore 91 = .ok (.invokevirtual 185, 3) := by decide +kernel
theorem d_Writer_isBefore_94 : decode b_Writer_isBefore 94 = .ok (.istore 5, 2) := by decide +kernel
theorem d_Writer_isBefore_96 : decode b_Writer_isBefore 96 = .ok (.iload 5, 2) := by decide +kernel
theorem d_Writer_isBefore_98 : decode b_Writer_isBefore 98 = .ok (.ifCond .eq 16, 3) := by decide +kernel
theorem d_Writer_isBefore_101 : decode b_Writer_isBefore 101 = .ok (.iload 5, 2) := by decide +kernel
theorem d_Writer_isBefore_103 : decode b_Writer_isBefore 103 = .ok (.ifCond .ge 7, 3) := by decide +kernel
theorem d_Writer_isBefore_106 : decode b_Writer_isBefore 106 = .ok (.iconst 1, 1) := by decide +kernel
theorem d_Writer_isBefore_107 : decode b_Writer_isBefore 107 = .ok (.goto 38, 3) := by decide +kernel
theorem d_Writer_isBefore_110 : decode b_Writer_isBefore 110 = .ok (.iconst 0, 1) := by decide +kernel
theorem d_Writer_isBefore_111 : decode b_Writer_isBefore 111 = .ok (.goto 34, 3) := by decide +kernel
theorem d_Writer_isBefore_114 : decode b_Writer_isBefore 114 = .ok (.aload_n 0, 1) := by decide +kernel
theorem d_Writer_isBefore_115 : decode b_Writer_isBefore 115 = .ok (.getfield 9, 3) := by decide +kernel
theorem d_Writer_isBefore_118 : decode b_Writer_isBefore 118 = .ok (.aload_n 0, 1) := by decide +kernel
theorem d_Writer_isBefore_119 : decode b_Writer_isBefore 119 = .ok (.getfield 19, 3) := by decide +kernel
theorem d_Writer_isBefore_122 : decode b_Writer_isBefore 122 = .ok (.iload_n 1, 1) := by decide +kernel
theorem d_Writer_isBefore_123 : decode b_Writer_isBefore 123 = .ok (.invokevirtual 191, 3) := by decide +kernel
theorem d_Writer_isBefore_126 : decode b_Writer_isBefore 126 = .ok (.aload_n 0, 1) := by decide +kernel
theorem d_Writer_isBefore_127 : decode b_Writer_isBefore 127 = .ok (.getfield 19, 3) := by decide +kernel
theorem d_Writer_isBefore_130 : decode b_Writer_isBefore 130 = .ok (.iload_n 2, 1) := by decide +kernel
theorem d_Writer_isBefore_131 : decode b_Writer_isBefore 131 = .ok (.invokevirtual 191, 3) := by decide +kernel
theorem d_Writer_isBefore_134 : decode b_Writer_isBefore 134 = .ok (.invokevirtual 185, 3) := by decide +kernel
theorem d_Writer_isBefore_137 : decode b_Writer_isBefore 137 = .ok (.ifCond .ge 7, 3) := by decide +kernel
theorem d_Writer_isBefore_140 : decode b_Writer_isBefore 140 = .ok (.iconst 1, 1) := by decide +kernel
theorem d_Writer_isBefore_141 : decode b_Writer_isBefore 141 = .ok (.goto 4, 3) := by decide +kernel
theorem d_Writer_isBefore_144 : decode b_Writer_isBefore 144 = .ok (.iconst 0, 1) := by decide +kernel
theorem d_Writer_isBefore_145 : decode b_Writer_isBefore 145 = .ok (.ireturn, 1) := by decide +kernel
/-- Writer_isBefore -/
def w_Writer_isBefore (L : Nat → Nat) (a1 : Int) (a2 : Int) (Q : Int → IS → Prop) (σ : IS) : Prop := w_Meanings_declares L a1 (fun v2 σ1 => w_Meanings_declares L a2 (fun v4 σ3 => if ¬ v2 = (-1) ∧ (¬ v4 = (-1)) then w_Store_compare L v2 v4 (fun v6 σ5 => Q (if v6 < 0 then (1 : Int) else (0 : Int)) σ5) σ3 else if v2 = (-1) ∧ (v4 = (-1)) then w_Meanings_meaning L a1 (fun v12 σ11 => w_Meanings_meaning L a2 (fun v14 σ13 => w_Store_compare L v12 v14 (fun v16 σ15 => WJ (fun (s19 : Int) (σ20 : IS) => is01 s19 ∧ Q s19 σ20) (fun J17 => if v16 = 0 then w_Meanings_local L a1 (fun v24 σ23 => w_Meanings_local L a2 (fun v26 σ25 => w_Store_compare L v24 v26 (fun v28 σ27 => J17 (if v28 < 0 then (1 : Int) else (0 : Int)) σ27) σ25) σ23) σ15 else J17 (if v16 < 0 then (1 : Int) else (0 : Int)) σ15)) σ13) σ11) σ3 else Q (if v2 = (-1) then (0 : Int) else (1 : Int)) σ3) σ1) σ
set_option maxHeartbeats 4000000 in
set_option maxRecDepth 20000 in
theorem s_Writer_isBefore {L : Nat → Nat} (hL : ∀ r, L r < 2147483648) {d : Nat} (hd : 2 ≤ d) {a1 : Int} {a2 : Int} {Q : Int → IS → Prop} {σ : IS}  (h : w_Writer_isBefore L a1 a2 Q σ) : OkI BF L d 11 b_Writer_isBefore 6 2 0 [] [some (.inr 11), some (.inl a1), some (.inl a2)] σ (qi Q) := by
  unfold w_Writer_isBefore at h
  obtain ⟨d, rfl⟩ : ∃ e, d = e + 1 := ⟨d - 1, by omega⟩
  refine k_sb (lv' := [some (.inr 11), some (.inl a1), some (.inl a2), none, none, none]) (sb_s (sb_s (sb_s (sb_e (sb_e (sb_e sb_nil)))))) ?_
  refine k_aload_n d_Writer_isBefore_0 rfl ?_
  refine k_getR d_Writer_isBefore_1 fl_11_19 ob_11 rfl ?_
  refine k_iload_n d_Writer_isBefore_4 rfl ?_
  refine k_cvi [.inl a1] d_Writer_isBefore_5 ml_11_100 rfl rfl ob_10 rfl (s_Meanings_declares hL (by omega)  h) (fun v2 σ1 h => ?_)
  refine k_istore_n (lv' := [some (.inr 11), some (.inl a1), some (.inl a2), some (.inl v2), none, none]) d_Writer_isBefore_8 rfl rfl ?_
  refine k_aload_n d_Writer_isBefore_9 rfl ?_
  refine k_getR d_Writer_isBefore_10 fl_11_19 ob_11 rfl ?_
  refine k_iload_n d_Writer_isBefore_13 rfl ?_
  refine k_cvi [.inl a2] d_Writer_isBefore_14 ml_11_100 rfl rfl ob_10 rfl (s_Meanings_declares hL (by omega)  h) (fun v4 σ3 h => ?_)
  refine k_istore (lv' := [some (.inr 11), some (.inl a1), some (.inl a2), some (.inl v2), some (.inl v4), none]) d_Writer_isBefore_17 rfl rfl ?_
  refine k_iload_n d_Writer_isBefore_19 rfl ?_
  refine k_iconst d_Writer_isBefore_20 cI_m1 ?_
  have hX46 : (¬ v2 = (-1) ∧ (¬ v4 = (-1))) → OkI BF L (d + 1) 11 b_Writer_isBefore 6 2 30 [] [some (.inr 11), some (.inl a1), some (.inl a2), some (.inl v2), some (.inl v4), none] σ3 (qi Q) := fun e48 => by
    have h := ipos e48 h
    refine k_aload_n d_Writer_isBefore_30 rfl ?_
    refine k_getR d_Writer_isBefore_31 fl_11_9 ob_11 rfl ?_
    refine k_iload_n d_Writer_isBefore_34 rfl ?_
    refine k_iload d_Writer_isBefore_35 rfl ?_
    refine k_cvi [.inl v2, .inl v4] d_Writer_isBefore_37 ml_11_185 rfl rfl ob_1 rfl (s_Store_compare hL (by omega)  h) (fun v6 σ5 h => ?_)
    have hV7 : OkI BF L (d + 1) 11 b_Writer_isBefore 6 2 48 [.inl (if v6 < 0 then (1 : Int) else (0 : Int))] [some (.inr 11), some (.inl a1), some (.inl a2), some (.inl v2), some (.inl v4), none] σ5 (qi Q) := by
      exact k_iret d_Writer_isBefore_48 (Or.inr ⟨rfl, it01 (Or.inr rfl) (Or.inl rfl)⟩) h
    refine k_ifge d_Writer_isBefore_40 rfl (fun c8 => ?_) (fun c8 => ?_)
    · have hV10 := k_eqI (if_neg c8) hV7
      refine k_iconst d_Writer_isBefore_47 cI_0 ?_
      exact hV10
    · have hV9 := k_eqI (if_pos c8) hV7
      refine k_iconst d_Writer_isBefore_43 cI_1 ?_
      refine k_goto d_Writer_isBefore_44 rfl ?_
      exact hV9
  have hY47 : ¬ (¬ v2 = (-1) ∧ (¬ v4 = (-1))) → OkI BF L (d + 1) 11 b_Writer_isBefore 6 2 49 [] [some (.inr 11), some (.inl a1), some (.inl a2), some (.inl v2), some (.inl v4), none] σ3 (qi Q) := fun e48 => by
    have h := ineg e48 h
    refine k_iload_n d_Writer_isBefore_49 rfl ?_
    refine k_iconst d_Writer_isBefore_50 cI_m1 ?_
    have hX41 : (v2 = (-1) ∧ (v4 = (-1))) → OkI BF L (d + 1) 11 b_Writer_isBefore 6 2 71 [] [some (.inr 11), some (.inl a1), some (.inl a2), some (.inl v2), some (.inl v4), none] σ3 (qi Q) := fun e43 => by
      have h := ipos e43 h
      refine k_aload_n d_Writer_isBefore_71 rfl ?_
      refine k_getR d_Writer_isBefore_72 fl_11_9 ob_11 rfl ?_
      refine k_aload_n d_Writer_isBefore_75 rfl ?_
      refine k_getR d_Writer_isBefore_76 fl_11_19 ob_11 rfl ?_
      refine k_iload_n d_Writer_isBefore_79 rfl ?_
      refine k_cvi [.inl a1] d_Writer_isBefore_80 ml_11_188 rfl rfl ob_10 rfl (s_Meanings_meaning hL (by omega)  h) (fun v12 σ11 h => ?_)
      refine k_aload_n d_Writer_isBefore_83 rfl ?_
      refine k_getR d_Writer_isBefore_84 fl_11_19 ob_11 rfl ?_
      refine k_iload_n d_Writer_isBefore_87 rfl ?_
      refine k_cvi [.inl a2] d_Writer_isBefore_88 ml_11_188 rfl rfl ob_10 rfl (s_Meanings_meaning hL (by omega)  h) (fun v14 σ13 h => ?_)
      refine k_cvi [.inl v12, .inl v14] d_Writer_isBefore_91 ml_11_185 rfl rfl ob_1 rfl (s_Store_compare hL (by omega)  h) (fun v16 σ15 h => ?_)
      refine k_istore (lv' := [some (.inr 11), some (.inl a1), some (.inl a2), some (.inl v2), some (.inl v4), some (.inl v16)]) d_Writer_isBefore_94 rfl rfl ?_
      refine k_iload d_Writer_isBefore_96 rfl ?_
      refine k_join (S := Int) (pc' := 145) (st' := fun s19 => [.inl s19]) (lv' := fun s19 => [none, none, none, none, none, none]) (fun s19 σ20 h => ?_) (fun J17 hJ18 h => ?_) h
      · obtain ⟨p21, h⟩ := h
        exact k_iret d_Writer_isBefore_145 (Or.inr ⟨rfl, p21⟩) h
      · refine k_ifeq d_Writer_isBefore_98 rfl (fun c22 => ?_) (fun c22 => ?_)
        · have h := ipos c22 h
          refine k_aload_n d_Writer_isBefore_114 rfl ?_
          refine k_getR d_Writer_isBefore_115 fl_11_9 ob_11 rfl ?_
          refine k_aload_n d_Writer_isBefore_118 rfl ?_
          refine k_getR d_Writer_isBefore_119 fl_11_19 ob_11 rfl ?_
          refine k_iload_n d_Writer_isBefore_122 rfl ?_
          refine k_cvi [.inl a1] d_Writer_isBefore_123 ml_11_191 rfl rfl ob_10 rfl (s_Meanings_local hL (by omega)  h) (fun v24 σ23 h => ?_)
          refine k_aload_n d_Writer_isBefore_126 rfl ?_
          refine k_getR d_Writer_isBefore_127 fl_11_19 ob_11 rfl ?_
          refine k_iload_n d_Writer_isBefore_130 rfl ?_
          refine k_cvi [.inl a2] d_Writer_isBefore_131 ml_11_191 rfl rfl ob_10 rfl (s_Meanings_local hL (by omega)  h) (fun v26 σ25 h => ?_)
          refine k_cvi [.inl v24, .inl v26] d_Writer_isBefore_134 ml_11_185 rfl rfl ob_1 rfl (s_Store_compare hL (by omega)  h) (fun v28 σ27 h => ?_)
          have hV29 : OkI BF L (d + 1) 11 b_Writer_isBefore 6 2 145 [.inl (if v28 < 0 then (1 : Int) else (0 : Int))] [some (.inr 11), some (.inl a1), some (.inl a2), some (.inl v2), some (.inl v4), some (.inl v16)] σ27 (qi Q) := by
            exact k_sb (sb_n (sb_n (sb_n (sb_n (sb_n (sb_n sb_nil)))))) (hJ18 (if v28 < 0 then (1 : Int) else (0 : Int)) _ h)
          refine k_ifge d_Writer_isBefore_137 rfl (fun c30 => ?_) (fun c30 => ?_)
          · have hV32 := k_eqI (if_neg c30) hV29
            refine k_iconst d_Writer_isBefore_144 cI_0 ?_
            exact hV32
          · have hV31 := k_eqI (if_pos c30) hV29
            refine k_iconst d_Writer_isBefore_140 cI_1 ?_
            refine k_goto d_Writer_isBefore_141 rfl ?_
            exact hV31
        · have h := ineg c22 h
          refine k_iload d_Writer_isBefore_101 rfl ?_
          have hV33 : OkI BF L (d + 1) 11 b_Writer_isBefore 6 2 145 [.inl (if v16 < 0 then (1 : Int) else (0 : Int))] [some (.inr 11), some (.inl a1), some (.inl a2), some (.inl v2), some (.inl v4), some (.inl v16)] σ15 (qi Q) := by
            exact k_sb (sb_n (sb_n (sb_n (sb_n (sb_n (sb_n sb_nil)))))) (hJ18 (if v16 < 0 then (1 : Int) else (0 : Int)) _ h)
          refine k_ifge d_Writer_isBefore_103 rfl (fun c34 => ?_) (fun c34 => ?_)
          · have hV36 := k_eqI (if_neg c34) hV33
            refine k_iconst d_Writer_isBefore_110 cI_0 ?_
            refine k_goto d_Writer_isBefore_111 rfl ?_
            exact hV36
          · have hV35 := k_eqI (if_pos c34) hV33
            refine k_iconst d_Writer_isBefore_106 cI_1 ?_
            refine k_goto d_Writer_isBefore_107 rfl ?_
            exact hV35
    have hY42 : ¬ (v2 = (-1) ∧ (v4 = (-1))) → OkI BF L (d + 1) 11 b_Writer_isBefore 6 2 60 [] [some (.inr 11), some (.inl a1), some (.inl a2), some (.inl v2), some (.inl v4), none] σ3 (qi Q) := fun e43 => by
      have h := ineg e43 h
      refine k_iload_n d_Writer_isBefore_60 rfl ?_
      refine k_iconst d_Writer_isBefore_61 cI_m1 ?_
      have hV37 : OkI BF L (d + 1) 11 b_Writer_isBefore 6 2 70 [.inl (if v2 = (-1) then (0 : Int) else (1 : Int))] [some (.inr 11), some (.inl a1), some (.inl a2), some (.inl v2), some (.inl v4), none] σ3 (qi Q) := by
        exact k_iret d_Writer_isBefore_70 (Or.inr ⟨rfl, it01 (Or.inl rfl) (Or.inr rfl)⟩) h
      refine k_iceq d_Writer_isBefore_62 rfl (fun c38 => ?_) (fun c38 => ?_)
      · have hV39 := k_eqI (if_pos c38) hV37
        refine k_iconst d_Writer_isBefore_69 cI_0 ?_
        exact hV39
      · have hV40 := k_eqI (if_neg c38) hV37
        refine k_iconst d_Writer_isBefore_65 cI_1 ?_
        refine k_goto d_Writer_isBefore_66 rfl ?_
        exact hV40
    refine k_icne d_Writer_isBefore_51 rfl (fun c44 => ?_) (fun c44 => ?_)
    · exact hY42 (fun z => c44 z.1)
    · refine k_iload d_Writer_isBefore_54 rfl ?_
      refine k_iconst d_Writer_isBefore_56 cI_m1 ?_
      refine k_iceq d_Writer_isBefore_57 rfl (fun c45 => ?_) (fun c45 => ?_)
      · exact hX41 (⟨c44, c45⟩)
      · exact hY42 (fun z => (c45) z.2)
  refine k_iceq d_Writer_isBefore_21 rfl (fun c49 => ?_) (fun c49 => ?_)
  · exact hY47 (fun z => z.1 c49)
  · refine k_iload d_Writer_isBefore_24 rfl ?_
    refine k_iconst d_Writer_isBefore_26 cI_m1 ?_
    refine k_iceq d_Writer_isBefore_27 rfl (fun c50 => ?_) (fun c50 => ?_)
    · exact hY47 (fun z => (fun z => z c50) z.2)
    · exact hX46 (⟨c49, c50⟩)
theorem d_Writer_swap_0 : decode b_Writer_swap 0 = .ok (.aload_n 0, 1) := by decide +kernel
theorem d_Writer_swap_1 : decode b_Writer_swap 1 = .ok (.getfield 37, 3) := by decide +kernel
theorem d_Writer_swap_4 : decode b_Writer_swap 4 = .ok (.iload_n 1, 1) := by decide +kernel
theorem d_Writer_swap_5 : decode b_Writer_swap 5 = .ok (.iaload, 1) := by decide +kernel
theorem d_Writer_swap_6 : decode b_Writer_swap 6 = .ok (.istore_n 3, 1) := by decide +kernel
theorem d_Writer_swap_7 : decode b_Writer_swap 7 = .ok (.aload_n 0, 1) := by decide +kernel
theorem d_Writer_swap_8 : decode b_Writer_swap 8 = .ok (.getfield 37, 3) := by decide +kernel
theorem d_Writer_swap_11 : decode b_Writer_swap 11 = .ok (.iload_n 1, 1) := by decide +kernel
theorem d_Writer_swap_12 : decode b_Writer_swap 12 = .ok (.aload_n 0, 1) := by decide +kernel
theorem d_Writer_swap_13 : decode b_Writer_swap 13 = .ok (.getfield 37, 3) := by decide +kernel
theorem d_Writer_swap_16 : decode b_Writer_swap 16 = .ok (.iload_n 2, 1) := by decide +kernel
theorem d_Writer_swap_17 : decode b_Writer_swap 17 = .ok (.iaload, 1) := by decide +kernel
theorem d_Writer_swap_18 : decode b_Writer_swap 18 = .ok (.iastore, 1) := by decide +kernel
theorem d_Writer_swap_19 : decode b_Writer_swap 19 = .ok (.aload_n 0, 1) := by decide +kernel
theorem d_Writer_swap_20 : decode b_Writer_swap 20 = .ok (.getfield 37, 3) := by decide +kernel
theorem d_Writer_swap_23 : decode b_Writer_swap 23 = .ok (.iload_n 2, 1) := by decide +kernel
theorem d_Writer_swap_24 : decode b_Writer_swap 24 = .ok (.iload_n 3, 1) := by decide +kernel
theorem d_Writer_swap_25 : decode b_Writer_swap 25 = .ok (.iastore, 1) := by decide +kernel
theorem d_Writer_swap_26 : decode b_Writer_swap 26 = .ok (.return_, 1) := by decide +kernel
/-- Writer_swap -/
def w_Writer_swap (L : Nat → Nat) (a1 : Int) (a2 : Int) (Q : IS → Prop) (σ : IS) : Prop := inL L 164 a1 ∧ inL L 164 a2 ∧ inL L 164 a1 ∧ inL L 164 a2 ∧ Q (pr (pr σ 164 (Int.toNat a1) (σ.2 164 (Int.toNat a2))) 164 (Int.toNat a2) (σ.2 164 (Int.toNat a1)))
set_option maxHeartbeats 4000000 in
set_option maxRecDepth 20000 in
theorem s_Writer_swap {L : Nat → Nat} (hL : ∀ r, L r < 2147483648) {d : Nat} (hd : 0 ≤ d) {a1 : Int} {a2 : Int} {Q : IS → Prop} {σ : IS}  (h : w_Writer_swap L a1 a2 Q σ) : OkI BF L d 11 b_Writer_swap 4 0 0 [] [some (.inr 11), some (.inl a1), some (.inl a2)] σ (qv Q) := by
  unfold w_Writer_swap at h
  refine k_sb (lv' := [some (.inr 11), some (.inl a1), some (.inl a2), none]) (sb_s (sb_s (sb_s (sb_e sb_nil)))) ?_
  refine k_aload_n d_Writer_swap_0 rfl ?_
  refine k_getR d_Writer_swap_1 fl_11_37 ob_11 rfl ?_
  refine k_iload_n d_Writer_swap_4 rfl ?_
  obtain ⟨p4, h⟩ := h
  refine k_ild (x := (σ.2 164 (Int.toNat a1))) d_Writer_swap_5 rI_164 p4 rfl ?_
  refine k_istore_n (lv' := [some (.inr 11), some (.inl a1), some (.inl a2), some (.inl (σ.2 164 (Int.toNat a1)))]) d_Writer_swap_6 rfl rfl ?_
  refine k_aload_n d_Writer_swap_7 rfl ?_
  refine k_getR d_Writer_swap_8 fl_11_37 ob_11 rfl ?_
  refine k_iload_n d_Writer_swap_11 rfl ?_
  refine k_aload_n d_Writer_swap_12 rfl ?_
  refine k_getR d_Writer_swap_13 fl_11_37 ob_11 rfl ?_
  refine k_iload_n d_Writer_swap_16 rfl ?_
  obtain ⟨p3, h⟩ := h
  refine k_ild (x := (σ.2 164 (Int.toNat a2))) d_Writer_swap_17 rI_164 p3 rfl ?_
  obtain ⟨p2, h⟩ := h
  refine k_ist d_Writer_swap_18 rI_164 p2 ?_
  refine k_aload_n d_Writer_swap_19 rfl ?_
  refine k_getR d_Writer_swap_20 fl_11_37 ob_11 rfl ?_
  refine k_iload_n d_Writer_swap_23 rfl ?_
  refine k_iload_n d_Writer_swap_24 rfl ?_
  obtain ⟨p1, h⟩ := h
  refine k_ist d_Writer_swap_25 rI_164 p1 ?_
  exact k_ret d_Writer_swap_26 h
theorem d_Writer_sink_0 : decode b_Writer_sink 0 = .ok (.iload_n 1, 1) := by decide +kernel
theorem d_Writer_sink_1 : decode b_Writer_sink 1 = .ok (.istore_n 3, 1) := by decide +kernel
theorem d_Writer_sink_2 : decode b_Writer_sink 2 = .ok (.iconst 0, 1) := by decide +kernel
theorem d_Writer_sink_3 : decode b_Writer_sink 3 = .ok (.istore 4, 2) := by decide +kernel
theorem d_Writer_sink_5 : decode b_Writer_sink 5 = .ok (.iload 4, 2) := by decide +kernel
theorem d_Writer_sink_7 : decode b_Writer_sink 7 = .ok (.iload_n 2, 1) := by decide +kernel
theorem d_Writer_sink_8 : decode b_Writer_sink 8 = .ok (.if_icmp .ge 90, 3) := by decide +kernel
theorem d_Writer_sink_11 : decode b_Writer_sink 11 = .ok (.iconst 2, 1) := by decide +kernel
theorem d_Writer_sink_12 : decode b_Writer_sink 12 = .ok (.iload_n 3, 1) := by decide +kernel
theorem d_Writer_sink_13 : decode b_Writer_sink 13 = .ok (.imul, 1) := by decide +kernel
theorem d_Writer_sink_14 : decode b_Writer_sink 14 = .ok (.iconst 1, 1) := by decide +kernel
theorem d_Writer_sink_15 : decode b_Writer_sink 15 = .ok (.iadd, 1) := by decide +kernel
theorem d_Writer_sink_16 : decode b_Writer_sink 16 = .ok (.iload_n 2, 1) := by decide +kernel
theorem d_Writer_sink_17 : decode b_Writer_sink 17 = .ok (.if_icmp .ge 81, 3) := by decide +kernel
theorem d_Writer_sink_20 : decode b_Writer_sink 20 = .ok (.iconst 2, 1) := by decide +kernel
theorem d_Writer_sink_21 : decode b_Writer_sink 21 = .ok (.iload_n 3, 1) := by decide +kernel
theorem d_Writer_sink_22 : decode b_Writer_sink 22 = .ok (.imul, 1) := by decide +kernel
theorem d_Writer_sink_23 : decode b_Writer_sink 23 = .ok (.iconst 1, 1) := by decide +kernel
theorem d_Writer_sink_24 : decode b_Writer_sink 24 = .ok (.iadd, 1) := by decide +kernel
theorem d_Writer_sink_25 : decode b_Writer_sink 25 = .ok (.istore 5, 2) := by decide +kernel
theorem d_Writer_sink_27 : decode b_Writer_sink 27 = .ok (.iload 5, 2) := by decide +kernel
theorem d_Writer_sink_29 : decode b_Writer_sink 29 = .ok (.iconst 1, 1) := by decide +kernel
theorem d_Writer_sink_30 : decode b_Writer_sink 30 = .ok (.iadd, 1) := by decide +kernel
theorem d_Writer_sink_31 : decode b_Writer_sink 31 = .ok (.iload_n 2, 1) := by decide +kernel
theorem d_Writer_sink_32 : decode b_Writer_sink 32 = .ok (.if_icmp .ge 29, 3) := by decide +kernel
theorem d_Writer_sink_35 : decode b_Writer_sink 35 = .ok (.aload_n 0, 1) := by decide +kernel
theorem d_Writer_sink_36 : decode b_Writer_sink 36 = .ok (.aload_n 0, 1) := by decide +kernel
theorem d_Writer_sink_37 : decode b_Writer_sink 37 = .ok (.getfield 37, 3) := by decide +kernel
theorem d_Writer_sink_40 : decode b_Writer_sink 40 = .ok (.iload 5, 2) := by decide +kernel
theorem d_Writer_sink_42 : decode b_Writer_sink 42 = .ok (.iaload, 1) := by decide +kernel
theorem d_Writer_sink_43 : decode b_Writer_sink 43 = .ok (.aload_n 0, 1) := by decide +kernel
theorem d_Writer_sink_44 : decode b_Writer_sink 44 = .ok (.getfield 37, 3) := by decide +kernel
theorem d_Writer_sink_47 : decode b_Writer_sink 47 = .ok (.iload 5, 2) := by decide +kernel
theorem d_Writer_sink_49 : decode b_Writer_sink 49 = .ok (.iconst 1, 1) := by decide +kernel
theorem d_Writer_sink_50 : decode b_Writer_sink 50 = .ok (.iadd, 1) := by decide +kernel
theorem d_Writer_sink_51 : decode b_Writer_sink 51 = .ok (.iaload, 1) := by decide +kernel
theorem d_Writer_sink_52 : decode b_Writer_sink 52 = .ok (.invokevirtual 181, 3) := by decide +kernel
theorem d_Writer_sink_55 : decode b_Writer_sink 55 = .ok (.ifCond .eq 6, 3) := by decide +kernel
theorem d_Writer_sink_58 : decode b_Writer_sink 58 = .ok (.iinc 5 1, 3) := by decide +kernel
theorem d_Writer_sink_61 : decode b_Writer_sink 61 = .ok (.aload_n 0, 1) := by decide +kernel
theorem d_Writer_sink_62 : decode b_Writer_sink 62 = .ok (.aload_n 0, 1) := by decide +kernel
theorem d_Writer_sink_63 : decode b_Writer_sink 63 = .ok (.getfield 37, 3) := by decide +kernel
theorem d_Writer_sink_66 : decode b_Writer_sink 66 = .ok (.iload_n 3, 1) := by decide +kernel
theorem d_Writer_sink_67 : decode b_Writer_sink 67 = .ok (.iaload, 1) := by decide +kernel
theorem d_Writer_sink_68 : decode b_Writer_sink 68 = .ok (.aload_n 0, 1) := by decide +kernel
theorem d_Writer_sink_69 : decode b_Writer_sink 69 = .ok (.getfield 37, 3) := by decide +kernel
theorem d_Writer_sink_72 : decode b_Writer_sink 72 = .ok (.iload 5, 2) := by decide +kernel
theorem d_Writer_sink_74 : decode b_Writer_sink 74 = .ok (.iaload, 1) := by decide +kernel
theorem d_Writer_sink_75 : decode b_Writer_sink 75 = .ok (.invokevirtual 181, 3) := by decide +kernel
theorem d_Writer_sink_78 : decode b_Writer_sink 78 = .ok (.ifCond .ne 4, 3) := by decide +kernel
theorem d_Writer_sink_81 : decode b_Writer_sink 81 = .ok (.return_, 1) := by decide +kernel
theorem d_Writer_sink_82 : decode b_Writer_sink 82 = .ok (.aload_n 0, 1) := by decide +kernel
theorem d_Writer_sink_83 : decode b_Writer_sink 83 = .ok (.iload_n 3, 1) := by decide +kernel
theorem d_Writer_sink_84 : decode b_Writer_sink 84 = .ok (.iload 5, 2) := by decide +kernel
theorem d_Writer_sink_86 : decode b_Writer_sink 86 = .ok (.invokevirtual 178, 3) := by decide +kernel
theorem d_Writer_sink_89 : decode b_Writer_sink 89 = .ok (.iload 5, 2) := by decide +kernel
theorem d_Writer_sink_91 : decode b_Writer_sink 91 = .ok (.istore_n 3, 1) := by decide +kernel
theorem d_Writer_sink_92 : decode b_Writer_sink 92 = .ok (.iinc 4 1, 3) := by decide +kernel
theorem d_Writer_sink_95 : decode b_Writer_sink 95 = .ok (.goto (-90), 3) := by decide +kernel
theorem d_Writer_sink_98 : decode b_Writer_sink 98 = .ok (.return_, 1) := by decide +kernel
/-- Writer_sink -/
def w_Writer_sink (L : Nat → Nat) (a1 : Int) (a2 : Int) (Q : IS → Prop) (σ : IS) : Prop := WL (fun (K1 : Int × Int → IS → Prop) (s3 : Int × Int) (σ4 : IS) => ((s3.2 < a2 → (inR (2 * s3.1) ∧ inR ((2 * s3.1) + 1)))) ∧ if s3.2 < a2 ∧ (((2 * s3.1) + 1) < a2) then inR (2 * s3.1) ∧ inR ((2 * s3.1) + 1) ∧ inR (((2 * s3.1) + 1) + 1) ∧ WJ (fun (s9 : Int) (σ10 : IS) => inL L 164 s3.1 ∧ inL L 164 s9 ∧ w_Writer_isBefore L (σ10.2 164 (Int.toNat s3.1)) (σ10.2 164 (Int.toNat s9)) (fun v12 σ11 => if v12 = 0 then Q σ11 else w_Writer_swap L s3.1 s9 (fun σ14 => inR (s3.2 + 1) ∧ K1 (s9, (s3.2 + 1)) σ14) σ11) σ10) (fun J7 => if (((2 * s3.1) + 1) + 1) < a2 then inL L 164 ((2 * s3.1) + 1) ∧ inR (((2 * s3.1) + 1) + 1) ∧ inL L 164 (((2 * s3.1) + 1) + 1) ∧ w_Writer_isBefore L (σ4.2 164 (Int.toNat ((2 * s3.1) + 1))) (σ4.2 164 (Int.toNat (((2 * s3.1) + 1) + 1))) (fun v21 σ20 => if v21 = 0 then J7 ((2 * s3.1) + 1) σ20 else inR (((2 * s3.1) + 1) + 1) ∧ J7 (((2 * s3.1) + 1) + 1) σ20) σ4 else J7 ((2 * s3.1) + 1) σ4) else Q σ4) (a1, 0) σ
set_option maxHeartbeats 4000000 in
set_option maxRecDepth 20000 in
theorem s_Writer_sink {L : Nat → Nat} (hL : ∀ r, L r < 2147483648) {d : Nat} (hd : 3 ≤ d) {a1 : Int} {a2 : Int} {Q : IS → Prop} {σ : IS}  (h : w_Writer_sink L a1 a2 Q σ) : OkI BF L d 11 b_Writer_sink 6 0 0 [] [some (.inr 11), some (.inl a1), some (.inl a2)] σ (qv Q) := by
  unfold w_Writer_sink at h
  obtain ⟨d, rfl⟩ : ∃ e, d = e + 1 := ⟨d - 1, by omega⟩
  refine k_sb (lv' := [some (.inr 11), some (.inl a1), some (.inl a2), none, none, none]) (sb_s (sb_s (sb_s (sb_e (sb_e (sb_e sb_nil)))))) ?_
  refine k_iload_n d_Writer_sink_0 rfl ?_
  refine k_istore_n (lv' := [some (.inr 11), some (.inl a1), some (.inl a2), some (.inl a1), none, none]) d_Writer_sink_1 rfl rfl ?_
  refine k_iconst d_Writer_sink_2 cI_0 ?_
  refine k_istore (lv' := [some (.inr 11), some (.inl a1), some (.inl a2), some (.inl a1), some (.inl 0), none]) d_Writer_sink_3 rfl rfl ?_
  refine k_sb (lv' := [some (.inr 11), none, some (.inl a2), some (.inl a1), some (.inl 0), none]) (sb_s (sb_n (sb_s (sb_s (sb_s (sb_s sb_nil)))))) ?_
  refine k_loop (S := Int × Int) (st := fun _ => []) (lv := fun s3 => [some (.inr 11), none, some (.inl a2), some (.inl s3.1), some (.inl s3.2), none]) (fun K1 hK2 s3 σ4 h => ?_) (a1, 0) _ h
  refine k_iload d_Writer_sink_5 rfl ?_
  refine k_iload_n d_Writer_sink_7 rfl ?_
  obtain ⟨pt33, h⟩ := h
  have hX30 : (s3.2 < a2 ∧ (((2 * s3.1) + 1) < a2)) → OkI BF L (d + 1) 11 b_Writer_sink 6 0 20 [] [some (.inr 11), none, some (.inl a2), some (.inl s3.1), some (.inl s3.2), none] σ4 (qv Q) := fun e32 => by
    have h := ipos e32 h
    refine k_iconst d_Writer_sink_20 cI_2 ?_
    refine k_iload_n d_Writer_sink_21 rfl ?_
    obtain ⟨p29, h⟩ := h
    refine k_imul d_Writer_sink_22 p29 ?_
    refine k_iconst d_Writer_sink_23 cI_1 ?_
    obtain ⟨p28, h⟩ := h
    refine k_iadd d_Writer_sink_24 p28 ?_
    refine k_istore (lv' := [some (.inr 11), none, some (.inl a2), some (.inl s3.1), some (.inl s3.2), some (.inl ((2 * s3.1) + 1))]) d_Writer_sink_25 rfl rfl ?_
    refine k_iload d_Writer_sink_27 rfl ?_
    refine k_iconst d_Writer_sink_29 cI_1 ?_
    obtain ⟨p27, h⟩ := h
    refine k_iadd d_Writer_sink_30 p27 ?_
    refine k_iload_n d_Writer_sink_31 rfl ?_
    refine k_join (S := Int) (pc' := 61) (st' := fun s9 => []) (lv' := fun s9 => [some (.inr 11), none, some (.inl a2), some (.inl s3.1), some (.inl s3.2), some (.inl s9)]) (fun s9 σ10 h => ?_) (fun J7 hJ8 h => ?_) h
    · refine k_aload_n d_Writer_sink_61 rfl ?_
      refine k_aload_n d_Writer_sink_62 rfl ?_
      refine k_getR d_Writer_sink_63 fl_11_37 ob_11 rfl ?_
      refine k_iload_n d_Writer_sink_66 rfl ?_
      obtain ⟨p18, h⟩ := h
      refine k_ild (x := (σ10.2 164 (Int.toNat s3.1))) d_Writer_sink_67 rI_164 p18 rfl ?_
      refine k_aload_n d_Writer_sink_68 rfl ?_
      refine k_getR d_Writer_sink_69 fl_11_37 ob_11 rfl ?_
      refine k_iload d_Writer_sink_72 rfl ?_
      obtain ⟨p17, h⟩ := h
      refine k_ild (x := (σ10.2 164 (Int.toNat s9))) d_Writer_sink_74 rI_164 p17 rfl ?_
      refine k_cvi [.inl (σ10.2 164 (Int.toNat s3.1)), .inl (σ10.2 164 (Int.toNat s9))] d_Writer_sink_75 ml_11_181 rfl rfl ob_11 rfl (s_Writer_isBefore hL (by omega)  h) (fun v12 σ11 h => ?_)
      refine k_ifne d_Writer_sink_78 rfl (fun c13 => ?_) (fun c13 => ?_)
      · have h := ineg c13 h
        refine k_aload_n d_Writer_sink_82 rfl ?_
        refine k_iload_n d_Writer_sink_83 rfl ?_
        refine k_iload d_Writer_sink_84 rfl ?_
        refine k_cvv [.inl s3.1, .inl s9] d_Writer_sink_86 ml_11_178 rfl rfl ob_11 rfl (s_Writer_swap hL (by omega)  h) (fun σ14 h => ?_)
        refine k_iload d_Writer_sink_89 rfl ?_
        refine k_istore_n (lv' := [some (.inr 11), none, some (.inl a2), some (.inl s9), some (.inl s3.2), some (.inl s9)]) d_Writer_sink_91 rfl rfl ?_
        obtain ⟨p16, h⟩ := h
        refine k_iinc (lv' := [some (.inr 11), none, some (.inl a2), some (.inl s9), some (.inl (s3.2 + 1)), some (.inl s9)]) d_Writer_sink_92 cI_1 rfl rfl p16 rfl ?_
        refine k_goto d_Writer_sink_95 rfl ?_
        exact k_sb (sb_s (sb_s (sb_s (sb_s (sb_s (sb_n sb_nil)))))) (hK2 (s9, (s3.2 + 1)) _ h)
      · have h := ipos c13 h
        exact k_ret d_Writer_sink_81 h
    · refine k_icge d_Writer_sink_32 rfl (fun c19 => ?_) (fun c19 => ?_)
      · have h := ineg c19 h
        exact k_sb (sb_s (sb_s (sb_s (sb_s (sb_s (sb_s sb_nil)))))) (hJ8 ((2 * s3.1) + 1) _ h)
      · have h := ipos c19 h
        refine k_aload_n d_Writer_sink_35 rfl ?_
        refine k_aload_n d_Writer_sink_36 rfl ?_
        refine k_getR d_Writer_sink_37 fl_11_37 ob_11 rfl ?_
        refine k_iload d_Writer_sink_40 rfl ?_
        obtain ⟨p26, h⟩ := h
        refine k_ild (x := (σ4.2 164 (Int.toNat ((2 * s3.1) + 1)))) d_Writer_sink_42 rI_164 p26 rfl ?_
        refine k_aload_n d_Writer_sink_43 rfl ?_
        refine k_getR d_Writer_sink_44 fl_11_37 ob_11 rfl ?_
        refine k_iload d_Writer_sink_47 rfl ?_
        refine k_iconst d_Writer_sink_49 cI_1 ?_
        obtain ⟨p25, h⟩ := h
        refine k_iadd d_Writer_sink_50 p25 ?_
        obtain ⟨p24, h⟩ := h
        refine k_ild (x := (σ4.2 164 (Int.toNat (((2 * s3.1) + 1) + 1)))) d_Writer_sink_51 rI_164 p24 rfl ?_
        refine k_cvi [.inl (σ4.2 164 (Int.toNat ((2 * s3.1) + 1))), .inl (σ4.2 164 (Int.toNat (((2 * s3.1) + 1) + 1)))] d_Writer_sink_52 ml_11_181 rfl rfl ob_11 rfl (s_Writer_isBefore hL (by omega)  h) (fun v21 σ20 h => ?_)
        refine k_ifeq d_Writer_sink_55 rfl (fun c22 => ?_) (fun c22 => ?_)
        · have h := ipos c22 h
          exact k_sb (sb_s (sb_s (sb_s (sb_s (sb_s (sb_s sb_nil)))))) (hJ8 ((2 * s3.1) + 1) _ h)
        · have h := ineg c22 h
          obtain ⟨p23, h⟩ := h
          refine k_iinc (lv' := [some (.inr 11), none, some (.inl a2), some (.inl s3.1), some (.inl s3.2), some (.inl (((2 * s3.1) + 1) + 1))]) d_Writer_sink_58 cI_1 rfl rfl p23 rfl ?_
          exact k_sb (sb_s (sb_s (sb_s (sb_s (sb_s (sb_s sb_nil)))))) (hJ8 (((2 * s3.1) + 1) + 1) _ h)
  have hY31 : ¬ (s3.2 < a2 ∧ (((2 * s3.1) + 1) < a2)) → OkI BF L (d + 1) 11 b_Writer_sink 6 0 98 [] [some (.inr 11), none, some (.inl a2), some (.inl s3.1), some (.inl s3.2), none] σ4 (qv Q) := fun e32 => by
    have h := ineg e32 h
    exact k_ret d_Writer_sink_98 h
  have pa34 := pt33
  refine k_icge d_Writer_sink_8 rfl (fun c35 => ?_) (fun c35 => ?_)
  · exact hY31 (fun z => c35 z.1)
  · have pa34 := pa34 c35
    obtain ⟨p5, p6⟩ := pa34
    refine k_iconst d_Writer_sink_11 cI_2 ?_
    refine k_iload_n d_Writer_sink_12 rfl ?_
    refine k_imul d_Writer_sink_13 p5 ?_
    refine k_iconst d_Writer_sink_14 cI_1 ?_
    refine k_iadd d_Writer_sink_15 p6 ?_
    refine k_iload_n d_Writer_sink_16 rfl ?_
    refine k_icge d_Writer_sink_17 rfl (fun c36 => ?_) (fun c36 => ?_)
    · exact hY31 (fun z => (c36) z.2)
    · exact hX30 (⟨c35, c36⟩)
theorem d_Writer_sort_0 : decode b_Writer_sort 0 = .ok (.iload_n 1, 1) := by decide +kernel
theorem d_Writer_sort_1 : decode b_Writer_sort 1 = .ok (.iconst 2, 1) := by decide +kernel
theorem d_Writer_sort_2 : decode b_Writer_sort 2 = .ok (.idiv, 1) := by decide +kernel
theorem d_Writer_sort_3 : decode b_Writer_sort 3 = .ok (.iconst 1, 1) := by decide +kernel
theorem d_Writer_sort_4 : decode b_Writer_sort 4 = .ok (.isub, 1) := by decide +kernel
theorem d_Writer_sort_5 : decode b_Writer_sort 5 = .ok (.istore_n 2, 1) := by decide +kernel
theorem d_Writer_sort_6 : decode b_Writer_sort 6 = .ok (.iload_n 2, 1) := by decide +kernel
theorem d_Writer_sort_7 : decode b_Writer_sort 7 = .ok (.ifCond .lt 15, 3) := by decide +kernel
theorem d_Writer_sort_10 : decode b_Writer_sort 10 = .ok (.aload_n 0, 1) := by decide +kernel
theorem d_Writer_sort_11 : decode b_Writer_sort 11 = .ok (.iload_n 2, 1) := by decide +kernel
theorem d_Writer_sort_12 : decode b_Writer_sort 12 = .ok (.iload_n 1, 1) := by decide +kernel
theorem d_Writer_sort_13 : decode b_Writer_sort 13 = .ok (.invokevirtual 174, 3) := by decide +kernel
theorem d_Writer_sort_16 : decode b_Writer_sort 16 = .ok (.iinc 2 (-1), 3) := by decide +kernel
theorem d_Writer_sort_19 : decode b_Writer_sort 19 = .ok (.goto (-13), 3) := by decide +kernel
theorem d_Writer_sort_22 : decode b_Writer_sort 22 = .ok (.iload_n 1, 1) := by decide +kernel
theorem d_Writer_sort_23 : decode b_Writer_sort 23 = .ok (.iconst 1, 1) := by decide +kernel
theorem d_Writer_sort_24 : decode b_Writer_sort 24 = .ok (.isub, 1) := by decide +kernel
theorem d_Writer_sort_25 : decode b_Writer_sort 25 = .ok (.istore_n 2, 1) := by decide +kernel
theorem d_Writer_sort_26 : decode b_Writer_sort 26 = .ok (.iload_n 2, 1) := by decide +kernel
theorem d_Writer_sort_27 : decode b_Writer_sort 27 = .ok (.ifCond .le 21, 3) := by decide +kernel
theorem d_Writer_sort_30 : decode b_Writer_sort 30 = .ok (.aload_n 0, 1) := by decide +kernel
theorem d_Writer_sort_31 : decode b_Writer_sort 31 = .ok (.iconst 0, 1) := by decide +kernel
theorem d_Writer_sort_32 : decode b_Writer_sort 32 = .ok (.iload_n 2, 1) := by decide +kernel
theorem d_Writer_sort_33 : decode b_Writer_sort 33 = .ok (.invokevirtual 178, 3) := by decide +kernel
theorem d_Writer_sort_36 : decode b_Writer_sort 36 = .ok (.aload_n 0, 1) := by decide +kernel
theorem d_Writer_sort_37 : decode b_Writer_sort 37 = .ok (.iconst 0, 1) := by decide +kernel
theorem d_Writer_sort_38 : decode b_Writer_sort 38 = .ok (.iload_n 2, 1) := by decide +kernel
theorem d_Writer_sort_39 : decode b_Writer_sort 39 = .ok (.invokevirtual 174, 3) := by decide +kernel
theorem d_Writer_sort_42 : decode b_Writer_sort 42 = .ok (.iinc 2 (-1), 3) := by decide +kernel
theorem d_Writer_sort_45 : decode b_Writer_sort 45 = .ok (.goto (-19), 3) := by decide +kernel
theorem d_Writer_sort_48 : decode b_Writer_sort 48 = .ok (.return_, 1) := by decide +kernel
/-- Writer_sort -/
def w_Writer_sort (L : Nat → Nat) (a1 : Int) (Q : IS → Prop) (σ : IS) : Prop := inR ((Int.tdiv a1 2) - 1) ∧ WL (fun (K1 : Int → IS → Prop) (s3 : Int) (σ4 : IS) => if s3 < 0 then inR (a1 - 1) ∧ WL (fun (K6 : Int → IS → Prop) (s8 : Int) (σ9 : IS) => if 0 < s8 then w_Writer_swap L 0 s8 (fun σ11 => w_Writer_sink L 0 s8 (fun σ13 => inR (s8 + (-1)) ∧ K6 (s8 + (-1)) σ13) σ11) σ9 else Q σ9) (a1 - 1) σ4 else w_Writer_sink L s3 a1 (fun σ17 => inR (s3 + (-1)) ∧ K1 (s3 + (-1)) σ17) σ4) ((Int.tdiv a1 2) - 1) σ
set_option maxHeartbeats 4000000 in
set_option maxRecDepth 20000 in
theorem s_Writer_sort {L : Nat → Nat} (hL : ∀ r, L r < 2147483648) {d : Nat} (hd : 4 ≤ d) {a1 : Int} {Q : IS → Prop} {σ : IS}  (h : w_Writer_sort L a1 Q σ) : OkI BF L d 11 b_Writer_sort 3 0 0 [] [some (.inr 11), some (.inl a1)] σ (qv Q) := by
  unfold w_Writer_sort at h
  obtain ⟨d, rfl⟩ : ∃ e, d = e + 1 := ⟨d - 1, by omega⟩
  refine k_sb (lv' := [some (.inr 11), some (.inl a1), none]) (sb_s (sb_s (sb_e sb_nil))) ?_
  refine k_iload_n d_Writer_sort_0 rfl ?_
  refine k_iconst d_Writer_sort_1 cI_2 ?_
  refine k_idiv d_Writer_sort_2 (by decide) ?_
  refine k_iconst d_Writer_sort_3 cI_1 ?_
  obtain ⟨p20, h⟩ := h
  refine k_isub d_Writer_sort_4 p20 ?_
  refine k_istore_n (lv' := [some (.inr 11), some (.inl a1), some (.inl ((Int.tdiv a1 2) - 1))]) d_Writer_sort_5 rfl rfl ?_
  refine k_sb (lv' := [some (.inr 11), some (.inl a1), some (.inl ((Int.tdiv a1 2) - 1))]) (sb_s (sb_s (sb_s sb_nil))) ?_
  refine k_loop (S := Int) (st := fun _ => []) (lv := fun s3 => [some (.inr 11), some (.inl a1), some (.inl s3)]) (fun K1 hK2 s3 σ4 h => ?_) ((Int.tdiv a1 2) - 1) _ h
  refine k_iload_n d_Writer_sort_6 rfl ?_
  refine k_iflt d_Writer_sort_7 rfl (fun c5 => ?_) (fun c5 => ?_)
  · have h := ipos c5 h
    refine k_iload_n d_Writer_sort_22 rfl ?_
    refine k_iconst d_Writer_sort_23 cI_1 ?_
    obtain ⟨p16, h⟩ := h
    refine k_isub d_Writer_sort_24 p16 ?_
    refine k_istore_n (lv' := [some (.inr 11), some (.inl a1), some (.inl (a1 - 1))]) d_Writer_sort_25 rfl rfl ?_
    refine k_sb (lv' := [some (.inr 11), none, some (.inl (a1 - 1))]) (sb_s (sb_n (sb_s sb_nil))) ?_
    refine k_loop (S := Int) (st := fun _ => []) (lv := fun s8 => [some (.inr 11), none, some (.inl s8)]) (fun K6 hK7 s8 σ9 h => ?_) (a1 - 1) _ h
    refine k_iload_n d_Writer_sort_26 rfl ?_
    refine k_ifle d_Writer_sort_27 rfl (fun c10 => ?_) (fun c10 => ?_)
    · have h := ineg c10 h
      exact k_ret d_Writer_sort_48 h
    · have h := ipos c10 h
      refine k_aload_n d_Writer_sort_30 rfl ?_
      refine k_iconst d_Writer_sort_31 cI_0 ?_
      refine k_iload_n d_Writer_sort_32 rfl ?_
      refine k_cvv [.inl 0, .inl s8] d_Writer_sort_33 ml_11_178 rfl rfl ob_11 rfl (s_Writer_swap hL (by omega)  h) (fun σ11 h => ?_)
      refine k_aload_n d_Writer_sort_36 rfl ?_
      refine k_iconst d_Writer_sort_37 cI_0 ?_
      refine k_iload_n d_Writer_sort_38 rfl ?_
      refine k_cvv [.inl 0, .inl s8] d_Writer_sort_39 ml_11_174 rfl rfl ob_11 rfl (s_Writer_sink hL (by omega)  h) (fun σ13 h => ?_)
      obtain ⟨p15, h⟩ := h
      refine k_iinc (lv' := [some (.inr 11), none, some (.inl (s8 + (-1)))]) d_Writer_sort_42 cI_m1 rfl rfl p15 rfl ?_
      refine k_goto d_Writer_sort_45 rfl ?_
      exact k_sb (sb_s (sb_s (sb_s sb_nil))) (hK7 (s8 + (-1)) _ h)
  · have h := ineg c5 h
    refine k_aload_n d_Writer_sort_10 rfl ?_
    refine k_iload_n d_Writer_sort_11 rfl ?_
    refine k_iload_n d_Writer_sort_12 rfl ?_
    refine k_cvv [.inl s3, .inl a1] d_Writer_sort_13 ml_11_174 rfl rfl ob_11 rfl (s_Writer_sink hL (by omega)  h) (fun σ17 h => ?_)
    obtain ⟨p19, h⟩ := h
    refine k_iinc (lv' := [some (.inr 11), some (.inl a1), some (.inl (s3 + (-1)))]) d_Writer_sort_16 cI_m1 rfl rfl p19 rfl ?_
    refine k_goto d_Writer_sort_19 rfl ?_
    exact k_sb (sb_s (sb_s (sb_s sb_nil))) (hK2 (s3 + (-1)) _ h)
theorem d_Writer_putValue_0 : decode b_Writer_putValue 0 = .ok (.iconst 0, 1) := by decide +kernel
theorem d_Writer_putValue_1 : decode b_Writer_putValue 1 = .ok (.istore_n 2, 1) := by decide +kernel
theorem d_Writer_putValue_2 : decode b_Writer_putValue 2 = .ok (.iload_n 2, 1) := by decide +kernel
theorem d_Writer_putValue_3 : decode b_Writer_putValue 3 = .ok (.aload_n 0, 1) := by decide +kernel
theorem d_Writer_putValue_4 : decode b_Writer_putValue 4 = .ok (.getfield 9, 3) := by decide +kernel
theorem d_Writer_putValue_7 : decode b_Writer_putValue 7 = .ok (.getfield 145, 3) := by decide +kernel
theorem d_Writer_putValue_10 : decode b_Writer_putValue 10 = .ok (.iload_n 1, 1) := by decide +kernel
theorem d_Writer_putValue_11 : decode b_Writer_putValue 11 = .ok (.iaload, 1) := by decide +kernel
theorem d_Writer_putValue_12 : decode b_Writer_putValue 12 = .ok (.if_icmp .ge 30, 3) := by decide +kernel
theorem d_Writer_putValue_15 : decode b_Writer_putValue 15 = .ok (.aload_n 0, 1) := by decide +kernel
theorem d_Writer_putValue_16 : decode b_Writer_putValue 16 = .ok (.getfield 44, 3) := by decide +kernel
theorem d_Writer_putValue_19 : decode b_Writer_putValue 19 = .ok (.ifCond .ne 23, 3) := by decide +kernel
theorem d_Writer_putValue_22 : decode b_Writer_putValue 22 = .ok (.aload_n 0, 1) := by decide +kernel
theorem d_Writer_putValue_23 : decode b_Writer_putValue 23 = .ok (.aload_n 0, 1) := by decide +kernel
theorem d_Writer_putValue_24 : decode b_Writer_putValue 24 = .ok (.getfield 9, 3) := by decide +kernel
theorem d_Writer_putValue_27 : decode b_Writer_putValue 27 = .ok (.iload_n 1, 1) := by decide +kernel
theorem d_Writer_putValue_28 : decode b_Writer_putValue 28 = .ok (.iload_n 2, 1) := by decide +kernel
theorem d_Writer_putValue_29 : decode b_Writer_putValue 29 = .ok (.invokevirtual 147, 3) := by decide +kernel
theorem d_Writer_putValue_32 : decode b_Writer_putValue 32 = .ok (.iconst 1, 1) := by decide +kernel
theorem d_Writer_putValue_33 : decode b_Writer_putValue 33 = .ok (.invokevirtual 60, 3) := by decide +kernel
theorem d_Writer_putValue_36 : decode b_Writer_putValue 36 = .ok (.iinc 2 1, 3) := by decide +kernel
theorem d_Writer_putValue_39 : decode b_Writer_putValue 39 = .ok (.goto (-37), 3) := by decide +kernel
theorem d_Writer_putValue_42 : decode b_Writer_putValue 42 = .ok (.return_, 1) := by decide +kernel
/-- Writer_putValue -/
def w_Writer_putValue (L : Nat → Nat) (a1 : Int) (Q : IS → Prop) (σ : IS) : Prop := WL (fun (K1 : Int → IS → Prop) (s3 : Int) (σ4 : IS) => inL L 103 a1 ∧ if s3 < (σ4.2 103 (Int.toNat a1)) ∧ ((σ4.1 11 7) = 0) then w_Store_letter L a1 s3 (fun v6 σ5 => w_Writer_putCharacter L v6 1 (fun σ7 => inR (s3 + 1) ∧ K1 (s3 + 1) σ7) σ5) σ4 else Q σ4) 0 σ
set_option maxHeartbeats 4000000 in
set_option maxRecDepth 20000 in
theorem s_Writer_putValue {L : Nat → Nat} (hL : ∀ r, L r < 2147483648) {d : Nat} (hd : 3 ≤ d) {a1 : Int} {Q : IS → Prop} {σ : IS}  (h : w_Writer_putValue L a1 Q σ) : OkI BF L d 11 b_Writer_putValue 3 0 0 [] [some (.inr 11), some (.inl a1)] σ (qv Q) := by
  unfold w_Writer_putValue at h
  obtain ⟨d, rfl⟩ : ∃ e, d = e + 1 := ⟨d - 1, by omega⟩
  refine k_sb (lv' := [some (.inr 11), some (.inl a1), none]) (sb_s (sb_s (sb_e sb_nil))) ?_
  refine k_iconst d_Writer_putValue_0 cI_0 ?_
  refine k_istore_n (lv' := [some (.inr 11), some (.inl a1), some (.inl 0)]) d_Writer_putValue_1 rfl rfl ?_
  refine k_sb (lv' := [some (.inr 11), some (.inl a1), some (.inl 0)]) (sb_s (sb_s (sb_s sb_nil))) ?_
  refine k_loop (S := Int) (st := fun _ => []) (lv := fun s3 => [some (.inr 11), some (.inl a1), some (.inl s3)]) (fun K1 hK2 s3 σ4 h => ?_) 0 _ h
  refine k_iload_n d_Writer_putValue_2 rfl ?_
  refine k_aload_n d_Writer_putValue_3 rfl ?_
  refine k_getR d_Writer_putValue_4 fl_11_9 ob_11 rfl ?_
  refine k_getR d_Writer_putValue_7 fl_11_145 ob_1 rfl ?_
  refine k_iload_n d_Writer_putValue_10 rfl ?_
  obtain ⟨p15, h⟩ := h
  refine k_ild (x := (σ4.2 103 (Int.toNat a1))) d_Writer_putValue_11 rI_103 p15 rfl ?_
  have hX10 : (s3 < (σ4.2 103 (Int.toNat a1)) ∧ ((σ4.1 11 7) = 0)) → OkI BF L (d + 1) 11 b_Writer_putValue 3 0 22 [] [some (.inr 11), some (.inl a1), some (.inl s3)] σ4 (qv Q) := fun e12 => by
    have h := ipos e12 h
    refine k_aload_n d_Writer_putValue_22 rfl ?_
    refine k_aload_n d_Writer_putValue_23 rfl ?_
    refine k_getR d_Writer_putValue_24 fl_11_9 ob_11 rfl ?_
    refine k_iload_n d_Writer_putValue_27 rfl ?_
    refine k_iload_n d_Writer_putValue_28 rfl ?_
    refine k_cvi [.inl a1, .inl s3] d_Writer_putValue_29 ml_11_147 rfl rfl ob_1 rfl (s_Store_letter hL (by omega)  h) (fun v6 σ5 h => ?_)
    refine k_iconst d_Writer_putValue_32 cI_1 ?_
    refine k_cvv [.inl v6, .inl 1] d_Writer_putValue_33 ml_11_60 rfl rfl ob_11 rfl (s_Writer_putCharacter hL (by omega)  h) (fun σ7 h => ?_)
    obtain ⟨p9, h⟩ := h
    refine k_iinc (lv' := [some (.inr 11), some (.inl a1), some (.inl (s3 + 1))]) d_Writer_putValue_36 cI_1 rfl rfl p9 rfl ?_
    refine k_goto d_Writer_putValue_39 rfl ?_
    exact k_sb (sb_s (sb_s (sb_s sb_nil))) (hK2 (s3 + 1) _ h)
  have hY11 : ¬ (s3 < (σ4.2 103 (Int.toNat a1)) ∧ ((σ4.1 11 7) = 0)) → OkI BF L (d + 1) 11 b_Writer_putValue 3 0 42 [] [some (.inr 11), some (.inl a1), some (.inl s3)] σ4 (qv Q) := fun e12 => by
    have h := ineg e12 h
    exact k_ret d_Writer_putValue_42 h
  refine k_icge d_Writer_putValue_12 rfl (fun c13 => ?_) (fun c13 => ?_)
  · exact hY11 (fun z => c13 z.1)
  · refine k_aload_n d_Writer_putValue_15 rfl ?_
    refine k_getI (x := (σ4.1 11 7)) d_Writer_putValue_16 fl_11_44 ob_11 rfl rfl ?_
    refine k_ifne d_Writer_putValue_19 rfl (fun c14 => ?_) (fun c14 => ?_)
    · exact hY11 (fun z => (c14) z.2)
    · exact hX10 (⟨c13, c14⟩)
theorem d_Writer_putBegin_0 : decode b_Writer_putBegin 0 = .ok (.aload_n 0, 1) := by decide +kernel
theorem d_Writer_putBegin_1 : decode b_Writer_putBegin 1 = .ok (.getfield 19, 3) := by decide +kernel
theorem d_Writer_putBegin_4 : decode b_Writer_putBegin 4 = .ok (.iload_n 1, 1) := by decide +kernel
theorem d_Writer_putBegin_5 : decode b_Writer_putBegin 5 = .ok (.invokevirtual 80, 3) := by decide +kernel
theorem d_Writer_putBegin_8 : decode b_Writer_putBegin 8 = .ok (.aload_n 0, 1) := by decide +kernel
theorem d_Writer_putBegin_9 : decode b_Writer_putBegin 9 = .ok (.iload_n 1, 1) := by decide +kernel
theorem d_Writer_putBegin_10 : decode b_Writer_putBegin 10 = .ok (.putfield 51, 3) := by decide +kernel
theorem d_Writer_putBegin_13 : decode b_Writer_putBegin 13 = .ok (.aload_n 0, 1) := by decide +kernel
theorem d_Writer_putBegin_14 : decode b_Writer_putBegin 14 = .ok (.iconst 1, 1) := by decide +kernel
theorem d_Writer_putBegin_15 : decode b_Writer_putBegin 15 = .ok (.putfield 48, 3) := by decide +kernel
theorem d_Writer_putBegin_18 : decode b_Writer_putBegin 18 = .ok (.aload_n 0, 1) := by decide +kernel
theorem d_Writer_putBegin_19 : decode b_Writer_putBegin 19 = .ok (.bipush 60, 2) := by decide +kernel
theorem d_Writer_putBegin_21 : decode b_Writer_putBegin 21 = .ok (.invokevirtual 85, 3) := by decide +kernel
theorem d_Writer_putBegin_24 : decode b_Writer_putBegin 24 = .ok (.aload_n 0, 1) := by decide +kernel
theorem d_Writer_putBegin_25 : decode b_Writer_putBegin 25 = .ok (.aload_n 0, 1) := by decide +kernel
theorem d_Writer_putBegin_26 : decode b_Writer_putBegin 26 = .ok (.getfield 15, 3) := by decide +kernel
theorem d_Writer_putBegin_29 : decode b_Writer_putBegin 29 = .ok (.getfield 88, 3) := by decide +kernel
theorem d_Writer_putBegin_32 : decode b_Writer_putBegin 32 = .ok (.iload_n 1, 1) := by decide +kernel
theorem d_Writer_putBegin_33 : decode b_Writer_putBegin 33 = .ok (.iaload, 1) := by decide +kernel
theorem d_Writer_putBegin_34 : decode b_Writer_putBegin 34 = .ok (.invokevirtual 91, 3) := by decide +kernel
theorem d_Writer_putBegin_37 : decode b_Writer_putBegin 37 = .ok (.iconst 0, 1) := by decide +kernel
theorem d_Writer_putBegin_38 : decode b_Writer_putBegin 38 = .ok (.istore_n 2, 1) := by decide +kernel
theorem d_Writer_putBegin_39 : decode b_Writer_putBegin 39 = .ok (.aload_n 0, 1) := by decide +kernel
theorem d_Writer_putBegin_40 : decode b_Writer_putBegin 40 = .ok (.getfield 15, 3) := by decide +kernel
theorem d_Writer_putBegin_43 : decode b_Writer_putBegin 43 = .ok (.getfield 94, 3) := by decide +kernel
theorem d_Writer_putBegin_46 : decode b_Writer_putBegin 46 = .ok (.iload_n 1, 1) := by decide +kernel
theorem d_Writer_putBegin_47 : decode b_Writer_putBegin 47 = .ok (.iaload, 1) := by decide +kernel
theorem d_Writer_putBegin_48 : decode b_Writer_putBegin 48 = .ok (.istore_n 3, 1) := by decide +kernel
theorem d_Writer_putBegin_49 : decode b_Writer_putBegin 49 = .ok (.iload_n 3, 1) := by decide +kernel
theorem d_Writer_putBegin_50 : decode b_Writer_putBegin 50 = .ok (.aload_n 0, 1) := by decide +kernel
theorem d_Writer_putBegin_51 : decode b_Writer_putBegin 51 = .ok (.getfield 15, 3) := by decide +kernel
theorem d_Writer_putBegin_54 : decode b_Writer_putBegin 54 = .ok (.getfield 94, 3) := by decide +kernel
theorem d_Writer_putBegin_57 : decode b_Writer_putBegin 57 = .ok (.iload_n 1, 1) := by decide +kernel
theorem d_Writer_putBegin_58 : decode b_Writer_putBegin 58 = .ok (.iaload, 1) := by decide +kernel
theorem d_Writer_putBegin_59 : decode b_Writer_putBegin 59 = .ok (.aload_n 0, 1) := by decide +kernel
theorem d_Writer_putBegin_60 : decode b_Writer_putBegin 60 = .ok (.getfield 15, 3) := by decide +kernel
theorem d_Writer_putBegin_63 : decode b_Writer_putBegin 63 = .ok (.getfield 97, 3) := by decide +kernel
theorem d_Writer_putBegin_66 : decode b_Writer_putBegin 66 = .ok (.iload_n 1, 1) := by decide +kernel
theorem d_Writer_putBegin_67 : decode b_Writer_putBegin 67 = .ok (.iaload, 1) := by decide +kernel
theorem d_Writer_putBegin_68 : decode b_Writer_putBegin 68 = .ok (.iadd, 1) := by decide +kernel
theorem d_Writer_putBegin_69 : decode b_Writer_putBegin 69 = .ok (.if_icmp .ge 42, 3) := by decide +kernel
theorem d_Writer_putBegin_72 : decode b_Writer_putBegin 72 = .ok (.aload_n 0, 1) := by decide +kernel
theorem d_Writer_putBegin_73 : decode b_Writer_putBegin 73 = .ok (.getfield 19, 3) := by decide +kernel
theorem d_Writer_putBegin_76 : decode b_Writer_putBegin 76 = .ok (.iload_n 3, 1) := by decide +kernel
theorem d_Writer_putBegin_77 : decode b_Writer_putBegin 77 = .ok (.invokevirtual 100, 3) := by decide +kernel
theorem d_Writer_putBegin_80 : decode b_Writer_putBegin 80 = .ok (.iconst (-1), 1) := by decide +kernel
theorem d_Writer_putBegin_81 : decode b_Writer_putBegin 81 = .ok (.if_icmp .eq 14, 3) := by decide +kernel
theorem d_Writer_putBegin_84 : decode b_Writer_putBegin 84 = .ok (.aload_n 0, 1) := by decide +kernel
theorem d_Writer_putBegin_85 : decode b_Writer_putBegin 85 = .ok (.getfield 19, 3) := by decide +kernel
theorem d_Writer_putBegin_88 : decode b_Writer_putBegin 88 = .ok (.iload_n 3, 1) := by decide +kernel
theorem d_Writer_putBegin_89 : decode b_Writer_putBegin 89 = .ok (.invokevirtual 104, 3) := by decide +kernel
theorem d_Writer_putBegin_92 : decode b_Writer_putBegin 92 = .ok (.ifCond .ne 13, 3) := by decide +kernel
theorem d_Writer_putBegin_95 : decode b_Writer_putBegin 95 = .ok (.aload_n 0, 1) := by decide +kernel
theorem d_Writer_putBegin_96 : decode b_Writer_putBegin 96 = .ok (.getfield 37, 3) := by decide +kernel
theorem d_Writer_putBegin_99 : decode b_Writer_putBegin 99 = .ok (.iload_n 2, 1) := by decide +kernel
theorem d_Writer_putBegin_100 : decode b_Writer_putBegin 100 = .ok (.iload_n 3, 1) := by decide +kernel
theorem d_Writer_putBegin_101 : decode b_Writer_putBegin 101 = .ok (.iastore, 1) := by decide +kernel
theorem d_Writer_putBegin_102 : decode b_Writer_putBegin 102 = .ok (.iinc 2 1, 3) := by decide +kernel
theorem d_Writer_putBegin_105 : decode b_Writer_putBegin 105 = .ok (.iinc 3 1, 3) := by decide +kernel
theorem d_Writer_putBegin_108 : decode b_Writer_putBegin 108 = .ok (.goto (-59), 3) := by decide +kernel
theorem d_Writer_putBegin_111 : decode b_Writer_putBegin 111 = .ok (.aload_n 0, 1) := by decide +kernel
theorem d_Writer_putBegin_112 : decode b_Writer_putBegin 112 = .ok (.iload_n 2, 1) := by decide +kernel
theorem d_Writer_putBegin_113 : decode b_Writer_putBegin 113 = .ok (.invokevirtual 108, 3) := by decide +kernel
theorem d_Writer_putBegin_116 : decode b_Writer_putBegin 116 = .ok (.iconst 0, 1) := by decide +kernel
theorem d_Writer_putBegin_117 : decode b_Writer_putBegin 117 = .ok (.istore_n 3, 1) := by decide +kernel
theorem d_Writer_putBegin_118 : decode b_Writer_putBegin 118 = .ok (.iload_n 3, 1) := by decide +kernel
theorem d_Writer_putBegin_119 : decode b_Writer_putBegin 119 = .ok (.iload_n 2, 1) := by decide +kernel
theorem d_Writer_putBegin_120 : decode b_Writer_putBegin 120 = .ok (.if_icmp .ge 70, 3) := by decide +kernel
theorem d_Writer_putBegin_123 : decode b_Writer_putBegin 123 = .ok (.aload_n 0, 1) := by decide +kernel
theorem d_Writer_putBegin_124 : decode b_Writer_putBegin 124 = .ok (.getfield 44, 3) := by decide +kernel
theorem d_Writer_putBegin_127 : decode b_Writer_putBegin 127 = .ok (.ifCond .ne 63, 3) := by decide +kernel
theorem d_Writer_putBegin_130 : decode b_Writer_putBegin 130 = .ok (.aload_n 0, 1) := by decide +kernel
theorem d_Writer_putBegin_131 : decode b_Writer_putBegin 131 = .ok (.bipush 32, 2) := by decide +kernel
theorem d_Writer_putBegin_133 : decode b_Writer_putBegin 133 = .ok (.invokevirtual 85, 3) := by decide +kernel
theorem d_Writer_putBegin_136 : decode b_Writer_putBegin 136 = .ok (.aload_n 0, 1) := by decide +kernel
theorem d_Writer_putBegin_137 : decode b_Writer_putBegin 137 = .ok (.aload_n 0, 1) := by decide +kernel
theorem d_Writer_putBegin_138 : decode b_Writer_putBegin 138 = .ok (.getfield 15, 3) := by decide +kernel
theorem d_Writer_putBegin_141 : decode b_Writer_putBegin 141 = .ok (.getfield 31, 3) := by decide +kernel
theorem d_Writer_putBegin_144 : decode b_Writer_putBegin 144 = .ok (.aload_n 0, 1) := by decide +kernel
theorem d_Writer_putBegin_145 : decode b_Writer_putBegin 145 = .ok (.getfield 37, 3) := by decide +kernel
theorem d_Writer_putBegin_148 : decode b_Writer_putBegin 148 = .ok (.iload_n 3, 1) := by decide +kernel
theorem d_Writer_putBegin_149 : decode b_Writer_putBegin 149 = .ok (.iaload, 1) := by decide +kernel
theorem d_Writer_putBegin_150 : decode b_Writer_putBegin 150 = .ok (.iaload, 1) := by decide +kernel
theorem d_Writer_putBegin_151 : decode b_Writer_putBegin 151 = .ok (.invokevirtual 91, 3) := by decide +kernel
theorem d_Writer_putBegin_154 : decode b_Writer_putBegin 154 = .ok (.aload_n 0, 1) := by decide +kernel
theorem d_Writer_putBegin_155 : decode b_Writer_putBegin 155 = .ok (.ldc 111, 2) := by decide +kernel
theorem d_Writer_putBegin_157 : decode b_Writer_putBegin 157 = .ok (.invokevirtual 113, 3) := by decide +kernel
theorem d_Writer_putBegin_160 : decode b_Writer_putBegin 160 = .ok (.aload_n 0, 1) := by decide +kernel
theorem d_Writer_putBegin_161 : decode b_Writer_putBegin 161 = .ok (.aload_n 0, 1) := by decide +kernel
theorem d_Writer_putBegin_162 : decode b_Writer_putBegin 162 = .ok (.getfield 15, 3) := by decide +kernel
theorem d_Writer_putBegin_165 : decode b_Writer_putBegin 165 = .ok (.getfield 117, 3) := by decide +kernel
theorem d_Writer_putBegin_168 : decode b_Writer_putBegin 168 = .ok (.aload_n 0, 1) := by decide +kernel
theorem d_Writer_putBegin_169 : decode b_Writer_putBegin 169 = .ok (.getfield 37, 3) := by decide +kernel
theorem d_Writer_putBegin_172 : decode b_Writer_putBegin 172 = .ok (.iload_n 3, 1) := by decide +kernel
theorem d_Writer_putBegin_173 : decode b_Writer_putBegin 173 = .ok (.iaload, 1) := by decide +kernel
theorem d_Writer_putBegin_174 : decode b_Writer_putBegin 174 = .ok (.iaload, 1) := by decide +kernel
theorem d_Writer_putBegin_175 : decode b_Writer_putBegin 175 = .ok (.invokevirtual 120, 3) := by decide +kernel
theorem d_Writer_putBegin_178 : decode b_Writer_putBegin 178 = .ok (.aload_n 0, 1) := by decide +kernel
theorem d_Writer_putBegin_179 : decode b_Writer_putBegin 179 = .ok (.bipush 34, 2) := by decide +kernel
theorem d_Writer_putBegin_181 : decode b_Writer_putBegin 181 = .ok (.invokevirtual 85, 3) := by decide +kernel
theorem d_Writer_putBegin_184 : decode b_Writer_putBegin 184 = .ok (.iinc 3 1, 3) := by decide +kernel
theorem d_Writer_putBegin_187 : decode b_Writer_putBegin 187 = .ok (.goto (-69), 3) := by decide +kernel
theorem d_Writer_putBegin_190 : decode b_Writer_putBegin 190 = .ok (.aload_n 0, 1) := by decide +kernel
theorem d_Writer_putBegin_191 : decode b_Writer_putBegin 191 = .ok (.bipush 62, 2) := by decide +kernel
theorem d_Writer_putBegin_193 : decode b_Writer_putBegin 193 = .ok (.invokevirtual 85, 3) := by decide +kernel
theorem d_Writer_putBegin_196 : decode b_Writer_putBegin 196 = .ok (.return_, 1) := by decide +kernel
/-- Writer_putBegin -/
def w_Writer_putBegin (L : Nat → Nat) (a1 : Int) (Q : IS → Prop) (σ : IS) : Prop := w_Meanings_enter L a1 (fun σ1 => w_Writer_put L 60 (fun σ3 => inL L 146 a1 ∧ w_Writer_putWord L (σ3.2 146 (Int.toNat a1)) (fun σ5 => inL L 130 a1 ∧ WL (fun (K7 : Int × Int → IS → Prop) (s9 : Int × Int) (σ10 : IS) => inL L 130 a1 ∧ inL L 131 a1 ∧ inR ((σ10.2 130 (Int.toNat a1)) + (σ10.2 131 (Int.toNat a1))) ∧ if s9.2 < ((σ10.2 130 (Int.toNat a1)) + (σ10.2 131 (Int.toNat a1))) then w_Meanings_declares L s9.2 (fun v41 σ40 => WJ (fun (s44 : Int) (σ45 : IS) => inR (s9.2 + 1) ∧ K7 (s44, (s9.2 + 1)) σ45) (fun J42 => WJ (fun (s49 : Unit) (σ50 : IS) => inL L 164 s9.1 ∧ inR (s9.1 + 1) ∧ J42 (s9.1 + 1) (pr σ50 164 (Int.toNat s9.1) s9.2)) (fun J47 => if v41 = (-1) then J47 () σ40 else w_Meanings_isIdle L s9.2 (fun v55 σ54 => if v55 = 0 then J47 () σ54 else J42 s9.1 σ54) σ40))) σ10 else w_Writer_sort L s9.1 (fun σ12 => WL (fun (K14 : Int → IS → Prop) (s16 : Int) (σ17 : IS) => if s16 < s9.1 ∧ ((σ17.1 11 7) = 0) then w_Writer_put L 32 (fun σ18 => inL L 164 s16 ∧ inL L 161 (σ18.2 164 (Int.toNat s16)) ∧ w_Writer_putWord L (σ18.2 161 (Int.toNat (σ18.2 164 (Int.toNat s16)))) (fun σ20 => w_Writer_putText L 1085 (fun σ22 => inL L 164 s16 ∧ inL L 134 (σ22.2 164 (Int.toNat s16)) ∧ w_Writer_putValue L (σ22.2 134 (Int.toNat (σ22.2 164 (Int.toNat s16)))) (fun σ24 => w_Writer_put L 34 (fun σ26 => inR (s16 + 1) ∧ K14 (s16 + 1) σ26) σ24) σ22) σ20) σ18) σ17 else w_Writer_put L 62 (fun σ33 => Q σ33) σ17) 0 σ12) σ10) (0, (σ5.2 130 (Int.toNat a1))) σ5) σ3) (pf (pf σ1 11 8 a1) 11 9 1)) σ
set_option maxHeartbeats 4000000 in
set_option maxRecDepth 20000 in
theorem s_Writer_putBegin {L : Nat → Nat} (hL : ∀ r, L r < 2147483648) {d : Nat} (hd : 5 ≤ d) {a1 : Int} {Q : IS → Prop} {σ : IS}  (h : w_Writer_putBegin L a1 Q σ) : OkI BF L d 11 b_Writer_putBegin 4 0 0 [] [some (.inr 11), some (.inl a1)] σ (qv Q) := by
  unfold w_Writer_putBegin at h
  obtain ⟨d, rfl⟩ : ∃ e, d = e + 1 := ⟨d - 1, by omega⟩
  refine k_sb (lv' := [some (.inr 11), some (.inl a1), none, none]) (sb_s (sb_s (sb_e (sb_e sb_nil)))) ?_
  refine k_aload_n d_Writer_putBegin_0 rfl ?_
  refine k_getR d_Writer_putBegin_1 fl_11_19 ob_11 rfl ?_
  refine k_iload_n d_Writer_putBegin_4 rfl ?_
  refine k_cvv [.inl a1] d_Writer_putBegin_5 ml_11_80 rfl rfl ob_10 rfl (s_Meanings_enter hL (by omega)  h) (fun σ1 h => ?_)
  refine k_aload_n d_Writer_putBegin_8 rfl ?_
  refine k_iload_n d_Writer_putBegin_9 rfl ?_
  refine k_putI d_Writer_putBegin_10 fl_11_51 ob_11 rfl ?_
  refine k_aload_n d_Writer_putBegin_13 rfl ?_
  refine k_iconst d_Writer_putBegin_14 cI_1 ?_
  refine k_putZ d_Writer_putBegin_15 fl_11_48 ob_11 rfl (Or.inr rfl) ?_
  refine k_aload_n d_Writer_putBegin_18 rfl ?_
  refine k_bipush d_Writer_putBegin_19 cB_60 ?_
  refine k_cvv [.inl 60] d_Writer_putBegin_21 ml_11_85 rfl rfl ob_11 rfl (s_Writer_put hL (by omega)  h) (fun σ3 h => ?_)
  refine k_aload_n d_Writer_putBegin_24 rfl ?_
  refine k_aload_n d_Writer_putBegin_25 rfl ?_
  refine k_getR d_Writer_putBegin_26 fl_11_15 ob_11 rfl ?_
  refine k_getR d_Writer_putBegin_29 fl_11_88 ob_6 rfl ?_
  refine k_iload_n d_Writer_putBegin_32 rfl ?_
  obtain ⟨p61, h⟩ := h
  refine k_ild (x := (σ3.2 146 (Int.toNat a1))) d_Writer_putBegin_33 rI_146 p61 rfl ?_
  refine k_cvv [.inl (σ3.2 146 (Int.toNat a1))] d_Writer_putBegin_34 ml_11_91 rfl rfl ob_11 rfl (s_Writer_putWord hL (by omega)  h) (fun σ5 h => ?_)
  refine k_iconst d_Writer_putBegin_37 cI_0 ?_
  refine k_istore_n (lv' := [some (.inr 11), some (.inl a1), some (.inl 0), none]) d_Writer_putBegin_38 rfl rfl ?_
  refine k_aload_n d_Writer_putBegin_39 rfl ?_
  refine k_getR d_Writer_putBegin_40 fl_11_15 ob_11 rfl ?_
  refine k_getR d_Writer_putBegin_43 fl_11_94 ob_6 rfl ?_
  refine k_iload_n d_Writer_putBegin_46 rfl ?_
  obtain ⟨p60, h⟩ := h
  refine k_ild (x := (σ5.2 130 (Int.toNat a1))) d_Writer_putBegin_47 rI_130 p60 rfl ?_
  refine k_istore_n (lv' := [some (.inr 11), some (.inl a1), some (.inl 0), some (.inl (σ5.2 130 (Int.toNat a1)))]) d_Writer_putBegin_48 rfl rfl ?_
  refine k_sb (lv' := [some (.inr 11), some (.inl a1), some (.inl 0), some (.inl (σ5.2 130 (Int.toNat a1)))]) (sb_s (sb_s (sb_s (sb_s sb_nil)))) ?_
  refine k_loop (S := Int × Int) (st := fun _ => []) (lv := fun s9 => [some (.inr 11), some (.inl a1), some (.inl s9.1), some (.inl s9.2)]) (fun K7 hK8 s9 σ10 h => ?_) (0, (σ5.2 130 (Int.toNat a1))) _ h
  refine k_iload_n d_Writer_putBegin_49 rfl ?_
  refine k_aload_n d_Writer_putBegin_50 rfl ?_
  refine k_getR d_Writer_putBegin_51 fl_11_15 ob_11 rfl ?_
  refine k_getR d_Writer_putBegin_54 fl_11_94 ob_6 rfl ?_
  refine k_iload_n d_Writer_putBegin_57 rfl ?_
  obtain ⟨p59, h⟩ := h
  refine k_ild (x := (σ10.2 130 (Int.toNat a1))) d_Writer_putBegin_58 rI_130 p59 rfl ?_
  refine k_aload_n d_Writer_putBegin_59 rfl ?_
  refine k_getR d_Writer_putBegin_60 fl_11_15 ob_11 rfl ?_
  refine k_getR d_Writer_putBegin_63 fl_11_97 ob_6 rfl ?_
  refine k_iload_n d_Writer_putBegin_66 rfl ?_
  obtain ⟨p58, h⟩ := h
  refine k_ild (x := (σ10.2 131 (Int.toNat a1))) d_Writer_putBegin_67 rI_131 p58 rfl ?_
  obtain ⟨p57, h⟩ := h
  refine k_iadd d_Writer_putBegin_68 p57 ?_
  refine k_icge d_Writer_putBegin_69 rfl (fun c11 => ?_) (fun c11 => ?_)
  · have h := ineg c11 h
    refine k_aload_n d_Writer_putBegin_111 rfl ?_
    refine k_iload_n d_Writer_putBegin_112 rfl ?_
    refine k_cvv [.inl s9.1] d_Writer_putBegin_113 ml_11_108 rfl rfl ob_11 rfl (s_Writer_sort hL (by omega)  h) (fun σ12 h => ?_)
    refine k_iconst d_Writer_putBegin_116 cI_0 ?_
    refine k_istore_n (lv' := [some (.inr 11), some (.inl a1), some (.inl s9.1), some (.inl 0)]) d_Writer_putBegin_117 rfl rfl ?_
    refine k_sb (lv' := [some (.inr 11), none, some (.inl s9.1), some (.inl 0)]) (sb_s (sb_n (sb_s (sb_s sb_nil)))) ?_
    refine k_loop (S := Int) (st := fun _ => []) (lv := fun s16 => [some (.inr 11), none, some (.inl s9.1), some (.inl s16)]) (fun K14 hK15 s16 σ17 h => ?_) 0 _ h
    refine k_iload_n d_Writer_putBegin_118 rfl ?_
    refine k_iload_n d_Writer_putBegin_119 rfl ?_
    have hX35 : (s16 < s9.1 ∧ ((σ17.1 11 7) = 0)) → OkI BF L (d + 1) 11 b_Writer_putBegin 4 0 130 [] [some (.inr 11), none, some (.inl s9.1), some (.inl s16)] σ17 (qv Q) := fun e37 => by
      have h := ipos e37 h
      refine k_aload_n d_Writer_putBegin_130 rfl ?_
      refine k_bipush d_Writer_putBegin_131 cB_32 ?_
      refine k_cvv [.inl 32] d_Writer_putBegin_133 ml_11_85 rfl rfl ob_11 rfl (s_Writer_put hL (by omega)  h) (fun σ18 h => ?_)
      refine k_aload_n d_Writer_putBegin_136 rfl ?_
      refine k_aload_n d_Writer_putBegin_137 rfl ?_
      refine k_getR d_Writer_putBegin_138 fl_11_15 ob_11 rfl ?_
      refine k_getR d_Writer_putBegin_141 fl_11_31 ob_6 rfl ?_
      refine k_aload_n d_Writer_putBegin_144 rfl ?_
      refine k_getR d_Writer_putBegin_145 fl_11_37 ob_11 rfl ?_
      refine k_iload_n d_Writer_putBegin_148 rfl ?_
      obtain ⟨p32, h⟩ := h
      refine k_ild (x := (σ18.2 164 (Int.toNat s16))) d_Writer_putBegin_149 rI_164 p32 rfl ?_
      obtain ⟨p31, h⟩ := h
      refine k_ild (x := (σ18.2 161 (Int.toNat (σ18.2 164 (Int.toNat s16))))) d_Writer_putBegin_150 rI_161 p31 rfl ?_
      refine k_cvv [.inl (σ18.2 161 (Int.toNat (σ18.2 164 (Int.toNat s16))))] d_Writer_putBegin_151 ml_11_91 rfl rfl ob_11 rfl (s_Writer_putWord hL (by omega)  h) (fun σ20 h => ?_)
      refine k_aload_n d_Writer_putBegin_154 rfl ?_
      refine k_ldc d_Writer_putBegin_155 ks_11_111 rfl ?_
      refine k_cvv [.inr 1085] d_Writer_putBegin_157 ml_11_113 rfl rfl ob_11 rfl (s_Writer_putText hL (by omega) it_1085 h) (fun σ22 h => ?_)
      refine k_aload_n d_Writer_putBegin_160 rfl ?_
      refine k_aload_n d_Writer_putBegin_161 rfl ?_
      refine k_getR d_Writer_putBegin_162 fl_11_15 ob_11 rfl ?_
      refine k_getR d_Writer_putBegin_165 fl_11_117 ob_6 rfl ?_
      refine k_aload_n d_Writer_putBegin_168 rfl ?_
      refine k_getR d_Writer_putBegin_169 fl_11_37 ob_11 rfl ?_
      refine k_iload_n d_Writer_putBegin_172 rfl ?_
      obtain ⟨p30, h⟩ := h
      refine k_ild (x := (σ22.2 164 (Int.toNat s16))) d_Writer_putBegin_173 rI_164 p30 rfl ?_
      obtain ⟨p29, h⟩ := h
      refine k_ild (x := (σ22.2 134 (Int.toNat (σ22.2 164 (Int.toNat s16))))) d_Writer_putBegin_174 rI_134 p29 rfl ?_
      refine k_cvv [.inl (σ22.2 134 (Int.toNat (σ22.2 164 (Int.toNat s16))))] d_Writer_putBegin_175 ml_11_120 rfl rfl ob_11 rfl (s_Writer_putValue hL (by omega)  h) (fun σ24 h => ?_)
      refine k_aload_n d_Writer_putBegin_178 rfl ?_
      refine k_bipush d_Writer_putBegin_179 cB_34 ?_
      refine k_cvv [.inl 34] d_Writer_putBegin_181 ml_11_85 rfl rfl ob_11 rfl (s_Writer_put hL (by omega)  h) (fun σ26 h => ?_)
      obtain ⟨p28, h⟩ := h
      refine k_iinc (lv' := [some (.inr 11), none, some (.inl s9.1), some (.inl (s16 + 1))]) d_Writer_putBegin_184 cI_1 rfl rfl p28 rfl ?_
      refine k_goto d_Writer_putBegin_187 rfl ?_
      exact k_sb (sb_s (sb_s (sb_s (sb_s sb_nil)))) (hK15 (s16 + 1) _ h)
    have hY36 : ¬ (s16 < s9.1 ∧ ((σ17.1 11 7) = 0)) → OkI BF L (d + 1) 11 b_Writer_putBegin 4 0 190 [] [some (.inr 11), none, some (.inl s9.1), some (.inl s16)] σ17 (qv Q) := fun e37 => by
      have h := ineg e37 h
      refine k_aload_n d_Writer_putBegin_190 rfl ?_
      refine k_bipush d_Writer_putBegin_191 cB_62 ?_
      refine k_cvv [.inl 62] d_Writer_putBegin_193 ml_11_85 rfl rfl ob_11 rfl (s_Writer_put hL (by omega)  h) (fun σ33 h => ?_)
      exact k_ret d_Writer_putBegin_196 h
    refine k_icge d_Writer_putBegin_120 rfl (fun c38 => ?_) (fun c38 => ?_)
    · exact hY36 (fun z => c38 z.1)
    · refine k_aload_n d_Writer_putBegin_123 rfl ?_
      refine k_getI (x := (σ17.1 11 7)) d_Writer_putBegin_124 fl_11_44 ob_11 rfl rfl ?_
      refine k_ifne d_Writer_putBegin_127 rfl (fun c39 => ?_) (fun c39 => ?_)
      · exact hY36 (fun z => (c39) z.2)
      · exact hX35 (⟨c38, c39⟩)
  · have h := ipos c11 h
    refine k_aload_n d_Writer_putBegin_72 rfl ?_
    refine k_getR d_Writer_putBegin_73 fl_11_19 ob_11 rfl ?_
    refine k_iload_n d_Writer_putBegin_76 rfl ?_
    refine k_cvi [.inl s9.2] d_Writer_putBegin_77 ml_11_100 rfl rfl ob_10 rfl (s_Meanings_declares hL (by omega)  h) (fun v41 σ40 h => ?_)
    refine k_iconst d_Writer_putBegin_80 cI_m1 ?_
    refine k_join (S := Int) (pc' := 105) (st' := fun s44 => []) (lv' := fun s44 => [some (.inr 11), some (.inl a1), some (.inl s44), some (.inl s9.2)]) (fun s44 σ45 h => ?_) (fun J42 hJ43 h => ?_) h
    · obtain ⟨p46, h⟩ := h
      refine k_iinc (lv' := [some (.inr 11), some (.inl a1), some (.inl s44), some (.inl (s9.2 + 1))]) d_Writer_putBegin_105 cI_1 rfl rfl p46 rfl ?_
      refine k_goto d_Writer_putBegin_108 rfl ?_
      exact k_sb (sb_s (sb_s (sb_s (sb_s sb_nil)))) (hK8 (s44, (s9.2 + 1)) _ h)
    · refine k_join (S := Unit) (pc' := 95) (st' := fun s49 => []) (lv' := fun s49 => [some (.inr 11), some (.inl a1), some (.inl s9.1), some (.inl s9.2)]) (fun s49 σ50 h => ?_) (fun J47 hJ48 h => ?_) h
      · refine k_aload_n d_Writer_putBegin_95 rfl ?_
        refine k_getR d_Writer_putBegin_96 fl_11_37 ob_11 rfl ?_
        refine k_iload_n d_Writer_putBegin_99 rfl ?_
        refine k_iload_n d_Writer_putBegin_100 rfl ?_
        obtain ⟨p52, h⟩ := h
        refine k_ist d_Writer_putBegin_101 rI_164 p52 ?_
        obtain ⟨p51, h⟩ := h
        refine k_iinc (lv' := [some (.inr 11), some (.inl a1), some (.inl (s9.1 + 1)), some (.inl s9.2)]) d_Writer_putBegin_102 cI_1 rfl rfl p51 rfl ?_
        exact k_sb (sb_s (sb_s (sb_s (sb_s sb_nil)))) (hJ43 (s9.1 + 1) _ h)
      · refine k_iceq d_Writer_putBegin_81 rfl (fun c53 => ?_) (fun c53 => ?_)
        · have h := ipos c53 h
          exact k_sb (sb_s (sb_s (sb_s (sb_s sb_nil)))) (hJ48 () _ h)
        · have h := ineg c53 h
          refine k_aload_n d_Writer_putBegin_84 rfl ?_
          refine k_getR d_Writer_putBegin_85 fl_11_19 ob_11 rfl ?_
          refine k_iload_n d_Writer_putBegin_88 rfl ?_
          refine k_cvi [.inl s9.2] d_Writer_putBegin_89 ml_11_104 rfl rfl ob_10 rfl (s_Meanings_isIdle hL (by omega)  h) (fun v55 σ54 h => ?_)
          refine k_ifne d_Writer_putBegin_92 rfl (fun c56 => ?_) (fun c56 => ?_)
          · have h := ineg c56 h
            exact k_sb (sb_s (sb_s (sb_s (sb_s sb_nil)))) (hJ43 s9.1 _ h)
          · have h := ipos c56 h
            exact k_sb (sb_s (sb_s (sb_s (sb_s sb_nil)))) (hJ48 () _ h)
