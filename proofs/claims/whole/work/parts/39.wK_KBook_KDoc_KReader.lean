theorem d_K_attribute_13 : decode b_K_attribute 13 = .ok (.iload_n 2, 1) := by decide +kernel
theorem d_K_attribute_14 : decode b_K_attribute 14 = .ok (.ifCond .lt 25, 3) := by decide +kernel
theorem d_K_attribute_17 : decode b_K_attribute 17 = .ok (.iload_n 2, 1) := by decide +kernel
theorem d_K_attribute_18 : decode b_K_attribute 18 = .ok (.aload_n 0, 1) := by decide +kernel
theorem d_K_attribute_19 : decode b_K_attribute 19 = .ok (.getfield 54, 3) := by decide +kernel
theorem d_K_attribute_22 : decode b_K_attribute 22 = .ok (.getfield 124, 3) := by decide +kernel
theorem d_K_attribute_25 : decode b_K_attribute 25 = .ok (.iload_n 1, 1) := by decide +kernel
theorem d_K_attribute_26 : decode b_K_attribute 26 = .ok (.iaload, 1) := by decide +kernel
theorem d_K_attribute_27 : decode b_K_attribute 27 = .ok (.if_icmp .ge 12, 3) := by decide +kernel
theorem d_K_attribute_30 : decode b_K_attribute 30 = .ok (.iload_n 3, 1) := by decide +kernel
theorem d_K_attribute_31 : decode b_K_attribute 31 = .ok (.ifCond .lt 8, 3) := by decide +kernel
theorem d_K_attribute_34 : decode b_K_attribute 34 = .ok (.iload_n 3, 1) := by decide +kernel
theorem d_K_attribute_35 : decode b_K_attribute 35 = .ok (.iconst 1, 1) := by decide +kernel
theorem d_K_attribute_36 : decode b_K_attribute 36 = .ok (.if_icmp .le 5, 3) := by decide +kernel
theorem d_K_attribute_41 : decode b_K_attribute 41 = .ok (.aload_n 0, 1) := by decide +kernel
theorem d_K_attribute_42 : decode b_K_attribute 42 = .ok (.getfield 54, 3) := by decide +kernel
theorem d_K_attribute_45 : decode b_K_attribute 45 = .ok (.getfield 144, 3) := by decide +kernel
theorem d_K_attribute_48 : decode b_K_attribute 48 = .ok (.iload_n 1, 1) := by decide +kernel
theorem d_K_attribute_49 : decode b_K_attribute 49 = .ok (.iaload, 1) := by decide +kernel
theorem d_K_attribute_50 : decode b_K_attribute 50 = .ok (.iload_n 2, 1) := by decide +kernel
theorem d_K_attribute_51 : decode b_K_attribute 51 = .ok (.iadd, 1) := by decide +kernel
theorem d_K_attribute_52 : decode b_K_attribute 52 = .ok (.istore 5, 2) := by decide +kernel
theorem d_K_attribute_54 : decode b_K_attribute 54 = .ok (.iload_n 3, 1) := by decide +kernel
theorem d_K_attribute_55 : decode b_K_attribute 55 = .ok (.ifCond .ne 20, 3) := by decide +kernel
theorem d_K_attribute_58 : decode b_K_attribute 58 = .ok (.aload_n 0, 1) := by decide +kernel
theorem d_K_attribute_59 : decode b_K_attribute 59 = .ok (.aload_n 0, 1) := by decide +kernel
theorem d_K_attribute_60 : decode b_K_attribute 60 = .ok (.getfield 54, 3) := by decide +kernel
theorem d_K_attribute_63 : decode b_K_attribute 63 = .ok (.getfield 147, 3) := by decide +kernel
theorem d_K_attribute_66 : decode b_K_attribute 66 = .ok (.iload 5, 2) := by decide +kernel
theorem d_K_attribute_68 : decode b_K_attribute 68 = .ok (.iaload, 1) := by decide +kernel
theorem d_K_attribute_69 : decode b_K_attribute 69 = .ok (.iload 4, 2) := by decide +kernel
theorem d_K_attribute_71 : decode b_K_attribute 71 = .ok (.invokevirtual 141, 3) := by decide +kernel
theorem d_K_attribute_74 : decode b_K_attribute 74 = .ok (.ireturn, 1) := by decide +kernel
theorem d_K_attribute_75 : decode b_K_attribute 75 = .ok (.iload 4, 2) := by decide +kernel
theorem d_K_attribute_77 : decode b_K_attribute 77 = .ok (.ifCond .lt 42, 3) := by decide +kernel
theorem d_K_attribute_80 : decode b_K_attribute 80 = .ok (.iload 4, 2) := by decide +kernel
theorem d_K_attribute_82 : decode b_K_attribute 82 = .ok (.aload_n 0, 1) := by decide +kernel
theorem d_K_attribute_83 : decode b_K_attribute 83 = .ok (.getfield 54, 3) := by decide +kernel
theorem d_K_attribute_86 : decode b_K_attribute 86 = .ok (.getfield 150, 3) := by decide +kernel
theorem d_K_attribute_89 : decode b_K_attribute 89 = .ok (.iload 5, 2) := by decide +kernel
theorem d_K_attribute_91 : decode b_K_attribute 91 = .ok (.iaload, 1) := by decide +kernel
theorem d_K_attribute_92 : decode b_K_attribute 92 = .ok (.if_icmp .ge 27, 3) := by decide +kernel
theorem d_K_attribute_95 : decode b_K_attribute 95 = .ok (.aload_n 0, 1) := by decide +kernel
theorem d_K_attribute_96 : decode b_K_attribute 96 = .ok (.getfield 54, 3) := by decide +kernel
theorem d_K_attribute_99 : decode b_K_attribute 99 = .ok (.getfield 153, 3) := by decide +kernel
theorem d_K_attribute_102 : decode b_K_attribute 102 = .ok (.aload_n 0, 1) := by decide +kernel
theorem d_K_attribute_103 : decode b_K_attribute 103 = .ok (.getfield 54, 3) := by decide +kernel
theorem d_K_attribute_106 : decode b_K_attribute 106 = .ok (.getfield 156, 3) := by decide +kernel
theorem d_K_attribute_109 : decode b_K_attribute 109 = .ok (.iload 5, 2) := by decide +kernel
theorem d_K_attribute_111 : decode b_K_attribute 111 = .ok (.iaload, 1) := by decide +kernel
theorem d_K_attribute_112 : decode b_K_attribute 112 = .ok (.iload 4, 2) := by decide +kernel
theorem d_K_attribute_114 : decode b_K_attribute 114 = .ok (.iadd, 1) := by decide +kernel
theorem d_K_attribute_115 : decode b_K_attribute 115 = .ok (.iaload, 1) := by decide +kernel
theorem d_K_attribute_116 : decode b_K_attribute 116 = .ok (.goto 4, 3) := by decide +kernel
theorem d_K_attribute_119 : decode b_K_attribute 119 = .ok (.iconst (-1), 1) := by decide +kernel
theorem d_K_attribute_120 : decode b_K_attribute 120 = .ok (.ireturn, 1) := by decide +kernel
/-- K_attribute -/
def w_K_attribute (L : Nat → Nat) (a1 : Int) (a2 : Int) (a3 : Int) (a4 : Int) (Q : Int → IS → Prop) (σ : IS) : Prop := w_K_isElement L a1 (fun v2 σ1 => ((¬ v2 = 0 → (¬ a2 < 0 → inL L (rfo 14 6) a1))) ∧ if ¬ v2 = 0 ∧ (¬ a2 < 0 ∧ (a2 < (σ1.2 (rfo 14 6) (Int.toNat a1)) ∧ (¬ a3 < 0 ∧ (¬ 1 < a3)))) then inL L (rfo 14 5) a1 ∧ inR ((σ1.2 (rfo 14 5) (Int.toNat a1)) + a2) ∧ if a3 = 0 then inL L (rfo 14 8) ((σ1.2 (rfo 14 5) (Int.toNat a1)) + a2) ∧ w_K_letterOf L (σ1.2 (rfo 14 8) (Int.toNat ((σ1.2 (rfo 14 5) (Int.toNat a1)) + a2))) a4 (fun v20 σ19 => Q v20 σ19) σ1 else ((¬ a4 < 0 → (inL L (rfo 14 10) ((σ1.2 (rfo 14 5) (Int.toNat a1)) + a2) ∧ (a4 < (σ1.2 (rfo 14 10) (Int.toNat ((σ1.2 (rfo 14 5) (Int.toNat a1)) + a2))) → (inL L (rfo 14 9) ((σ1.2 (rfo 14 5) (Int.toNat a1)) + a2) ∧ inR ((σ1.2 (rfo 14 9) (Int.toNat ((σ1.2 (rfo 14 5) (Int.toNat a1)) + a2))) + a4) ∧ inL L (rfo 14 1) ((σ1.2 (rfo 14 9) (Int.toNat ((σ1.2 (rfo 14 5) (Int.toNat a1)) + a2))) + a4)))))) ∧ Q (if a4 < 0 then ((-1) : Int) else (if a4 < (σ1.2 (rfo 14 10) (Int.toNat ((σ1.2 (rfo 14 5) (Int.toNat a1)) + a2))) then (σ1.2 (rfo 14 1) (Int.toNat ((σ1.2 (rfo 14 9) (Int.toNat ((σ1.2 (rfo 14 5) (Int.toNat a1)) + a2))) + a4))) else ((-1) : Int))) σ1 else Q (-1) σ1) (pf σ 12 11 0)
set_option maxHeartbeats 4000000 in
set_option maxRecDepth 20000 in
theorem s_K_attribute {L : Nat → Nat} (hL : ∀ r, L r < 2147483648) {d : Nat} (hd : 2 ≤ d) {a1 : Int} {a2 : Int} {a3 : Int} {a4 : Int} {Q : Int → IS → Prop} {σ : IS}  (h : w_K_attribute L a1 a2 a3 a4 Q σ) : OkI BF L d 12 b_K_attribute 6 1 0 [] [some (.inr 12), some (.inl a1), some (.inl a2), some (.inl a3), some (.inl a4)] σ (qi Q) := by
  unfold w_K_attribute at h
  obtain ⟨d, rfl⟩ : ∃ e, d = e + 1 := ⟨d - 1, by omega⟩
  refine k_sb (lv' := [some (.inr 12), some (.inl a1), some (.inl a2), some (.inl a3), some (.inl a4), none]) (sb_s (sb_s (sb_s (sb_s (sb_s (sb_e sb_nil)))))) ?_
  refine k_aload_n d_K_attribute_0 rfl ?_
  refine k_iconst d_K_attribute_1 cI_0 ?_
  refine k_putI d_K_attribute_2 fl_12_88 ob_12 rfl ?_
  refine k_aload_n d_K_attribute_5 rfl ?_
  refine k_iload_n d_K_attribute_6 rfl ?_
  refine k_cvi [.inl a1] d_K_attribute_7 ml_12_121 rfl rfl ob_12 rfl (s_K_isElement hL (by omega)  h) (fun v2 σ1 h => ?_)
  obtain ⟨pt27, h⟩ := h
  have hX24 : (¬ v2 = 0 ∧ (¬ a2 < 0 ∧ (a2 < (σ1.2 (rfo 14 6) (Int.toNat a1)) ∧ (¬ a3 < 0 ∧ (¬ 1 < a3))))) → OkI BF L (d + 1) 12 b_K_attribute 6 1 41 [] [some (.inr 12), some (.inl a1), some (.inl a2), some (.inl a3), some (.inl a4), none] σ1 (qi Q) := fun e26 => by
    have h := ipos e26 h
    refine k_aload_n d_K_attribute_41 rfl ?_
    refine k_getR d_K_attribute_42 fl_12_54 ob_12 rfl ?_
    refine k_getR d_K_attribute_45 fl_12_144 (doc_ob (by decide)) (dfr_5 (by decide)) ?_
    refine k_iload_n d_K_attribute_48 rfl ?_
    obtain ⟨p23, h⟩ := h
    refine k_ild (x := (σ1.2 (rfo 14 5) (Int.toNat a1))) d_K_attribute_49 (drI_5 (by decide)) p23 rfl ?_
    refine k_iload_n d_K_attribute_50 rfl ?_
    obtain ⟨p22, h⟩ := h
    refine k_iadd d_K_attribute_51 p22 ?_
    refine k_istore (lv' := [some (.inr 12), some (.inl a1), some (.inl a2), some (.inl a3), some (.inl a4), some (.inl ((σ1.2 (rfo 14 5) (Int.toNat a1)) + a2))]) d_K_attribute_52 rfl rfl ?_
    refine k_iload_n d_K_attribute_54 rfl ?_
    refine k_ifne d_K_attribute_55 rfl (fun c4 => ?_) (fun c4 => ?_)
    · have h := ineg c4 h
      refine k_iload d_K_attribute_75 rfl ?_
      obtain ⟨pt10, h⟩ := h
      have hV9 : OkI BF L (d + 1) 12 b_K_attribute 6 1 120 [.inl (if a4 < 0 then ((-1) : Int) else (if a4 < (σ1.2 (rfo 14 10) (Int.toNat ((σ1.2 (rfo 14 5) (Int.toNat a1)) + a2))) then (σ1.2 (rfo 14 1) (Int.toNat ((σ1.2 (rfo 14 9) (Int.toNat ((σ1.2 (rfo 14 5) (Int.toNat a1)) + a2))) + a4))) else ((-1) : Int)))] [some (.inr 12), some (.inl a1), some (.inl a2), some (.inl a3), some (.inl a4), some (.inl ((σ1.2 (rfo 14 5) (Int.toNat a1)) + a2))] σ1 (qi Q) := by
        exact k_iret d_K_attribute_120 (Or.inl rfl) h
      have pb11 := pt10
      refine k_iflt d_K_attribute_77 rfl (fun c12 => ?_) (fun c12 => ?_)
      · have hV13 := k_eqI (if_pos c12) hV9
        refine k_iconst d_K_attribute_119 cI_m1 ?_
        exact hV13
      · have pb11 := pb11 c12
        have hV14 := k_eqI (if_neg c12) hV9
        obtain ⟨p5, pa15⟩ := pb11
        refine k_iload d_K_attribute_80 rfl ?_
        refine k_aload_n d_K_attribute_82 rfl ?_
        refine k_getR d_K_attribute_83 fl_12_54 ob_12 rfl ?_
        refine k_getR d_K_attribute_86 fl_12_150 (doc_ob (by decide)) (dfr_10 (by decide)) ?_
        refine k_iload d_K_attribute_89 rfl ?_
        refine k_ild (x := (σ1.2 (rfo 14 10) (Int.toNat ((σ1.2 (rfo 14 5) (Int.toNat a1)) + a2)))) d_K_attribute_91 (drI_10 (by decide)) p5 rfl ?_
        refine k_icge d_K_attribute_92 rfl (fun c16 => ?_) (fun c16 => ?_)
        · have hV18 := k_eqI (if_neg c16) hV14
          refine k_iconst d_K_attribute_119 cI_m1 ?_
          exact hV18
        · have pa15 := pa15 c16
          have hV17 := k_eqI (if_pos c16) hV14
          obtain ⟨p6, p7, p8⟩ := pa15
          refine k_aload_n d_K_attribute_95 rfl ?_
          refine k_getR d_K_attribute_96 fl_12_54 ob_12 rfl ?_
          refine k_getR d_K_attribute_99 fl_12_153 (doc_ob (by decide)) (dfr_1 (by decide)) ?_
          refine k_aload_n d_K_attribute_102 rfl ?_
          refine k_getR d_K_attribute_103 fl_12_54 ob_12 rfl ?_
          refine k_getR d_K_attribute_106 fl_12_156 (doc_ob (by decide)) (dfr_9 (by decide)) ?_
          refine k_iload d_K_attribute_109 rfl ?_
          refine k_ild (x := (σ1.2 (rfo 14 9) (Int.toNat ((σ1.2 (rfo 14 5) (Int.toNat a1)) + a2)))) d_K_attribute_111 (drI_9 (by decide)) p6 rfl ?_
          refine k_iload d_K_attribute_112 rfl ?_
          refine k_iadd d_K_attribute_114 p7 ?_
          refine k_ild (x := (σ1.2 (rfo 14 1) (Int.toNat ((σ1.2 (rfo 14 9) (Int.toNat ((σ1.2 (rfo 14 5) (Int.toNat a1)) + a2))) + a4)))) d_K_attribute_115 (drI_1 (by decide)) p8 rfl ?_
          refine k_goto d_K_attribute_116 rfl ?_
          exact hV17
    · have h := ipos c4 h
      refine k_aload_n d_K_attribute_58 rfl ?_
      refine k_aload_n d_K_attribute_59 rfl ?_
      refine k_getR d_K_attribute_60 fl_12_54 ob_12 rfl ?_
      refine k_getR d_K_attribute_63 fl_12_147 (doc_ob (by decide)) (dfr_8 (by decide)) ?_
      refine k_iload d_K_attribute_66 rfl ?_
      obtain ⟨p21, h⟩ := h
      refine k_ild (x := (σ1.2 (rfo 14 8) (Int.toNat ((σ1.2 (rfo 14 5) (Int.toNat a1)) + a2)))) d_K_attribute_68 (drI_8 (by decide)) p21 rfl ?_
      refine k_iload d_K_attribute_69 rfl ?_
      refine k_cvi [.inl (σ1.2 (rfo 14 8) (Int.toNat ((σ1.2 (rfo 14 5) (Int.toNat a1)) + a2))), .inl a4] d_K_attribute_71 ml_12_141 rfl rfl ob_12 rfl (s_K_letterOf hL (by omega)  h) (fun v20 σ19 h => ?_)
      exact k_iret d_K_attribute_74 (Or.inl rfl) h
  have hY25 : ¬ (¬ v2 = 0 ∧ (¬ a2 < 0 ∧ (a2 < (σ1.2 (rfo 14 6) (Int.toNat a1)) ∧ (¬ a3 < 0 ∧ (¬ 1 < a3))))) → OkI BF L (d + 1) 12 b_K_attribute 6 1 39 [] [some (.inr 12), some (.inl a1), some (.inl a2), some (.inl a3), some (.inl a4), none] σ1 (qi Q) := fun e26 => by
    have h := ineg e26 h
    refine k_iconst d_K_attribute_39 cI_m1 ?_
    exact k_iret d_K_attribute_40 (Or.inl rfl) h
  have pb28 := pt27
  refine k_ifeq d_K_attribute_10 rfl (fun c29 => ?_) (fun c29 => ?_)
  · exact hY25 (fun z => z.1 c29)
  · have pb28 := pb28 c29
    have pb30 := pb28
    refine k_iload_n d_K_attribute_13 rfl ?_
    refine k_iflt d_K_attribute_14 rfl (fun c31 => ?_) (fun c31 => ?_)
    · exact hY25 (fun z => (fun z => z.1 c31) z.2)
    · have pb30 := pb30 c31
      have p3 := pb30
      refine k_iload_n d_K_attribute_17 rfl ?_
      refine k_aload_n d_K_attribute_18 rfl ?_
      refine k_getR d_K_attribute_19 fl_12_54 ob_12 rfl ?_
      refine k_getR d_K_attribute_22 fl_12_124 (doc_ob (by decide)) (dfr_6 (by decide)) ?_
      refine k_iload_n d_K_attribute_25 rfl ?_
      refine k_ild (x := (σ1.2 (rfo 14 6) (Int.toNat a1))) d_K_attribute_26 (drI_6 (by decide)) p3 rfl ?_
      refine k_icge d_K_attribute_27 rfl (fun c32 => ?_) (fun c32 => ?_)
      · exact hY25 (fun z => (fun z => (fun z => c32 z.1) z.2) z.2)
      · refine k_iload_n d_K_attribute_30 rfl ?_
        refine k_iflt d_K_attribute_31 rfl (fun c33 => ?_) (fun c33 => ?_)
        · exact hY25 (fun z => (fun z => (fun z => (fun z => z.1 c33) z.2) z.2) z.2)
        · refine k_iload_n d_K_attribute_34 rfl ?_
          refine k_iconst d_K_attribute_35 cI_1 ?_
          refine k_icle d_K_attribute_36 rfl (fun c34 => ?_) (fun c34 => ?_)
          · exact hX24 (⟨c29, ⟨c31, ⟨c32, ⟨c33, c34⟩⟩⟩⟩)
          · exact hY25 (fun z => (fun z => (fun z => (fun z => (fun z => z c34) z.2) z.2) z.2) z.2)
theorem d_K_attributes_13 : decode b_K_attributes 13 = .ok (.aload_n 0, 1) := by decide +kernel
theorem d_K_attributes_14 : decode b_K_attributes 14 = .ok (.getfield 54, 3) := by decide +kernel
theorem d_K_attributes_17 : decode b_K_attributes 17 = .ok (.getfield 124, 3) := by decide +kernel
theorem d_K_attributes_20 : decode b_K_attributes 20 = .ok (.iload_n 1, 1) := by decide +kernel
theorem d_K_attributes_21 : decode b_K_attributes 21 = .ok (.iaload, 1) := by decide +kernel
theorem d_K_attributes_22 : decode b_K_attributes 22 = .ok (.goto 4, 3) := by decide +kernel
/-- K_attributes -/
def w_K_attributes (L : Nat → Nat) (a1 : Int) (Q : Int → IS → Prop) (σ : IS) : Prop := w_K_isElement L a1 (fun v2 σ1 => ((¬ v2 = 0 → inL L (rfo 14 6) a1)) ∧ Q (if v2 = 0 then ((-1) : Int) else (σ1.2 (rfo 14 6) (Int.toNat a1))) σ1) (pf σ 12 11 0)
set_option maxHeartbeats 4000000 in
set_option maxRecDepth 20000 in
theorem s_K_attributes {L : Nat → Nat} (hL : ∀ r, L r < 2147483648) {d : Nat} (hd : 1 ≤ d) {a1 : Int} {Q : Int → IS → Prop} {σ : IS}  (h : w_K_attributes L a1 Q σ) : OkI BF L d 12 b_K_attributes 2 1 0 [] [some (.inr 12), some (.inl a1)] σ (qi Q) := by
  unfold w_K_attributes at h
  obtain ⟨d, rfl⟩ : ∃ e, d = e + 1 := ⟨d - 1, by omega⟩
  refine k_sb (lv' := [some (.inr 12), some (.inl a1)]) (sb_s (sb_s sb_nil)) ?_
  refine k_aload_n d_K_attributes_0 rfl ?_
  refine k_iconst d_K_attributes_1 cI_0 ?_
  refine k_putI d_K_attributes_2 fl_12_88 ob_12 rfl ?_
  refine k_aload_n d_K_attributes_5 rfl ?_
  refine k_iload_n d_K_attributes_6 rfl ?_
  refine k_cvi [.inl a1] d_K_attributes_7 ml_12_121 rfl rfl ob_12 rfl (s_K_isElement hL (by omega)  h) (fun v2 σ1 h => ?_)
  obtain ⟨pt5, h⟩ := h
  have hV4 : OkI BF L (d + 1) 12 b_K_attributes 2 1 26 [.inl (if v2 = 0 then ((-1) : Int) else (σ1.2 (rfo 14 6) (Int.toNat a1)))] [some (.inr 12), some (.inl a1)] σ1 (qi Q) := by
    exact k_iret d_K_attributes_26 (Or.inl rfl) h
  have pb6 := pt5
  refine k_ifeq d_K_attributes_10 rfl (fun c7 => ?_) (fun c7 => ?_)
  · have hV8 := k_eqI (if_pos c7) hV4
    refine k_iconst d_K_attributes_25 cI_m1 ?_
    exact hV8
  · have pb6 := pb6 c7
    have hV9 := k_eqI (if_neg c7) hV4
    have p3 := pb6
    refine k_aload_n d_K_attributes_13 rfl ?_
    refine k_getR d_K_attributes_14 fl_12_54 ob_12 rfl ?_
    refine k_getR d_K_attributes_17 fl_12_124 (doc_ob (by decide)) (dfr_6 (by decide)) ?_
    refine k_iload_n d_K_attributes_20 rfl ?_
    refine k_ild (x := (σ1.2 (rfo 14 6) (Int.toNat a1))) d_K_attributes_21 (drI_6 (by decide)) p3 rfl ?_
    refine k_goto d_K_attributes_22 rfl ?_
    exact hV9
theorem d_K_back_12 : decode b_K_back 12 = .ok (.aload_n 0, 1) := by decide +kernel
theorem d_K_back_13 : decode b_K_back 13 = .ok (.getfield 188, 3) := by decide +kernel
theorem d_K_back_16 : decode b_K_back 16 = .ok (.ldc 10, 2) := by decide +kernel
theorem d_K_back_18 : decode b_K_back 18 = .ok (.if_icmp .le 5, 3) := by decide +kernel
theorem d_K_back_23 : decode b_K_back 23 = .ok (.iconst 0, 1) := by decide +kernel
theorem d_K_back_24 : decode b_K_back 24 = .ok (.istore_n 1, 1) := by decide +kernel
theorem d_K_back_25 : decode b_K_back 25 = .ok (.iload_n 1, 1) := by decide +kernel
theorem d_K_back_26 : decode b_K_back 26 = .ok (.aload_n 0, 1) := by decide +kernel
theorem d_K_back_27 : decode b_K_back 27 = .ok (.getfield 188, 3) := by decide +kernel
theorem d_K_back_30 : decode b_K_back 30 = .ok (.if_icmp .ge 21, 3) := by decide +kernel
theorem d_K_back_33 : decode b_K_back 33 = .ok (.aload_n 0, 1) := by decide +kernel
theorem d_K_back_34 : decode b_K_back 34 = .ok (.getfield 26, 3) := by decide +kernel
theorem d_K_back_37 : decode b_K_back 37 = .ok (.iload_n 1, 1) := by decide +kernel
theorem d_K_back_38 : decode b_K_back 38 = .ok (.aload_n 0, 1) := by decide +kernel
theorem d_K_back_39 : decode b_K_back 39 = .ok (.getfield 65, 3) := by decide +kernel
theorem d_K_back_42 : decode b_K_back 42 = .ok (.iload_n 1, 1) := by decide +kernel
theorem d_K_back_43 : decode b_K_back 43 = .ok (.baload, 1) := by decide +kernel
theorem d_K_back_44 : decode b_K_back 44 = .ok (.bastore, 1) := by decide +kernel
theorem d_K_back_45 : decode b_K_back 45 = .ok (.iinc 1 1, 3) := by decide +kernel
theorem d_K_back_48 : decode b_K_back 48 = .ok (.goto (-23), 3) := by decide +kernel
theorem d_K_back_51 : decode b_K_back 51 = .ok (.aload_n 0, 1) := by decide +kernel
theorem d_K_back_52 : decode b_K_back 52 = .ok (.aload_n 0, 1) := by decide +kernel
theorem d_K_back_53 : decode b_K_back 53 = .ok (.getfield 188, 3) := by decide +kernel
theorem d_K_back_56 : decode b_K_back 56 = .ok (.putfield 91, 3) := by decide +kernel
theorem d_K_back_59 : decode b_K_back 59 = .ok (.aload_n 0, 1) := by decide +kernel
theorem d_K_back_60 : decode b_K_back 60 = .ok (.getfield 188, 3) := by decide +kernel
theorem d_K_back_63 : decode b_K_back 63 = .ok (.ireturn, 1) := by decide +kernel
/-- K_back -/
def w_K_back (L : Nat → Nat)  (Q : Int → IS → Prop) (σ : IS) : Prop := if ¬ (σ.1 12 9) = 0 ∧ (¬ 65536 < (σ.1 12 9)) then WL (fun (K1 : Int → IS → Prop) (s3 : Int) (σ4 : IS) => if s3 < (σ4.1 12 9) then inL L 244 s3 ∧ inL L 165 s3 ∧ inB (σ4.2 244 (Int.toNat s3)) ∧ inR (s3 + 1) ∧ K1 (s3 + 1) (pr σ4 165 (Int.toNat s3) (σ4.2 244 (Int.toNat s3))) else Q (σ4.1 12 9) (pf σ4 12 3 (σ4.1 12 9))) 0 (pf σ 12 11 0) else Q (-1) (pf σ 12 11 0)
set_option maxHeartbeats 4000000 in
set_option maxRecDepth 20000 in
theorem s_K_back {L : Nat → Nat} (hL : ∀ r, L r < 2147483648) {d : Nat} (hd : 0 ≤ d)  {Q : Int → IS → Prop} {σ : IS}  (h : w_K_back L  Q σ) : OkI BF L d 12 b_K_back 2 1 0 [] [some (.inr 12)] σ (qi Q) := by
  unfold w_K_back at h
  refine k_sb (lv' := [some (.inr 12), none]) (sb_s (sb_e sb_nil)) ?_
  refine k_aload_n d_K_back_0 rfl ?_
  refine k_iconst d_K_back_1 cI_0 ?_
  refine k_putI d_K_back_2 fl_12_88 ob_12 rfl ?_
  refine k_aload_n d_K_back_5 rfl ?_
  refine k_getI (x := (σ.1 12 9)) d_K_back_6 fl_12_188 ob_12 rfl rfl ?_
  have hX10 : (¬ (σ.1 12 9) = 0 ∧ (¬ 65536 < (σ.1 12 9))) → OkI BF L d 12 b_K_back 2 1 23 [] [some (.inr 12), none] (pf σ 12 11 0) (qi Q) := fun e12 => by
    have h := ipos e12 h
    refine k_iconst d_K_back_23 cI_0 ?_
    refine k_istore_n (lv' := [some (.inr 12), some (.inl 0)]) d_K_back_24 rfl rfl ?_
    refine k_sb (lv' := [some (.inr 12), some (.inl 0)]) (sb_s (sb_s sb_nil)) ?_
    refine k_loop (S := Int) (st := fun _ => []) (lv := fun s3 => [some (.inr 12), some (.inl s3)]) (fun K1 hK2 s3 σ4 h => ?_) 0 _ h
    refine k_iload_n d_K_back_25 rfl ?_
    refine k_aload_n d_K_back_26 rfl ?_
    refine k_getI (x := (σ4.1 12 9)) d_K_back_27 fl_12_188 ob_12 rfl rfl ?_
    refine k_icge d_K_back_30 rfl (fun c5 => ?_) (fun c5 => ?_)
    · have h := ineg c5 h
      refine k_aload_n d_K_back_51 rfl ?_
      refine k_aload_n d_K_back_52 rfl ?_
      refine k_getI (x := (σ4.1 12 9)) d_K_back_53 fl_12_188 ob_12 rfl rfl ?_
      refine k_putI d_K_back_56 fl_12_91 ob_12 rfl ?_
      refine k_aload_n d_K_back_59 rfl ?_
      refine k_getI (x := (σ4.1 12 9)) d_K_back_60 fl_12_188 ob_12 rfl rfl ?_
      exact k_iret d_K_back_63 (Or.inl rfl) h
    · have h := ipos c5 h
      refine k_aload_n d_K_back_33 rfl ?_
      refine k_getR d_K_back_34 fl_12_26 ob_12 rfl ?_
      refine k_iload_n d_K_back_37 rfl ?_
      refine k_aload_n d_K_back_38 rfl ?_
      refine k_getR d_K_back_39 fl_12_65 ob_12 rfl ?_
      refine k_iload_n d_K_back_42 rfl ?_
      obtain ⟨p9, h⟩ := h
      refine k_bld (x := (σ4.2 244 (Int.toNat s3))) d_K_back_43 rB_244 p9 rfl ?_
      obtain ⟨p7, h⟩ := h
      obtain ⟨p8, h⟩ := h
      refine k_bst d_K_back_44 rb_165 p7 p8 ?_
      obtain ⟨p6, h⟩ := h
      refine k_iinc (lv' := [some (.inr 12), some (.inl (s3 + 1))]) d_K_back_45 cI_1 rfl rfl p6 rfl ?_
      refine k_goto d_K_back_48 rfl ?_
      exact k_sb (sb_s (sb_s sb_nil)) (hK2 (s3 + 1) _ h)
  have hY11 : ¬ (¬ (σ.1 12 9) = 0 ∧ (¬ 65536 < (σ.1 12 9))) → OkI BF L d 12 b_K_back 2 1 21 [] [some (.inr 12), none] (pf σ 12 11 0) (qi Q) := fun e12 => by
    have h := ineg e12 h
    refine k_iconst d_K_back_21 cI_m1 ?_
    exact k_iret d_K_back_22 (Or.inl rfl) h
  refine k_ifeq d_K_back_9 rfl (fun c13 => ?_) (fun c13 => ?_)
  · exact hY11 (fun z => z.1 c13)
  · refine k_aload_n d_K_back_12 rfl ?_
    refine k_getI (x := (σ.1 12 9)) d_K_back_13 fl_12_188 ob_12 rfl rfl ?_
    refine k_ldc d_K_back_16 ks_12_10 cL_65536 ?_
    refine k_icle d_K_back_18 rfl (fun c14 => ?_) (fun c14 => ?_)
    · exact hX10 (⟨c13, c14⟩)
    · exact hY11 (fun z => (fun z => z c14) z.2)
theorem d_KBook_says_0 : decode b_KBook_says 0 = .ok (.aload_n 0, 1) := by decide +kernel
theorem d_KBook_says_1 : decode b_KBook_says 1 = .ok (.getfield 21, 3) := by decide +kernel
theorem d_KBook_says_4 : decode b_KBook_says 4 = .ok (.iload_n 1, 1) := by decide +kernel
theorem d_KBook_says_5 : decode b_KBook_says 5 = .ok (.iaload, 1) := by decide +kernel
theorem d_KBook_says_6 : decode b_KBook_says 6 = .ok (.aload_n 2, 1) := by decide +kernel
theorem d_KBook_says_7 : decode b_KBook_says 7 = .ok (.invokevirtual 48, 3) := by decide +kernel
theorem d_KBook_says_10 : decode b_KBook_says 10 = .ok (.if_icmp .eq 5, 3) := by decide +kernel
theorem d_KBook_says_13 : decode b_KBook_says 13 = .ok (.iconst 0, 1) := by decide +kernel
theorem d_KBook_says_14 : decode b_KBook_says 14 = .ok (.ireturn, 1) := by decide +kernel
theorem d_KBook_says_15 : decode b_KBook_says 15 = .ok (.iconst 0, 1) := by decide +kernel
theorem d_KBook_says_16 : decode b_KBook_says 16 = .ok (.istore_n 3, 1) := by decide +kernel
theorem d_KBook_says_17 : decode b_KBook_says 17 = .ok (.iload_n 3, 1) := by decide +kernel
theorem d_KBook_says_18 : decode b_KBook_says 18 = .ok (.aload_n 0, 1) := by decide +kernel
theorem d_KBook_says_19 : decode b_KBook_says 19 = .ok (.getfield 21, 3) := by decide +kernel
theorem d_KBook_says_22 : decode b_KBook_says 22 = .ok (.iload_n 1, 1) := by decide +kernel
theorem d_KBook_says_23 : decode b_KBook_says 23 = .ok (.iaload, 1) := by decide +kernel
theorem d_KBook_says_24 : decode b_KBook_says 24 = .ok (.if_icmp .ge 23, 3) := by decide +kernel
theorem d_KBook_says_27 : decode b_KBook_says 27 = .ok (.aload_n 0, 1) := by decide +kernel
theorem d_KBook_says_28 : decode b_KBook_says 28 = .ok (.iload_n 1, 1) := by decide +kernel
theorem d_KBook_says_29 : decode b_KBook_says 29 = .ok (.iload_n 3, 1) := by decide +kernel
theorem d_KBook_says_30 : decode b_KBook_says 30 = .ok (.invokevirtual 54, 3) := by decide +kernel
theorem d_KBook_says_33 : decode b_KBook_says 33 = .ok (.aload_n 2, 1) := by decide +kernel
theorem d_KBook_says_34 : decode b_KBook_says 34 = .ok (.iload_n 3, 1) := by decide +kernel
theorem d_KBook_says_35 : decode b_KBook_says 35 = .ok (.invokevirtual 58, 3) := by decide +kernel
theorem d_KBook_says_38 : decode b_KBook_says 38 = .ok (.if_icmp .ne 9, 3) := by decide +kernel
theorem d_KBook_says_41 : decode b_KBook_says 41 = .ok (.iinc 3 1, 3) := by decide +kernel
theorem d_KBook_says_44 : decode b_KBook_says 44 = .ok (.goto (-27), 3) := by decide +kernel
theorem d_KBook_says_47 : decode b_KBook_says 47 = .ok (.iload_n 3, 1) := by decide +kernel
theorem d_KBook_says_48 : decode b_KBook_says 48 = .ok (.aload_n 0, 1) := by decide +kernel
theorem d_KBook_says_49 : decode b_KBook_says 49 = .ok (.getfield 21, 3) := by decide +kernel
theorem d_KBook_says_52 : decode b_KBook_says 52 = .ok (.iload_n 1, 1) := by decide +kernel
theorem d_KBook_says_53 : decode b_KBook_says 53 = .ok (.iaload, 1) := by decide +kernel
theorem d_KBook_says_54 : decode b_KBook_says 54 = .ok (.if_icmp .ne 7, 3) := by decide +kernel
theorem d_KBook_says_57 : decode b_KBook_says 57 = .ok (.iconst 1, 1) := by decide +kernel
theorem d_KBook_says_58 : decode b_KBook_says 58 = .ok (.goto 4, 3) := by decide +kernel
theorem d_KBook_says_61 : decode b_KBook_says 61 = .ok (.iconst 0, 1) := by decide +kernel
theorem d_KBook_says_62 : decode b_KBook_says 62 = .ok (.ireturn, 1) := by decide +kernel
/-- KBook_says -/
def w_KBook_says (L : Nat → Nat) (a1 : Int) (a2 : Nat) (Q : Int → IS → Prop) (σ : IS) : Prop := inL L 214 a1 ∧ if (σ.2 214 (Int.toNat a1)) = (tN a2) then WL (fun (K2 : Int → IS → Prop) (s4 : Int) (σ5 : IS) => inL L 214 a1 ∧ WJ (fun (s8 : Unit) (σ9 : IS) => inL L 214 a1 ∧ Q (if s4 = (σ9.2 214 (Int.toNat a1)) then (1 : Int) else (0 : Int)) σ9) (fun J6 => if s4 < (σ5.2 214 (Int.toNat a1)) then w_KBook_at L a1 s4 (fun v17 σ16 => ((0 : Int) ≤ s4 ∧ s4 < tN a2) ∧ if v17 = (tC a2 s4) then inR (s4 + 1) ∧ K2 (s4 + 1) σ16 else J6 () σ16) σ5 else J6 () σ5)) 0 σ else Q 0 σ
set_option maxHeartbeats 4000000 in
set_option maxRecDepth 20000 in
theorem s_KBook_says {L : Nat → Nat} (hL : ∀ r, L r < 2147483648) {d : Nat} (hd : 1 ≤ d) {a1 : Int} {a2 : Nat} {Q : Int → IS → Prop} {σ : IS} (ha2 : isT a2) (h : w_KBook_says L a1 a2 Q σ) : OkI BF L d 13 b_KBook_says 4 2 0 [] [some (.inr 13), some (.inl a1), some (.inr a2)] σ (qi Q) := by
  unfold w_KBook_says at h
  obtain ⟨d, rfl⟩ : ∃ e, d = e + 1 := ⟨d - 1, by omega⟩
  refine k_sb (lv' := [some (.inr 13), some (.inl a1), some (.inr a2), none]) (sb_s (sb_s (sb_s (sb_e sb_nil)))) ?_
  refine k_aload_n d_KBook_says_0 rfl ?_
  refine k_getR d_KBook_says_1 fl_13_21 ob_13 rfl ?_
  refine k_iload_n d_KBook_says_4 rfl ?_
  obtain ⟨p22, h⟩ := h
  refine k_ild (x := (σ.2 214 (Int.toNat a1))) d_KBook_says_5 rI_214 p22 rfl ?_
  refine k_aload_n d_KBook_says_6 rfl ?_
  refine k_tlen d_KBook_says_7 ml_13_48 ha2 rfl ?_
  refine k_iceq d_KBook_says_10 rfl (fun c1 => ?_) (fun c1 => ?_)
  · have h := ipos c1 h
    refine k_iconst d_KBook_says_15 cI_0 ?_
    refine k_istore_n (lv' := [some (.inr 13), some (.inl a1), some (.inr a2), some (.inl 0)]) d_KBook_says_16 rfl rfl ?_
    refine k_sb (lv' := [some (.inr 13), some (.inl a1), some (.inr a2), some (.inl 0)]) (sb_s (sb_s (sb_s (sb_s sb_nil)))) ?_
    refine k_loop (S := Int) (st := fun _ => []) (lv := fun s4 => [some (.inr 13), some (.inl a1), some (.inr a2), some (.inl s4)]) (fun K2 hK3 s4 σ5 h => ?_) 0 _ h
    refine k_iload_n d_KBook_says_17 rfl ?_
    refine k_aload_n d_KBook_says_18 rfl ?_
    refine k_getR d_KBook_says_19 fl_13_21 ob_13 rfl ?_
    refine k_iload_n d_KBook_says_22 rfl ?_
    obtain ⟨p21, h⟩ := h
    refine k_ild (x := (σ5.2 214 (Int.toNat a1))) d_KBook_says_23 rI_214 p21 rfl ?_
    refine k_join (S := Unit) (pc' := 47) (st' := fun s8 => []) (lv' := fun s8 => [some (.inr 13), some (.inl a1), none, some (.inl s4)]) (fun s8 σ9 h => ?_) (fun J6 hJ7 h => ?_) h
    · refine k_iload_n d_KBook_says_47 rfl ?_
      refine k_aload_n d_KBook_says_48 rfl ?_
      refine k_getR d_KBook_says_49 fl_13_21 ob_13 rfl ?_
      refine k_iload_n d_KBook_says_52 rfl ?_
      obtain ⟨p14, h⟩ := h
      refine k_ild (x := (σ9.2 214 (Int.toNat a1))) d_KBook_says_53 rI_214 p14 rfl ?_
      have hV10 : OkI BF L (d + 1) 13 b_KBook_says 4 2 62 [.inl (if s4 = (σ9.2 214 (Int.toNat a1)) then (1 : Int) else (0 : Int))] [some (.inr 13), some (.inl a1), none, some (.inl s4)] σ9 (qi Q) := by
        exact k_iret d_KBook_says_62 (Or.inr ⟨rfl, it01 (Or.inr rfl) (Or.inl rfl)⟩) h
      refine k_icne d_KBook_says_54 rfl (fun c11 => ?_) (fun c11 => ?_)
      · have hV13 := k_eqI (if_neg c11) hV10
        refine k_iconst d_KBook_says_61 cI_0 ?_
        exact hV13
      · have hV12 := k_eqI (if_pos c11) hV10
        refine k_iconst d_KBook_says_57 cI_1 ?_
        refine k_goto d_KBook_says_58 rfl ?_
        exact hV12
    · refine k_icge d_KBook_says_24 rfl (fun c15 => ?_) (fun c15 => ?_)
      · have h := ineg c15 h
        exact k_sb (sb_s (sb_s (sb_n (sb_s sb_nil)))) (hJ7 () _ h)
      · have h := ipos c15 h
        refine k_aload_n d_KBook_says_27 rfl ?_
        refine k_iload_n d_KBook_says_28 rfl ?_
        refine k_iload_n d_KBook_says_29 rfl ?_
        refine k_cvi [.inl a1, .inl s4] d_KBook_says_30 ml_13_54 rfl rfl ob_13 rfl (s_KBook_at hL (by omega)  h) (fun v17 σ16 h => ?_)
        refine k_aload_n d_KBook_says_33 rfl ?_
        refine k_iload_n d_KBook_says_34 rfl ?_
        obtain ⟨p20, h⟩ := h
        refine k_tchr d_KBook_says_35 ml_13_58 ha2 p20 rfl ?_
        refine k_icne d_KBook_says_38 rfl (fun c18 => ?_) (fun c18 => ?_)
        · have h := ineg c18 h
          exact k_sb (sb_s (sb_s (sb_n (sb_s sb_nil)))) (hJ7 () _ h)
        · have h := ipos c18 h
          obtain ⟨p19, h⟩ := h
          refine k_iinc (lv' := [some (.inr 13), some (.inl a1), some (.inr a2), some (.inl (s4 + 1))]) d_KBook_says_41 cI_1 rfl rfl p19 rfl ?_
          refine k_goto d_KBook_says_44 rfl ?_
          exact k_sb (sb_s (sb_s (sb_s (sb_s sb_nil)))) (hK3 (s4 + 1) _ h)
  · have h := ineg c1 h
    refine k_iconst d_KBook_says_13 cI_0 ?_
    exact k_iret d_KBook_says_14 (Or.inr ⟨rfl, Or.inl rfl⟩) h
theorem d_KDoc_isDeclaration_0 : decode b_KDoc_isDeclaration 0 = .ok (.aload_n 0, 1) := by decide +kernel
theorem d_KDoc_isDeclaration_1 : decode b_KDoc_isDeclaration 1 = .ok (.getfield 58, 3) := by decide +kernel
theorem d_KDoc_isDeclaration_4 : decode b_KDoc_isDeclaration 4 = .ok (.iload_n 1, 1) := by decide +kernel
theorem d_KDoc_isDeclaration_5 : decode b_KDoc_isDeclaration 5 = .ok (.iaload, 1) := by decide +kernel
theorem d_KDoc_isDeclaration_6 : decode b_KDoc_isDeclaration 6 = .ok (.istore_n 2, 1) := by decide +kernel
theorem d_KDoc_isDeclaration_7 : decode b_KDoc_isDeclaration 7 = .ok (.aload_n 0, 1) := by decide +kernel
theorem d_KDoc_isDeclaration_8 : decode b_KDoc_isDeclaration 8 = .ok (.getfield 34, 3) := by decide +kernel
theorem d_KDoc_isDeclaration_11 : decode b_KDoc_isDeclaration 11 = .ok (.iload_n 2, 1) := by decide +kernel
theorem d_KDoc_isDeclaration_12 : decode b_KDoc_isDeclaration 12 = .ok (.ifCond .lt 7, 3) := by decide +kernel
theorem d_KDoc_isDeclaration_15 : decode b_KDoc_isDeclaration 15 = .ok (.iload_n 2, 1) := by decide +kernel
theorem d_KDoc_isDeclaration_16 : decode b_KDoc_isDeclaration 16 = .ok (.goto 9, 3) := by decide +kernel
theorem d_KDoc_isDeclaration_19 : decode b_KDoc_isDeclaration 19 = .ok (.aload_n 0, 1) := by decide +kernel
theorem d_KDoc_isDeclaration_20 : decode b_KDoc_isDeclaration 20 = .ok (.getfield 45, 3) := by decide +kernel
theorem d_KDoc_isDeclaration_23 : decode b_KDoc_isDeclaration 23 = .ok (.iload_n 1, 1) := by decide +kernel
theorem d_KDoc_isDeclaration_24 : decode b_KDoc_isDeclaration 24 = .ok (.iaload, 1) := by decide +kernel
theorem d_KDoc_isDeclaration_25 : decode b_KDoc_isDeclaration 25 = .ok (.ldc 125, 2) := by decide +kernel
theorem d_KDoc_isDeclaration_27 : decode b_KDoc_isDeclaration 27 = .ok (.invokevirtual 127, 3) := by decide +kernel
theorem d_KDoc_isDeclaration_30 : decode b_KDoc_isDeclaration 30 = .ok (.ireturn, 1) := by decide +kernel
/-- KDoc_isDeclaration -/
def w_KDoc_isDeclaration (L : Nat → Nat) (o : Nat) (a1 : Int) (Q : Int → IS → Prop) (σ : IS) : Prop := inL L (rfo o 12) a1 ∧ (((σ.2 (rfo o 12) (Int.toNat a1)) < 0 → inL L (rfo o 8) a1)) ∧ w_KBook_says L (if (σ.2 (rfo o 12) (Int.toNat a1)) < 0 then (σ.2 (rfo o 8) (Int.toNat a1)) else (σ.2 (rfo o 12) (Int.toNat a1))) 1096 (fun v3 σ2 => is01 v3 ∧ Q v3 σ2) σ
set_option maxHeartbeats 4000000 in
set_option maxRecDepth 20000 in
theorem s_KDoc_isDeclaration {L : Nat → Nat} (hL : ∀ r, L r < 2147483648) {d : Nat} (hd : 2 ≤ d) {o : Nat} {a1 : Int} {Q : Int → IS → Prop} {σ : IS} (ho : isDoc o) (h : w_KDoc_isDeclaration L o a1 Q σ) : OkI BF L d 14 b_KDoc_isDeclaration 3 2 0 [] [some (.inr o), some (.inl a1)] σ (qi Q) := by
  unfold w_KDoc_isDeclaration at h
  obtain ⟨d, rfl⟩ : ∃ e, d = e + 1 := ⟨d - 1, by omega⟩
  refine k_sb (lv' := [some (.inr o), some (.inl a1), none]) (sb_s (sb_s (sb_e sb_nil))) ?_
  refine k_aload_n d_KDoc_isDeclaration_0 rfl ?_
  refine k_getR d_KDoc_isDeclaration_1 fl_14_58 (doc_ob ho) (dfr_12 ho) ?_
  refine k_iload_n d_KDoc_isDeclaration_4 rfl ?_
  obtain ⟨p11, h⟩ := h
  refine k_ild (x := (σ.2 (rfo o 12) (Int.toNat a1))) d_KDoc_isDeclaration_5 (drI_12 ho) p11 rfl ?_
  refine k_istore_n (lv' := [some (.inr o), some (.inl a1), some (.inl (σ.2 (rfo o 12) (Int.toNat a1)))]) d_KDoc_isDeclaration_6 rfl rfl ?_
  refine k_aload_n d_KDoc_isDeclaration_7 rfl ?_
  refine k_getR d_KDoc_isDeclaration_8 fl_14_34 (doc_ob ho) (dfr_0 ho) ?_
  refine k_iload_n d_KDoc_isDeclaration_11 rfl ?_
  obtain ⟨pt6, h⟩ := h
  have hV5 : OkI BF L (d + 1) 14 b_KDoc_isDeclaration 3 2 25 [.inl (if (σ.2 (rfo o 12) (Int.toNat a1)) < 0 then (σ.2 (rfo o 8) (Int.toNat a1)) else (σ.2 (rfo o 12) (Int.toNat a1))), .inr 13] [some (.inr o), some (.inl a1), some (.inl (σ.2 (rfo o 12) (Int.toNat a1)))] σ (qi Q) := by
    refine k_ldc d_KDoc_isDeclaration_25 ks_14_125 rfl ?_
    refine k_cvi [.inl (if (σ.2 (rfo o 12) (Int.toNat a1)) < 0 then (σ.2 (rfo o 8) (Int.toNat a1)) else (σ.2 (rfo o 12) (Int.toNat a1))), .inr 1096] d_KDoc_isDeclaration_27 ml_14_127 rfl rfl ob_13 rfl (s_KBook_says hL (by omega) it_1096 h) (fun v3 σ2 h => ?_)
    obtain ⟨p4, h⟩ := h
    exact k_iret d_KDoc_isDeclaration_30 (Or.inr ⟨rfl, p4⟩) h
  have pa7 := pt6
  refine k_iflt d_KDoc_isDeclaration_12 rfl (fun c8 => ?_) (fun c8 => ?_)
  · have pa7 := pa7 c8
    have hV9 := k_eqI (if_pos c8) hV5
    have p1 := pa7
    refine k_aload_n d_KDoc_isDeclaration_19 rfl ?_
    refine k_getR d_KDoc_isDeclaration_20 fl_14_45 (doc_ob ho) (dfr_8 ho) ?_
    refine k_iload_n d_KDoc_isDeclaration_23 rfl ?_
    refine k_ild (x := (σ.2 (rfo o 8) (Int.toNat a1))) d_KDoc_isDeclaration_24 (drI_8 ho) p1 rfl ?_
    exact hV9
  · have hV10 := k_eqI (if_neg c8) hV5
    refine k_iload_n d_KDoc_isDeclaration_15 rfl ?_
    refine k_goto d_KDoc_isDeclaration_16 rfl ?_
    exact hV10
theorem d_K_isIn_0 : decode b_K_isIn 0 = .ok (.iload_n 0, 1) := by decide +kernel
theorem d_K_isIn_1 : decode b_K_isIn 1 = .ok (.iload_n 1, 1) := by decide +kernel
theorem d_K_isIn_2 : decode b_K_isIn 2 = .ok (.if_icmp .lt 12, 3) := by decide +kernel
theorem d_K_isIn_5 : decode b_K_isIn 5 = .ok (.iload_n 0, 1) := by decide +kernel
theorem d_K_isIn_6 : decode b_K_isIn 6 = .ok (.iload_n 2, 1) := by decide +kernel
theorem d_K_isIn_7 : decode b_K_isIn 7 = .ok (.if_icmp .gt 7, 3) := by decide +kernel
theorem d_K_isIn_10 : decode b_K_isIn 10 = .ok (.iconst 1, 1) := by decide +kernel
theorem d_K_isIn_11 : decode b_K_isIn 11 = .ok (.goto 4, 3) := by decide +kernel
theorem d_K_isIn_14 : decode b_K_isIn 14 = .ok (.iconst 0, 1) := by decide +kernel
theorem d_K_isIn_15 : decode b_K_isIn 15 = .ok (.ireturn, 1) := by decide +kernel
/-- K_isIn -/
def w_K_isIn (L : Nat → Nat) (a0 : Int) (a1 : Int) (a2 : Int) (Q : Int → IS → Prop) (σ : IS) : Prop := Q (if a0 < a1 then (0 : Int) else (if a2 < a0 then (0 : Int) else (1 : Int))) σ
set_option maxHeartbeats 4000000 in
set_option maxRecDepth 20000 in
theorem s_K_isIn {L : Nat → Nat} (hL : ∀ r, L r < 2147483648) {d : Nat} (hd : 0 ≤ d) {a0 : Int} {a1 : Int} {a2 : Int} {Q : Int → IS → Prop} {σ : IS}  (h : w_K_isIn L a0 a1 a2 Q σ) : OkI BF L d 12 b_K_isIn 3 2 0 [] [some (.inl a0), some (.inl a1), some (.inl a2)] σ (qi Q) := by
  unfold w_K_isIn at h
  refine k_sb (lv' := [some (.inl a0), some (.inl a1), some (.inl a2)]) (sb_s (sb_s (sb_s sb_nil))) ?_
  refine k_iload_n d_K_isIn_0 rfl ?_
  refine k_iload_n d_K_isIn_1 rfl ?_
  have hV1 : OkI BF L d 12 b_K_isIn 3 2 15 [.inl (if a0 < a1 then (0 : Int) else (if a2 < a0 then (0 : Int) else (1 : Int)))] [some (.inl a0), some (.inl a1), some (.inl a2)] σ (qi Q) := by
    exact k_iret d_K_isIn_15 (Or.inr ⟨rfl, it01 (Or.inl rfl) (it01 (Or.inl rfl) (Or.inr rfl))⟩) h
  refine k_iclt d_K_isIn_2 rfl (fun c2 => ?_) (fun c2 => ?_)
  · have hV3 := k_eqI (if_pos c2) hV1
    refine k_iconst d_K_isIn_14 cI_0 ?_
    exact hV3
  · have hV4 := k_eqI (if_neg c2) hV1
    refine k_iload_n d_K_isIn_5 rfl ?_
    refine k_iload_n d_K_isIn_6 rfl ?_
    refine k_icgt d_K_isIn_7 rfl (fun c5 => ?_) (fun c5 => ?_)
    · have hV6 := k_eqI (if_pos c5) hV4
      refine k_iconst d_K_isIn_14 cI_0 ?_
      exact hV6
    · have hV7 := k_eqI (if_neg c5) hV4
      refine k_iconst d_K_isIn_10 cI_1 ?_
      refine k_goto d_K_isIn_11 rfl ?_
      exact hV7
theorem d_K_isLetter_0 : decode b_K_isLetter 0 = .ok (.iload_n 0, 1) := by decide +kernel
theorem d_K_isLetter_1 : decode b_K_isLetter 1 = .ok (.bipush 65, 2) := by decide +kernel
theorem d_K_isLetter_3 : decode b_K_isLetter 3 = .ok (.bipush 90, 2) := by decide +kernel
theorem d_K_isLetter_5 : decode b_K_isLetter 5 = .ok (.invokestatic 2, 3) := by decide +kernel
theorem d_K_isLetter_8 : decode b_K_isLetter 8 = .ok (.ifCond .ne 14, 3) := by decide +kernel
theorem d_K_isLetter_11 : decode b_K_isLetter 11 = .ok (.iload_n 0, 1) := by decide +kernel
theorem d_K_isLetter_12 : decode b_K_isLetter 12 = .ok (.bipush 97, 2) := by decide +kernel
theorem d_K_isLetter_14 : decode b_K_isLetter 14 = .ok (.bipush 122, 2) := by decide +kernel
theorem d_K_isLetter_16 : decode b_K_isLetter 16 = .ok (.invokestatic 2, 3) := by decide +kernel
theorem d_K_isLetter_19 : decode b_K_isLetter 19 = .ok (.ifCond .eq 7, 3) := by decide +kernel
theorem d_K_isLetter_22 : decode b_K_isLetter 22 = .ok (.iconst 1, 1) := by decide +kernel
theorem d_K_isLetter_23 : decode b_K_isLetter 23 = .ok (.goto 4, 3) := by decide +kernel
theorem d_K_isLetter_26 : decode b_K_isLetter 26 = .ok (.iconst 0, 1) := by decide +kernel
theorem d_K_isLetter_27 : decode b_K_isLetter 27 = .ok (.ireturn, 1) := by decide +kernel
/-- K_isLetter -/
def w_K_isLetter (L : Nat → Nat) (a0 : Int) (Q : Int → IS → Prop) (σ : IS) : Prop := w_K_isIn L a0 65 90 (fun v2 σ1 => WJ (fun (s5 : Int) (σ6 : IS) => is01 s5 ∧ Q s5 σ6) (fun J3 => WJ (fun (s10 : Unit) (σ11 : IS) => J3 1 σ11) (fun J8 => if v2 = 0 then w_K_isIn L a0 97 122 (fun v14 σ13 => if v14 = 0 then J3 0 σ13 else J8 () σ13) σ1 else J8 () σ1))) σ
set_option maxHeartbeats 4000000 in
set_option maxRecDepth 20000 in
theorem s_K_isLetter {L : Nat → Nat} (hL : ∀ r, L r < 2147483648) {d : Nat} (hd : 1 ≤ d) {a0 : Int} {Q : Int → IS → Prop} {σ : IS}  (h : w_K_isLetter L a0 Q σ) : OkI BF L d 12 b_K_isLetter 1 2 0 [] [some (.inl a0)] σ (qi Q) := by
  unfold w_K_isLetter at h
  obtain ⟨d, rfl⟩ : ∃ e, d = e + 1 := ⟨d - 1, by omega⟩
  refine k_sb (lv' := [some (.inl a0)]) (sb_s sb_nil) ?_
  refine k_iload_n d_K_isLetter_0 rfl ?_
  refine k_bipush d_K_isLetter_1 cB_65 ?_
  refine k_bipush d_K_isLetter_3 cB_90 ?_
  refine k_csi [.inl a0, .inl 65, .inl 90] d_K_isLetter_5 ml_12_2 (Or.inl rfl) rfl rfl rfl (s_K_isIn hL (by omega)  h) (fun v2 σ1 h => ?_)
  refine k_join (S := Int) (pc' := 27) (st' := fun s5 => [.inl s5]) (lv' := fun s5 => [none]) (fun s5 σ6 h => ?_) (fun J3 hJ4 h => ?_) h
  · obtain ⟨p7, h⟩ := h
    exact k_iret d_K_isLetter_27 (Or.inr ⟨rfl, p7⟩) h
  · refine k_join (S := Unit) (pc' := 22) (st' := fun s10 => []) (lv' := fun s10 => [none]) (fun s10 σ11 h => ?_) (fun J8 hJ9 h => ?_) h
    · refine k_iconst d_K_isLetter_22 cI_1 ?_
      refine k_goto d_K_isLetter_23 rfl ?_
      exact k_sb (sb_s sb_nil) (hJ4 1 _ h)
    · refine k_ifne d_K_isLetter_8 rfl (fun c12 => ?_) (fun c12 => ?_)
      · have h := ineg c12 h
        exact k_sb (sb_n sb_nil) (hJ9 () _ h)
      · have h := ipos c12 h
        refine k_iload_n d_K_isLetter_11 rfl ?_
        refine k_bipush d_K_isLetter_12 cB_97 ?_
        refine k_bipush d_K_isLetter_14 cB_122 ?_
        refine k_csi [.inl a0, .inl 97, .inl 122] d_K_isLetter_16 ml_12_2 (Or.inl rfl) rfl rfl rfl (s_K_isIn hL (by omega)  h) (fun v14 σ13 h => ?_)
        refine k_ifeq d_K_isLetter_19 rfl (fun c15 => ?_) (fun c15 => ?_)
        · have h := ipos c15 h
          refine k_iconst d_K_isLetter_26 cI_0 ?_
          exact k_sb (sb_n sb_nil) (hJ4 0 _ h)
        · have h := ineg c15 h
          exact k_sb (sb_n sb_nil) (hJ9 () _ h)
theorem d_K_isDigit_0 : decode b_K_isDigit 0 = .ok (.iload_n 0, 1) := by decide +kernel
theorem d_K_isDigit_1 : decode b_K_isDigit 1 = .ok (.bipush 48, 2) := by decide +kernel
theorem d_K_isDigit_3 : decode b_K_isDigit 3 = .ok (.bipush 57, 2) := by decide +kernel
theorem d_K_isDigit_5 : decode b_K_isDigit 5 = .ok (.invokestatic 2, 3) := by decide +kernel
theorem d_K_isDigit_8 : decode b_K_isDigit 8 = .ok (.ireturn, 1) := by decide +kernel
/-- K_isDigit -/
def w_K_isDigit (L : Nat → Nat) (a0 : Int) (Q : Int → IS → Prop) (σ : IS) : Prop := w_K_isIn L a0 48 57 (fun v2 σ1 => is01 v2 ∧ Q v2 σ1) σ
set_option maxHeartbeats 4000000 in
set_option maxRecDepth 20000 in
theorem s_K_isDigit {L : Nat → Nat} (hL : ∀ r, L r < 2147483648) {d : Nat} (hd : 1 ≤ d) {a0 : Int} {Q : Int → IS → Prop} {σ : IS}  (h : w_K_isDigit L a0 Q σ) : OkI BF L d 12 b_K_isDigit 1 2 0 [] [some (.inl a0)] σ (qi Q) := by
  unfold w_K_isDigit at h
  obtain ⟨d, rfl⟩ : ∃ e, d = e + 1 := ⟨d - 1, by omega⟩
  refine k_sb (lv' := [some (.inl a0)]) (sb_s sb_nil) ?_
  refine k_iload_n d_K_isDigit_0 rfl ?_
  refine k_bipush d_K_isDigit_1 cB_48 ?_
  refine k_bipush d_K_isDigit_3 cB_57 ?_
  refine k_csi [.inl a0, .inl 48, .inl 57] d_K_isDigit_5 ml_12_2 (Or.inl rfl) rfl rfl rfl (s_K_isIn hL (by omega)  h) (fun v2 σ1 h => ?_)
  obtain ⟨p3, h⟩ := h
  exact k_iret d_K_isDigit_8 (Or.inr ⟨rfl, p3⟩) h
theorem d_K_isAbsolute_0 : decode b_K_isAbsolute 0 = .ok (.aload_n 0, 1) := by decide +kernel
theorem d_K_isAbsolute_1 : decode b_K_isAbsolute 1 = .ok (.getfield 54, 3) := by decide +kernel
theorem d_K_isAbsolute_4 : decode b_K_isAbsolute 4 = .ok (.getfield 150, 3) := by decide +kernel
theorem d_K_isAbsolute_7 : decode b_K_isAbsolute 7 = .ok (.iload_n 1, 1) := by decide +kernel
theorem d_K_isAbsolute_8 : decode b_K_isAbsolute 8 = .ok (.iaload, 1) := by decide +kernel
theorem d_K_isAbsolute_9 : decode b_K_isAbsolute 9 = .ok (.istore_n 2, 1) := by decide +kernel
theorem d_K_isAbsolute_10 : decode b_K_isAbsolute 10 = .ok (.aload_n 0, 1) := by decide +kernel
theorem d_K_isAbsolute_11 : decode b_K_isAbsolute 11 = .ok (.getfield 54, 3) := by decide +kernel
theorem d_K_isAbsolute_14 : decode b_K_isAbsolute 14 = .ok (.getfield 156, 3) := by decide +kernel
theorem d_K_isAbsolute_17 : decode b_K_isAbsolute 17 = .ok (.iload_n 1, 1) := by decide +kernel
theorem d_K_isAbsolute_18 : decode b_K_isAbsolute 18 = .ok (.iaload, 1) := by decide +kernel
theorem d_K_isAbsolute_19 : decode b_K_isAbsolute 19 = .ok (.istore_n 3, 1) := by decide +kernel
theorem d_K_isAbsolute_20 : decode b_K_isAbsolute 20 = .ok (.iload_n 2, 1) := by decide +kernel
theorem d_K_isAbsolute_21 : decode b_K_isAbsolute 21 = .ok (.ifCond .ne 5, 3) := by decide +kernel
theorem d_K_isAbsolute_24 : decode b_K_isAbsolute 24 = .ok (.iconst 1, 1) := by decide +kernel
theorem d_K_isAbsolute_25 : decode b_K_isAbsolute 25 = .ok (.ireturn, 1) := by decide +kernel
theorem d_K_isAbsolute_26 : decode b_K_isAbsolute 26 = .ok (.iconst 1, 1) := by decide +kernel
theorem d_K_isAbsolute_27 : decode b_K_isAbsolute 27 = .ok (.istore 4, 2) := by decide +kernel
theorem d_K_isAbsolute_29 : decode b_K_isAbsolute 29 = .ok (.iload 4, 2) := by decide +kernel
theorem d_K_isAbsolute_31 : decode b_K_isAbsolute 31 = .ok (.iload_n 2, 1) := by decide +kernel
theorem d_K_isAbsolute_32 : decode b_K_isAbsolute 32 = .ok (.if_icmp .ge 96, 3) := by decide +kernel
theorem d_K_isAbsolute_35 : decode b_K_isAbsolute 35 = .ok (.aload_n 0, 1) := by decide +kernel
theorem d_K_isAbsolute_36 : decode b_K_isAbsolute 36 = .ok (.getfield 54, 3) := by decide +kernel
theorem d_K_isAbsolute_39 : decode b_K_isAbsolute 39 = .ok (.getfield 153, 3) := by decide +kernel
theorem d_K_isAbsolute_42 : decode b_K_isAbsolute 42 = .ok (.iload_n 3, 1) := by decide +kernel
theorem d_K_isAbsolute_43 : decode b_K_isAbsolute 43 = .ok (.iload 4, 2) := by decide +kernel
theorem d_K_isAbsolute_45 : decode b_K_isAbsolute 45 = .ok (.iadd, 1) := by decide +kernel
theorem d_K_isAbsolute_46 : decode b_K_isAbsolute 46 = .ok (.iaload, 1) := by decide +kernel
theorem d_K_isAbsolute_47 : decode b_K_isAbsolute 47 = .ok (.invokestatic 165, 3) := by decide +kernel
theorem d_K_isAbsolute_50 : decode b_K_isAbsolute 50 = .ok (.ifCond .ne 72, 3) := by decide +kernel
theorem d_K_isAbsolute_53 : decode b_K_isAbsolute 53 = .ok (.aload_n 0, 1) := by decide +kernel
theorem d_K_isAbsolute_54 : decode b_K_isAbsolute 54 = .ok (.getfield 54, 3) := by decide +kernel
theorem d_K_isAbsolute_57 : decode b_K_isAbsolute 57 = .ok (.getfield 153, 3) := by decide +kernel
theorem d_K_isAbsolute_60 : decode b_K_isAbsolute 60 = .ok (.iload_n 3, 1) := by decide +kernel
theorem d_K_isAbsolute_61 : decode b_K_isAbsolute 61 = .ok (.iload 4, 2) := by decide +kernel
theorem d_K_isAbsolute_63 : decode b_K_isAbsolute 63 = .ok (.iadd, 1) := by decide +kernel
theorem d_K_isAbsolute_64 : decode b_K_isAbsolute 64 = .ok (.iaload, 1) := by decide +kernel
theorem d_K_isAbsolute_65 : decode b_K_isAbsolute 65 = .ok (.invokestatic 168, 3) := by decide +kernel
theorem d_K_isAbsolute_68 : decode b_K_isAbsolute 68 = .ok (.ifCond .ne 54, 3) := by decide +kernel
theorem d_K_isAbsolute_71 : decode b_K_isAbsolute 71 = .ok (.aload_n 0, 1) := by decide +kernel
theorem d_K_isAbsolute_72 : decode b_K_isAbsolute 72 = .ok (.getfield 54, 3) := by decide +kernel
theorem d_K_isAbsolute_75 : decode b_K_isAbsolute 75 = .ok (.getfield 153, 3) := by decide +kernel
theorem d_K_isAbsolute_78 : decode b_K_isAbsolute 78 = .ok (.iload_n 3, 1) := by decide +kernel
theorem d_K_isAbsolute_79 : decode b_K_isAbsolute 79 = .ok (.iload 4, 2) := by decide +kernel
theorem d_K_isAbsolute_81 : decode b_K_isAbsolute 81 = .ok (.iadd, 1) := by decide +kernel
theorem d_K_isAbsolute_82 : decode b_K_isAbsolute 82 = .ok (.iaload, 1) := by decide +kernel
theorem d_K_isAbsolute_83 : decode b_K_isAbsolute 83 = .ok (.bipush 43, 2) := by decide +kernel
theorem d_K_isAbsolute_85 : decode b_K_isAbsolute 85 = .ok (.if_icmp .eq 37, 3) := by decide +kernel
theorem d_K_isAbsolute_88 : decode b_K_isAbsolute 88 = .ok (.aload_n 0, 1) := by decide +kernel
theorem d_K_isAbsolute_89 : decode b_K_isAbsolute 89 = .ok (.getfield 54, 3) := by decide +kernel
theorem d_K_isAbsolute_92 : decode b_K_isAbsolute 92 = .ok (.getfield 153, 3) := by decide +kernel
theorem d_K_isAbsolute_95 : decode b_K_isAbsolute 95 = .ok (.iload_n 3, 1) := by decide +kernel
theorem d_K_isAbsolute_96 : decode b_K_isAbsolute 96 = .ok (.iload 4, 2) := by decide +kernel
theorem d_K_isAbsolute_98 : decode b_K_isAbsolute 98 = .ok (.iadd, 1) := by decide +kernel
theorem d_K_isAbsolute_99 : decode b_K_isAbsolute 99 = .ok (.iaload, 1) := by decide +kernel
theorem d_K_isAbsolute_100 : decode b_K_isAbsolute 100 = .ok (.bipush 45, 2) := by decide +kernel
theorem d_K_isAbsolute_102 : decode b_K_isAbsolute 102 = .ok (.if_icmp .eq 20, 3) := by decide +kernel
theorem d_K_isAbsolute_105 : decode b_K_isAbsolute 105 = .ok (.aload_n 0, 1) := by decide +kernel
theorem d_K_isAbsolute_106 : decode b_K_isAbsolute 106 = .ok (.getfield 54, 3) := by decide +kernel
theorem d_K_isAbsolute_109 : decode b_K_isAbsolute 109 = .ok (.getfield 153, 3) := by decide +kernel
theorem d_K_isAbsolute_112 : decode b_K_isAbsolute 112 = .ok (.iload_n 3, 1) := by decide +kernel
theorem d_K_isAbsolute_113 : decode b_K_isAbsolute 113 = .ok (.iload 4, 2) := by decide +kernel
theorem d_K_isAbsolute_115 : decode b_K_isAbsolute 115 = .ok (.iadd, 1) := by decide +kernel
theorem d_K_isAbsolute_116 : decode b_K_isAbsolute 116 = .ok (.iaload, 1) := by decide +kernel
theorem d_K_isAbsolute_117 : decode b_K_isAbsolute 117 = .ok (.bipush 46, 2) := by decide +kernel
theorem d_K_isAbsolute_119 : decode b_K_isAbsolute 119 = .ok (.if_icmp .ne 9, 3) := by decide +kernel
theorem d_K_isAbsolute_122 : decode b_K_isAbsolute 122 = .ok (.iinc 4 1, 3) := by decide +kernel
theorem d_K_isAbsolute_125 : decode b_K_isAbsolute 125 = .ok (.goto (-96), 3) := by decide +kernel
theorem d_K_isAbsolute_128 : decode b_K_isAbsolute 128 = .ok (.aload_n 0, 1) := by decide +kernel
theorem d_K_isAbsolute_129 : decode b_K_isAbsolute 129 = .ok (.getfield 54, 3) := by decide +kernel
theorem d_K_isAbsolute_132 : decode b_K_isAbsolute 132 = .ok (.getfield 153, 3) := by decide +kernel
theorem d_K_isAbsolute_135 : decode b_K_isAbsolute 135 = .ok (.iload_n 3, 1) := by decide +kernel
theorem d_K_isAbsolute_136 : decode b_K_isAbsolute 136 = .ok (.iaload, 1) := by decide +kernel
theorem d_K_isAbsolute_137 : decode b_K_isAbsolute 137 = .ok (.invokestatic 165, 3) := by decide +kernel
theorem d_K_isAbsolute_140 : decode b_K_isAbsolute 140 = .ok (.ifCond .eq 30, 3) := by decide +kernel
theorem d_K_isAbsolute_143 : decode b_K_isAbsolute 143 = .ok (.iload 4, 2) := by decide +kernel
theorem d_K_isAbsolute_145 : decode b_K_isAbsolute 145 = .ok (.iload_n 2, 1) := by decide +kernel
theorem d_K_isAbsolute_146 : decode b_K_isAbsolute 146 = .ok (.if_icmp .ge 24, 3) := by decide +kernel
theorem d_K_isAbsolute_149 : decode b_K_isAbsolute 149 = .ok (.aload_n 0, 1) := by decide +kernel
theorem d_K_isAbsolute_150 : decode b_K_isAbsolute 150 = .ok (.getfield 54, 3) := by decide +kernel
theorem d_K_isAbsolute_153 : decode b_K_isAbsolute 153 = .ok (.getfield 153, 3) := by decide +kernel
theorem d_K_isAbsolute_156 : decode b_K_isAbsolute 156 = .ok (.iload_n 3, 1) := by decide +kernel
theorem d_K_isAbsolute_157 : decode b_K_isAbsolute 157 = .ok (.iload 4, 2) := by decide +kernel
theorem d_K_isAbsolute_159 : decode b_K_isAbsolute 159 = .ok (.iadd, 1) := by decide +kernel
theorem d_K_isAbsolute_160 : decode b_K_isAbsolute 160 = .ok (.iaload, 1) := by decide +kernel
theorem d_K_isAbsolute_161 : decode b_K_isAbsolute 161 = .ok (.bipush 58, 2) := by decide +kernel
theorem d_K_isAbsolute_163 : decode b_K_isAbsolute 163 = .ok (.if_icmp .ne 7, 3) := by decide +kernel
theorem d_K_isAbsolute_166 : decode b_K_isAbsolute 166 = .ok (.iconst 1, 1) := by decide +kernel
theorem d_K_isAbsolute_167 : decode b_K_isAbsolute 167 = .ok (.goto 4, 3) := by decide +kernel
theorem d_K_isAbsolute_170 : decode b_K_isAbsolute 170 = .ok (.iconst 0, 1) := by decide +kernel
theorem d_K_isAbsolute_171 : decode b_K_isAbsolute 171 = .ok (.ireturn, 1) := by decide +kernel
/-- K_isAbsolute -/
def w_K_isAbsolute (L : Nat → Nat) (a1 : Int) (Q : Int → IS → Prop) (σ : IS) : Prop := inL L (rfo 14 10) a1 ∧ inL L (rfo 14 9) a1 ∧ if (σ.2 (rfo 14 10) (Int.toNat a1)) = 0 then Q 1 σ else WL (fun (K2 : Int → IS → Prop) (s4 : Int) (σ5 : IS) => WJ (fun (s8 : Unit) (σ9 : IS) => inL L (rfo 14 1) (σ.2 (rfo 14 9) (Int.toNat a1)) ∧ w_K_isLetter L (σ9.2 (rfo 14 1) (Int.toNat (σ.2 (rfo 14 9) (Int.toNat a1)))) (fun v11 σ10 => ((¬ v11 = 0 → (s4 < (σ.2 (rfo 14 10) (Int.toNat a1)) → (inR ((σ.2 (rfo 14 9) (Int.toNat a1)) + s4) ∧ inL L (rfo 14 1) ((σ.2 (rfo 14 9) (Int.toNat a1)) + s4))))) ∧ Q (if v11 = 0 then (0 : Int) else (if s4 < (σ.2 (rfo 14 10) (Int.toNat a1)) then (if (σ10.2 (rfo 14 1) (Int.toNat ((σ.2 (rfo 14 9) (Int.toNat a1)) + s4))) = 58 then (1 : Int) else (0 : Int)) else (0 : Int))) σ10) σ9) (fun J6 => if s4 < (σ.2 (rfo 14 10) (Int.toNat a1)) then inR ((σ.2 (rfo 14 9) (Int.toNat a1)) + s4) ∧ inL L (rfo 14 1) ((σ.2 (rfo 14 9) (Int.toNat a1)) + s4) ∧ w_K_isLetter L (σ5.2 (rfo 14 1) (Int.toNat ((σ.2 (rfo 14 9) (Int.toNat a1)) + s4))) (fun v30 σ29 => WJ (fun (s33 : Unit) (σ34 : IS) => inR (s4 + 1) ∧ K2 (s4 + 1) σ34) (fun J31 => if v30 = 0 then inR ((σ.2 (rfo 14 9) (Int.toNat a1)) + s4) ∧ inL L (rfo 14 1) ((σ.2 (rfo 14 9) (Int.toNat a1)) + s4) ∧ w_K_isDigit L (σ29.2 (rfo 14 1) (Int.toNat ((σ.2 (rfo 14 9) (Int.toNat a1)) + s4))) (fun v38 σ37 => ((v38 = 0 → (inR ((σ.2 (rfo 14 9) (Int.toNat a1)) + s4) ∧ inL L (rfo 14 1) ((σ.2 (rfo 14 9) (Int.toNat a1)) + s4) ∧ (¬ (σ37.2 (rfo 14 1) (Int.toNat ((σ.2 (rfo 14 9) (Int.toNat a1)) + s4))) = 43 → (inR ((σ.2 (rfo 14 9) (Int.toNat a1)) + s4) ∧ inL L (rfo 14 1) ((σ.2 (rfo 14 9) (Int.toNat a1)) + s4) ∧ (¬ (σ37.2 (rfo 14 1) (Int.toNat ((σ.2 (rfo 14 9) (Int.toNat a1)) + s4))) = 45 → (inR ((σ.2 (rfo 14 9) (Int.toNat a1)) + s4) ∧ inL L (rfo 14 1) ((σ.2 (rfo 14 9) (Int.toNat a1)) + s4)))))))) ∧ if ¬ v38 = 0 ∨ ((σ37.2 (rfo 14 1) (Int.toNat ((σ.2 (rfo 14 9) (Int.toNat a1)) + s4))) = 43 ∨ ((σ37.2 (rfo 14 1) (Int.toNat ((σ.2 (rfo 14 9) (Int.toNat a1)) + s4))) = 45 ∨ ((σ37.2 (rfo 14 1) (Int.toNat ((σ.2 (rfo 14 9) (Int.toNat a1)) + s4))) = 46))) then J31 () σ37 else J6 () σ37) σ29 else J31 () σ29)) σ5 else J6 () σ5)) 1 σ
set_option maxHeartbeats 4000000 in
set_option maxRecDepth 20000 in
theorem s_K_isAbsolute {L : Nat → Nat} (hL : ∀ r, L r < 2147483648) {d : Nat} (hd : 2 ≤ d) {a1 : Int} {Q : Int → IS → Prop} {σ : IS}  (h : w_K_isAbsolute L a1 Q σ) : OkI BF L d 12 b_K_isAbsolute 5 2 0 [] [some (.inr 12), some (.inl a1)] σ (qi Q) := by
  unfold w_K_isAbsolute at h
  obtain ⟨d, rfl⟩ : ∃ e, d = e + 1 := ⟨d - 1, by omega⟩
  refine k_sb (lv' := [some (.inr 12), some (.inl a1), none, none, none]) (sb_s (sb_s (sb_e (sb_e (sb_e sb_nil))))) ?_
  refine k_aload_n d_K_isAbsolute_0 rfl ?_
  refine k_getR d_K_isAbsolute_1 fl_12_54 ob_12 rfl ?_
  refine k_getR d_K_isAbsolute_4 fl_12_150 (doc_ob (by decide)) (dfr_10 (by decide)) ?_
  refine k_iload_n d_K_isAbsolute_7 rfl ?_
  obtain ⟨p61, h⟩ := h
  refine k_ild (x := (σ.2 (rfo 14 10) (Int.toNat a1))) d_K_isAbsolute_8 (drI_10 (by decide)) p61 rfl ?_
  refine k_istore_n (lv' := [some (.inr 12), some (.inl a1), some (.inl (σ.2 (rfo 14 10) (Int.toNat a1))), none, none]) d_K_isAbsolute_9 rfl rfl ?_
  refine k_aload_n d_K_isAbsolute_10 rfl ?_
  refine k_getR d_K_isAbsolute_11 fl_12_54 ob_12 rfl ?_
  refine k_getR d_K_isAbsolute_14 fl_12_156 (doc_ob (by decide)) (dfr_9 (by decide)) ?_
  refine k_iload_n d_K_isAbsolute_17 rfl ?_
  obtain ⟨p60, h⟩ := h
  refine k_ild (x := (σ.2 (rfo 14 9) (Int.toNat a1))) d_K_isAbsolute_18 (drI_9 (by decide)) p60 rfl ?_
  refine k_istore_n (lv' := [some (.inr 12), some (.inl a1), some (.inl (σ.2 (rfo 14 10) (Int.toNat a1))), some (.inl (σ.2 (rfo 14 9) (Int.toNat a1))), none]) d_K_isAbsolute_19 rfl rfl ?_
  refine k_iload_n d_K_isAbsolute_20 rfl ?_
  refine k_ifne d_K_isAbsolute_21 rfl (fun c1 => ?_) (fun c1 => ?_)
  · have h := ineg c1 h
    refine k_iconst d_K_isAbsolute_26 cI_1 ?_
    refine k_istore (lv' := [some (.inr 12), some (.inl a1), some (.inl (σ.2 (rfo 14 10) (Int.toNat a1))), some (.inl (σ.2 (rfo 14 9) (Int.toNat a1))), some (.inl 1)]) d_K_isAbsolute_27 rfl rfl ?_
    refine k_sb (lv' := [some (.inr 12), none, some (.inl (σ.2 (rfo 14 10) (Int.toNat a1))), some (.inl (σ.2 (rfo 14 9) (Int.toNat a1))), some (.inl 1)]) (sb_s (sb_n (sb_s (sb_s (sb_s sb_nil))))) ?_
    refine k_loop (S := Int) (st := fun _ => []) (lv := fun s4 => [some (.inr 12), none, some (.inl (σ.2 (rfo 14 10) (Int.toNat a1))), some (.inl (σ.2 (rfo 14 9) (Int.toNat a1))), some (.inl s4)]) (fun K2 hK3 s4 σ5 h => ?_) 1 _ h
    refine k_iload d_K_isAbsolute_29 rfl ?_
    refine k_iload_n d_K_isAbsolute_31 rfl ?_
    refine k_join (S := Unit) (pc' := 128) (st' := fun s8 => []) (lv' := fun s8 => [some (.inr 12), none, some (.inl (σ.2 (rfo 14 10) (Int.toNat a1))), some (.inl (σ.2 (rfo 14 9) (Int.toNat a1))), some (.inl s4)]) (fun s8 σ9 h => ?_) (fun J6 hJ7 h => ?_) h
    · refine k_aload_n d_K_isAbsolute_128 rfl ?_
      refine k_getR d_K_isAbsolute_129 fl_12_54 ob_12 rfl ?_
      refine k_getR d_K_isAbsolute_132 fl_12_153 (doc_ob (by decide)) (dfr_1 (by decide)) ?_
      refine k_iload_n d_K_isAbsolute_135 rfl ?_
      obtain ⟨p27, h⟩ := h
      refine k_ild (x := (σ9.2 (rfo 14 1) (Int.toNat (σ.2 (rfo 14 9) (Int.toNat a1))))) d_K_isAbsolute_136 (drI_1 (by decide)) p27 rfl ?_
      refine k_csi [.inl (σ9.2 (rfo 14 1) (Int.toNat (σ.2 (rfo 14 9) (Int.toNat a1))))] d_K_isAbsolute_137 ml_12_165 (Or.inl rfl) rfl rfl rfl (s_K_isLetter hL (by omega)  h) (fun v11 σ10 h => ?_)
      obtain ⟨pt15, h⟩ := h
      have hV14 : OkI BF L (d + 1) 12 b_K_isAbsolute 5 2 171 [.inl (if v11 = 0 then (0 : Int) else (if s4 < (σ.2 (rfo 14 10) (Int.toNat a1)) then (if (σ10.2 (rfo 14 1) (Int.toNat ((σ.2 (rfo 14 9) (Int.toNat a1)) + s4))) = 58 then (1 : Int) else (0 : Int)) else (0 : Int)))] [some (.inr 12), none, some (.inl (σ.2 (rfo 14 10) (Int.toNat a1))), some (.inl (σ.2 (rfo 14 9) (Int.toNat a1))), some (.inl s4)] σ10 (qi Q) := by
        exact k_iret d_K_isAbsolute_171 (Or.inr ⟨rfl, it01 (Or.inl rfl) (it01 (it01 (Or.inr rfl) (Or.inl rfl)) (Or.inl rfl))⟩) h
      have pb16 := pt15
      refine k_ifeq d_K_isAbsolute_140 rfl (fun c17 => ?_) (fun c17 => ?_)
      · have hV18 := k_eqI (if_pos c17) hV14
        refine k_iconst d_K_isAbsolute_170 cI_0 ?_
        exact hV18
      · have pb16 := pb16 c17
        have hV19 := k_eqI (if_neg c17) hV14
        have pa20 := pb16
        refine k_iload d_K_isAbsolute_143 rfl ?_
        refine k_iload_n d_K_isAbsolute_145 rfl ?_
        refine k_icge d_K_isAbsolute_146 rfl (fun c21 => ?_) (fun c21 => ?_)
        · have hV26 := k_eqI (if_neg c21) hV19
          refine k_iconst d_K_isAbsolute_170 cI_0 ?_
          exact hV26
        · have pa20 := pa20 c21
          have hV22 := k_eqI (if_pos c21) hV19
          obtain ⟨p12, p13⟩ := pa20
          refine k_aload_n d_K_isAbsolute_149 rfl ?_
          refine k_getR d_K_isAbsolute_150 fl_12_54 ob_12 rfl ?_
          refine k_getR d_K_isAbsolute_153 fl_12_153 (doc_ob (by decide)) (dfr_1 (by decide)) ?_
          refine k_iload_n d_K_isAbsolute_156 rfl ?_
          refine k_iload d_K_isAbsolute_157 rfl ?_
          refine k_iadd d_K_isAbsolute_159 p12 ?_
          refine k_ild (x := (σ10.2 (rfo 14 1) (Int.toNat ((σ.2 (rfo 14 9) (Int.toNat a1)) + s4)))) d_K_isAbsolute_160 (drI_1 (by decide)) p13 rfl ?_
          refine k_bipush d_K_isAbsolute_161 cB_58 ?_
          refine k_icne d_K_isAbsolute_163 rfl (fun c23 => ?_) (fun c23 => ?_)
          · have hV25 := k_eqI (if_neg c23) hV22
            refine k_iconst d_K_isAbsolute_170 cI_0 ?_
            exact hV25
          · have hV24 := k_eqI (if_pos c23) hV22
            refine k_iconst d_K_isAbsolute_166 cI_1 ?_
            refine k_goto d_K_isAbsolute_167 rfl ?_
            exact hV24
    · refine k_icge d_K_isAbsolute_32 rfl (fun c28 => ?_) (fun c28 => ?_)
      · have h := ineg c28 h
        exact k_sb (sb_s (sb_s (sb_s (sb_s (sb_s sb_nil))))) (hJ7 () _ h)
      · have h := ipos c28 h
        refine k_aload_n d_K_isAbsolute_35 rfl ?_
        refine k_getR d_K_isAbsolute_36 fl_12_54 ob_12 rfl ?_
        refine k_getR d_K_isAbsolute_39 fl_12_153 (doc_ob (by decide)) (dfr_1 (by decide)) ?_
        refine k_iload_n d_K_isAbsolute_42 rfl ?_
        refine k_iload d_K_isAbsolute_43 rfl ?_
        obtain ⟨p59, h⟩ := h
        refine k_iadd d_K_isAbsolute_45 p59 ?_
        obtain ⟨p58, h⟩ := h
        refine k_ild (x := (σ5.2 (rfo 14 1) (Int.toNat ((σ.2 (rfo 14 9) (Int.toNat a1)) + s4)))) d_K_isAbsolute_46 (drI_1 (by decide)) p58 rfl ?_
        refine k_csi [.inl (σ5.2 (rfo 14 1) (Int.toNat ((σ.2 (rfo 14 9) (Int.toNat a1)) + s4)))] d_K_isAbsolute_47 ml_12_165 (Or.inl rfl) rfl rfl rfl (s_K_isLetter hL (by omega)  h) (fun v30 σ29 h => ?_)
        refine k_join (S := Unit) (pc' := 122) (st' := fun s33 => []) (lv' := fun s33 => [some (.inr 12), none, some (.inl (σ.2 (rfo 14 10) (Int.toNat a1))), some (.inl (σ.2 (rfo 14 9) (Int.toNat a1))), some (.inl s4)]) (fun s33 σ34 h => ?_) (fun J31 hJ32 h => ?_) h
        · obtain ⟨p35, h⟩ := h
          refine k_iinc (lv' := [some (.inr 12), none, some (.inl (σ.2 (rfo 14 10) (Int.toNat a1))), some (.inl (σ.2 (rfo 14 9) (Int.toNat a1))), some (.inl (s4 + 1))]) d_K_isAbsolute_122 cI_1 rfl rfl p35 rfl ?_
          refine k_goto d_K_isAbsolute_125 rfl ?_
          exact k_sb (sb_s (sb_s (sb_s (sb_s (sb_s sb_nil))))) (hK3 (s4 + 1) _ h)
        · refine k_ifne d_K_isAbsolute_50 rfl (fun c36 => ?_) (fun c36 => ?_)
          · have h := ineg c36 h
            exact k_sb (sb_s (sb_s (sb_s (sb_s (sb_s sb_nil))))) (hJ32 () _ h)
          · have h := ipos c36 h
            refine k_aload_n d_K_isAbsolute_53 rfl ?_
            refine k_getR d_K_isAbsolute_54 fl_12_54 ob_12 rfl ?_
            refine k_getR d_K_isAbsolute_57 fl_12_153 (doc_ob (by decide)) (dfr_1 (by decide)) ?_
            refine k_iload_n d_K_isAbsolute_60 rfl ?_
            refine k_iload d_K_isAbsolute_61 rfl ?_
            obtain ⟨p57, h⟩ := h
            refine k_iadd d_K_isAbsolute_63 p57 ?_
            obtain ⟨p56, h⟩ := h
            refine k_ild (x := (σ29.2 (rfo 14 1) (Int.toNat ((σ.2 (rfo 14 9) (Int.toNat a1)) + s4)))) d_K_isAbsolute_64 (drI_1 (by decide)) p56 rfl ?_
            refine k_csi [.inl (σ29.2 (rfo 14 1) (Int.toNat ((σ.2 (rfo 14 9) (Int.toNat a1)) + s4)))] d_K_isAbsolute_65 ml_12_168 (Or.inl rfl) rfl rfl rfl (s_K_isDigit hL (by omega)  h) (fun v38 σ37 h => ?_)
            obtain ⟨pt48, h⟩ := h
            have hX45 : (¬ v38 = 0 ∨ ((σ37.2 (rfo 14 1) (Int.toNat ((σ.2 (rfo 14 9) (Int.toNat a1)) + s4))) = 43 ∨ ((σ37.2 (rfo 14 1) (Int.toNat ((σ.2 (rfo 14 9) (Int.toNat a1)) + s4))) = 45 ∨ ((σ37.2 (rfo 14 1) (Int.toNat ((σ.2 (rfo 14 9) (Int.toNat a1)) + s4))) = 46)))) → OkI BF L (d + 1) 12 b_K_isAbsolute 5 2 122 [] [some (.inr 12), none, some (.inl (σ.2 (rfo 14 10) (Int.toNat a1))), some (.inl (σ.2 (rfo 14 9) (Int.toNat a1))), some (.inl s4)] σ37 (qi Q) := fun e47 => by
              have h := ipos e47 h
              exact k_sb (sb_s (sb_s (sb_s (sb_s (sb_s sb_nil))))) (hJ32 () _ h)
            have hY46 : ¬ (¬ v38 = 0 ∨ ((σ37.2 (rfo 14 1) (Int.toNat ((σ.2 (rfo 14 9) (Int.toNat a1)) + s4))) = 43 ∨ ((σ37.2 (rfo 14 1) (Int.toNat ((σ.2 (rfo 14 9) (Int.toNat a1)) + s4))) = 45 ∨ ((σ37.2 (rfo 14 1) (Int.toNat ((σ.2 (rfo 14 9) (Int.toNat a1)) + s4))) = 46)))) → OkI BF L (d + 1) 12 b_K_isAbsolute 5 2 128 [] [some (.inr 12), none, some (.inl (σ.2 (rfo 14 10) (Int.toNat a1))), some (.inl (σ.2 (rfo 14 9) (Int.toNat a1))), some (.inl s4)] σ37 (qi Q) := fun e47 => by
              have h := ineg e47 h
              exact k_sb (sb_s (sb_s (sb_s (sb_s (sb_s sb_nil))))) (hJ7 () _ h)
            have pa49 := pt48
            refine k_ifne d_K_isAbsolute_68 rfl (fun c50 => ?_) (fun c50 => ?_)
            · exact hX45 (Or.inl c50)
            · have pa49 := pa49 c50
              obtain ⟨p39, p40, pb51⟩ := pa49
              refine k_aload_n d_K_isAbsolute_71 rfl ?_
              refine k_getR d_K_isAbsolute_72 fl_12_54 ob_12 rfl ?_
              refine k_getR d_K_isAbsolute_75 fl_12_153 (doc_ob (by decide)) (dfr_1 (by decide)) ?_
              refine k_iload_n d_K_isAbsolute_78 rfl ?_
              refine k_iload d_K_isAbsolute_79 rfl ?_
              refine k_iadd d_K_isAbsolute_81 p39 ?_
              refine k_ild (x := (σ37.2 (rfo 14 1) (Int.toNat ((σ.2 (rfo 14 9) (Int.toNat a1)) + s4)))) d_K_isAbsolute_82 (drI_1 (by decide)) p40 rfl ?_
              refine k_bipush d_K_isAbsolute_83 cB_43 ?_
              refine k_iceq d_K_isAbsolute_85 rfl (fun c52 => ?_) (fun c52 => ?_)
              · exact hX45 (Or.inr (Or.inl c52))
              · have pb51 := pb51 c52
                obtain ⟨p41, p42, pb53⟩ := pb51
                refine k_aload_n d_K_isAbsolute_88 rfl ?_
                refine k_getR d_K_isAbsolute_89 fl_12_54 ob_12 rfl ?_
                refine k_getR d_K_isAbsolute_92 fl_12_153 (doc_ob (by decide)) (dfr_1 (by decide)) ?_
                refine k_iload_n d_K_isAbsolute_95 rfl ?_
                refine k_iload d_K_isAbsolute_96 rfl ?_
                refine k_iadd d_K_isAbsolute_98 p41 ?_
                refine k_ild (x := (σ37.2 (rfo 14 1) (Int.toNat ((σ.2 (rfo 14 9) (Int.toNat a1)) + s4)))) d_K_isAbsolute_99 (drI_1 (by decide)) p42 rfl ?_
                refine k_bipush d_K_isAbsolute_100 cB_45 ?_
                refine k_iceq d_K_isAbsolute_102 rfl (fun c54 => ?_) (fun c54 => ?_)
                · exact hX45 (Or.inr (Or.inr (Or.inl c54)))
                · have pb53 := pb53 c54
                  obtain ⟨p43, p44⟩ := pb53
                  refine k_aload_n d_K_isAbsolute_105 rfl ?_
                  refine k_getR d_K_isAbsolute_106 fl_12_54 ob_12 rfl ?_
                  refine k_getR d_K_isAbsolute_109 fl_12_153 (doc_ob (by decide)) (dfr_1 (by decide)) ?_
                  refine k_iload_n d_K_isAbsolute_112 rfl ?_
                  refine k_iload d_K_isAbsolute_113 rfl ?_
                  refine k_iadd d_K_isAbsolute_115 p43 ?_
                  refine k_ild (x := (σ37.2 (rfo 14 1) (Int.toNat ((σ.2 (rfo 14 9) (Int.toNat a1)) + s4)))) d_K_isAbsolute_116 (drI_1 (by decide)) p44 rfl ?_
                  refine k_bipush d_K_isAbsolute_117 cB_46 ?_
                  refine k_icne d_K_isAbsolute_119 rfl (fun c55 => ?_) (fun c55 => ?_)
                  · exact hY46 (fun z => z.elim (fun y => y c50) (fun z => z.elim c52 (fun z => z.elim c54 (c55))))
                  · exact hX45 (Or.inr (Or.inr (Or.inr (c55))))
  · have h := ipos c1 h
    refine k_iconst d_K_isAbsolute_24 cI_1 ?_
    exact k_iret d_K_isAbsolute_25 (Or.inr ⟨rfl, Or.inr rfl⟩) h
theorem d_KWriter_length_0 : decode b_KWriter_length 0 = .ok (.iload_n 0, 1) := by decide +kernel
theorem d_KWriter_length_1 : decode b_KWriter_length 1 = .ok (.sipush 128, 3) := by decide +kernel
theorem d_KWriter_length_4 : decode b_KWriter_length 4 = .ok (.if_icmp .ge 7, 3) := by decide +kernel
theorem d_KWriter_length_7 : decode b_KWriter_length 7 = .ok (.iconst 1, 1) := by decide +kernel
theorem d_KWriter_length_8 : decode b_KWriter_length 8 = .ok (.goto 25, 3) := by decide +kernel
theorem d_KWriter_length_11 : decode b_KWriter_length 11 = .ok (.iload_n 0, 1) := by decide +kernel
theorem d_KWriter_length_12 : decode b_KWriter_length 12 = .ok (.sipush 2048, 3) := by decide +kernel
theorem d_KWriter_length_15 : decode b_KWriter_length 15 = .ok (.if_icmp .ge 7, 3) := by decide +kernel
theorem d_KWriter_length_18 : decode b_KWriter_length 18 = .ok (.iconst 2, 1) := by decide +kernel
theorem d_KWriter_length_19 : decode b_KWriter_length 19 = .ok (.goto 14, 3) := by decide +kernel
theorem d_KWriter_length_22 : decode b_KWriter_length 22 = .ok (.iload_n 0, 1) := by decide +kernel
theorem d_KWriter_length_23 : decode b_KWriter_length 23 = .ok (.ldc 62, 2) := by decide +kernel
theorem d_KWriter_length_25 : decode b_KWriter_length 25 = .ok (.if_icmp .ge 7, 3) := by decide +kernel
theorem d_KWriter_length_28 : decode b_KWriter_length 28 = .ok (.iconst 3, 1) := by decide +kernel
theorem d_KWriter_length_29 : decode b_KWriter_length 29 = .ok (.goto 4, 3) := by decide +kernel
theorem d_KWriter_length_32 : decode b_KWriter_length 32 = .ok (.iconst 4, 1) := by decide +kernel
theorem d_KWriter_length_33 : decode b_KWriter_length 33 = .ok (.ireturn, 1) := by decide +kernel
/-- KWriter_length -/
def w_KWriter_length (L : Nat → Nat) (a0 : Int) (Q : Int → IS → Prop) (σ : IS) : Prop := Q (if a0 < 128 then (1 : Int) else (if a0 < 2048 then (2 : Int) else (if a0 < 65536 then (3 : Int) else (4 : Int)))) σ
set_option maxHeartbeats 4000000 in
set_option maxRecDepth 20000 in
theorem s_KWriter_length {L : Nat → Nat} (hL : ∀ r, L r < 2147483648) {d : Nat} (hd : 0 ≤ d) {a0 : Int} {Q : Int → IS → Prop} {σ : IS}  (h : w_KWriter_length L a0 Q σ) : OkI BF L d 16 b_KWriter_length 1 1 0 [] [some (.inl a0)] σ (qi Q) := by
  unfold w_KWriter_length at h
  refine k_sb (lv' := [some (.inl a0)]) (sb_s sb_nil) ?_
  refine k_iload_n d_KWriter_length_0 rfl ?_
  refine k_sipush d_KWriter_length_1 cS_128 ?_
  have hV1 : OkI BF L d 16 b_KWriter_length 1 1 33 [.inl (if a0 < 128 then (1 : Int) else (if a0 < 2048 then (2 : Int) else (if a0 < 65536 then (3 : Int) else (4 : Int))))] [some (.inl a0)] σ (qi Q) := by
    exact k_iret d_KWriter_length_33 (Or.inl rfl) h
  refine k_icge d_KWriter_length_4 rfl (fun c2 => ?_) (fun c2 => ?_)
  · have hV4 := k_eqI (if_neg c2) hV1
    refine k_iload_n d_KWriter_length_11 rfl ?_
    refine k_sipush d_KWriter_length_12 cS_2048 ?_
    refine k_icge d_KWriter_length_15 rfl (fun c5 => ?_) (fun c5 => ?_)
    · have hV7 := k_eqI (if_neg c5) hV4
      refine k_iload_n d_KWriter_length_22 rfl ?_
      refine k_ldc d_KWriter_length_23 ks_16_62 cL_65536 ?_
      refine k_icge d_KWriter_length_25 rfl (fun c8 => ?_) (fun c8 => ?_)
      · have hV10 := k_eqI (if_neg c8) hV7
        refine k_iconst d_KWriter_length_32 cI_4 ?_
        exact hV10
      · have hV9 := k_eqI (if_pos c8) hV7
        refine k_iconst d_KWriter_length_28 cI_3 ?_
        refine k_goto d_KWriter_length_29 rfl ?_
        exact hV9
    · have hV6 := k_eqI (if_pos c5) hV4
      refine k_iconst d_KWriter_length_18 cI_2 ?_
      refine k_goto d_KWriter_length_19 rfl ?_
      exact hV6
  · have hV3 := k_eqI (if_pos c2) hV1
    refine k_iconst d_KWriter_length_7 cI_1 ?_
    refine k_goto d_KWriter_length_8 rfl ?_
    exact hV3
theorem d_KReader_addLetter_0 : decode b_KReader_addLetter 0 = .ok (.aload_n 0, 1) := by decide +kernel
theorem d_KReader_addLetter_1 : decode b_KReader_addLetter 1 = .ok (.getfield 45, 3) := by decide +kernel
theorem d_KReader_addLetter_4 : decode b_KReader_addLetter 4 = .ok (.aload_n 0, 1) := by decide +kernel
theorem d_KReader_addLetter_5 : decode b_KReader_addLetter 5 = .ok (.getfield 172, 3) := by decide +kernel
theorem d_KReader_addLetter_8 : decode b_KReader_addLetter 8 = .ok (.iload_n 1, 1) := by decide +kernel
theorem d_KReader_addLetter_9 : decode b_KReader_addLetter 9 = .ok (.iastore, 1) := by decide +kernel
theorem d_KReader_addLetter_10 : decode b_KReader_addLetter 10 = .ok (.aload_n 0, 1) := by decide +kernel
theorem d_KReader_addLetter_11 : decode b_KReader_addLetter 11 = .ok (.dup, 1) := by decide +kernel
theorem d_KReader_addLetter_12 : decode b_KReader_addLetter 12 = .ok (.getfield 172, 3) := by decide +kernel
theorem d_KReader_addLetter_15 : decode b_KReader_addLetter 15 = .ok (.iconst 1, 1) := by decide +kernel
theorem d_KReader_addLetter_16 : decode b_KReader_addLetter 16 = .ok (.iadd, 1) := by decide +kernel
theorem d_KReader_addLetter_17 : decode b_KReader_addLetter 17 = .ok (.putfield 172, 3) := by decide +kernel
theorem d_KReader_addLetter_20 : decode b_KReader_addLetter 20 = .ok (.return_, 1) := by decide +kernel
/-- KReader_addLetter -/
def w_KReader_addLetter (L : Nat → Nat) (a1 : Int) (Q : IS → Prop) (σ : IS) : Prop := inL L 176 (σ.1 16 6) ∧ inR ((σ.1 16 6) + 1) ∧ Q (pf (pr σ 176 (Int.toNat (σ.1 16 6)) a1) 16 6 ((σ.1 16 6) + 1))
set_option maxHeartbeats 4000000 in
set_option maxRecDepth 20000 in
theorem s_KReader_addLetter {L : Nat → Nat} (hL : ∀ r, L r < 2147483648) {d : Nat} (hd : 0 ≤ d) {a1 : Int} {Q : IS → Prop} {σ : IS}  (h : w_KReader_addLetter L a1 Q σ) : OkI BF L d 15 b_KReader_addLetter 2 0 0 [] [some (.inr 16), some (.inl a1)] σ (qv Q) := by
  unfold w_KReader_addLetter at h
  refine k_sb (lv' := [some (.inr 16), some (.inl a1)]) (sb_s (sb_s sb_nil)) ?_
  refine k_aload_n d_KReader_addLetter_0 rfl ?_
  refine k_getR d_KReader_addLetter_1 fl_15_45 ob_16 rfl ?_
  refine k_aload_n d_KReader_addLetter_4 rfl ?_
  refine k_getI (x := (σ.1 16 6)) d_KReader_addLetter_5 fl_15_172 ob_16 rfl rfl ?_
  refine k_iload_n d_KReader_addLetter_8 rfl ?_
  obtain ⟨p2, h⟩ := h
  refine k_ist d_KReader_addLetter_9 rI_176 p2 ?_
  refine k_aload_n d_KReader_addLetter_10 rfl ?_
  refine k_dup d_KReader_addLetter_11 ?_
  refine k_getI (x := (σ.1 16 6)) d_KReader_addLetter_12 fl_15_172 ob_16 rfl rfl ?_
  refine k_iconst d_KReader_addLetter_15 cI_1 ?_
  obtain ⟨p1, h⟩ := h
  refine k_iadd d_KReader_addLetter_16 p1 ?_
  refine k_putI d_KReader_addLetter_17 fl_15_172 ob_16 rfl ?_
  exact k_ret d_KReader_addLetter_20 h
theorem d_KReader_letters_0 : decode b_KReader_letters 0 = .ok (.aload_n 0, 1) := by decide +kernel
theorem d_KReader_letters_1 : decode b_KReader_letters 1 = .ok (.getfield 172, 3) := by decide +kernel
theorem d_KReader_letters_4 : decode b_KReader_letters 4 = .ok (.ireturn, 1) := by decide +kernel
/-- KReader_letters -/
def w_KReader_letters (L : Nat → Nat)  (Q : Int → IS → Prop) (σ : IS) : Prop := Q (σ.1 16 6) σ
set_option maxHeartbeats 4000000 in
set_option maxRecDepth 20000 in
theorem s_KReader_letters {L : Nat → Nat} (hL : ∀ r, L r < 2147483648) {d : Nat} (hd : 0 ≤ d)  {Q : Int → IS → Prop} {σ : IS}  (h : w_KReader_letters L  Q σ) : OkI BF L d 15 b_KReader_letters 1 1 0 [] [some (.inr 16)] σ (qi Q) := by
  unfold w_KReader_letters at h
  refine k_sb (lv' := [some (.inr 16)]) (sb_s sb_nil) ?_
  refine k_aload_n d_KReader_letters_0 rfl ?_
  refine k_getI (x := (σ.1 16 6)) d_KReader_letters_1 fl_15_172 ob_16 rfl rfl ?_
  exact k_iret d_KReader_letters_4 (Or.inl rfl) h
theorem d_KReader_letter_0 : decode b_KReader_letter 0 = .ok (.aload_n 0, 1) := by decide +kernel
theorem d_KReader_letter_1 : decode b_KReader_letter 1 = .ok (.getfield 45, 3) := by decide +kernel
theorem d_KReader_letter_4 : decode b_KReader_letter 4 = .ok (.iload_n 1, 1) := by decide +kernel
theorem d_KReader_letter_5 : decode b_KReader_letter 5 = .ok (.iaload, 1) := by decide +kernel
theorem d_KReader_letter_6 : decode b_KReader_letter 6 = .ok (.ireturn, 1) := by decide +kernel
/-- KReader_letter -/
def w_KReader_letter (L : Nat → Nat) (a1 : Int) (Q : Int → IS → Prop) (σ : IS) : Prop := inL L 176 a1 ∧ Q (σ.2 176 (Int.toNat a1)) σ
set_option maxHeartbeats 4000000 in
set_option maxRecDepth 20000 in
theorem s_KReader_letter {L : Nat → Nat} (hL : ∀ r, L r < 2147483648) {d : Nat} (hd : 0 ≤ d) {a1 : Int} {Q : Int → IS → Prop} {σ : IS}  (h : w_KReader_letter L a1 Q σ) : OkI BF L d 15 b_KReader_letter 2 1 0 [] [some (.inr 16), some (.inl a1)] σ (qi Q) := by
  unfold w_KReader_letter at h
  refine k_sb (lv' := [some (.inr 16), some (.inl a1)]) (sb_s (sb_s sb_nil)) ?_
  refine k_aload_n d_KReader_letter_0 rfl ?_
  refine k_getR d_KReader_letter_1 fl_15_45 ob_16 rfl ?_
  refine k_iload_n d_KReader_letter_4 rfl ?_
  obtain ⟨p1, h⟩ := h
  refine k_ild (x := (σ.2 176 (Int.toNat a1))) d_KReader_letter_5 rI_176 p1 rfl ?_
  exact k_iret d_KReader_letter_6 (Or.inl rfl) h
theorem d_KWriter_put_0 : decode b_KWriter_put 0 = .ok (.aload_n 0, 1) := by decide +kernel
theorem d_KWriter_put_1 : decode b_KWriter_put 1 = .ok (.getfield 26, 3) := by decide +kernel
theorem d_KWriter_put_4 : decode b_KWriter_put 4 = .ok (.iconst 1, 1) := by decide +kernel
theorem d_KWriter_put_5 : decode b_KWriter_put 5 = .ok (.if_icmp .ne 28, 3) := by decide +kernel
theorem d_KWriter_put_8 : decode b_KWriter_put 8 = .ok (.aload_n 0, 1) := by decide +kernel
theorem d_KWriter_put_9 : decode b_KWriter_put 9 = .ok (.getfield 30, 3) := by decide +kernel
theorem d_KWriter_put_12 : decode b_KWriter_put 12 = .ok (.iload_n 1, 1) := by decide +kernel
theorem d_KWriter_put_13 : decode b_KWriter_put 13 = .ok (.invokestatic 33, 3) := by decide +kernel
theorem d_KWriter_put_16 : decode b_KWriter_put 16 = .ok (.iadd, 1) := by decide +kernel
theorem d_KWriter_put_17 : decode b_KWriter_put 17 = .ok (.ldc 37, 2) := by decide +kernel
theorem d_KWriter_put_19 : decode b_KWriter_put 19 = .ok (.if_icmp .gt 77, 3) := by decide +kernel
theorem d_KWriter_put_22 : decode b_KWriter_put 22 = .ok (.aload_n 0, 1) := by decide +kernel
theorem d_KWriter_put_23 : decode b_KWriter_put 23 = .ok (.getfield 38, 3) := by decide +kernel
theorem d_KWriter_put_26 : decode b_KWriter_put 26 = .ok (.iload_n 1, 1) := by decide +kernel
theorem d_KWriter_put_27 : decode b_KWriter_put 27 = .ok (.invokevirtual 42, 3) := by decide +kernel
theorem d_KWriter_put_30 : decode b_KWriter_put 30 = .ok (.goto 66, 3) := by decide +kernel
theorem d_KWriter_put_33 : decode b_KWriter_put 33 = .ok (.aload_n 0, 1) := by decide +kernel
theorem d_KWriter_put_34 : decode b_KWriter_put 34 = .ok (.getfield 26, 3) := by decide +kernel
theorem d_KWriter_put_37 : decode b_KWriter_put 37 = .ok (.iconst 2, 1) := by decide +kernel
theorem d_KWriter_put_38 : decode b_KWriter_put 38 = .ok (.if_icmp .ne 58, 3) := by decide +kernel
theorem d_KWriter_put_41 : decode b_KWriter_put 41 = .ok (.aload_n 0, 1) := by decide +kernel
theorem d_KWriter_put_42 : decode b_KWriter_put 42 = .ok (.aload_n 0, 1) := by decide +kernel
theorem d_KWriter_put_43 : decode b_KWriter_put 43 = .ok (.getfield 48, 3) := by decide +kernel
theorem d_KWriter_put_46 : decode b_KWriter_put 46 = .ok (.ifCond .ne 32, 3) := by decide +kernel
theorem d_KWriter_put_49 : decode b_KWriter_put 49 = .ok (.aload_n 0, 1) := by decide +kernel
theorem d_KWriter_put_50 : decode b_KWriter_put 50 = .ok (.getfield 52, 3) := by decide +kernel
theorem d_KWriter_put_53 : decode b_KWriter_put 53 = .ok (.aload_n 0, 1) := by decide +kernel
theorem d_KWriter_put_54 : decode b_KWriter_put 54 = .ok (.getfield 38, 3) := by decide +kernel
theorem d_KWriter_put_57 : decode b_KWriter_put 57 = .ok (.invokevirtual 55, 3) := by decide +kernel
theorem d_KWriter_put_60 : decode b_KWriter_put 60 = .ok (.if_icmp .ge 18, 3) := by decide +kernel
theorem d_KWriter_put_63 : decode b_KWriter_put 63 = .ok (.aload_n 0, 1) := by decide +kernel
theorem d_KWriter_put_64 : decode b_KWriter_put 64 = .ok (.getfield 38, 3) := by decide +kernel
theorem d_KWriter_put_67 : decode b_KWriter_put 67 = .ok (.aload_n 0, 1) := by decide +kernel
theorem d_KWriter_put_68 : decode b_KWriter_put 68 = .ok (.getfield 52, 3) := by decide +kernel
theorem d_KWriter_put_71 : decode b_KWriter_put 71 = .ok (.invokevirtual 58, 3) := by decide +kernel
theorem d_KWriter_put_74 : decode b_KWriter_put 74 = .ok (.iload_n 1, 1) := by decide +kernel
theorem d_KWriter_put_75 : decode b_KWriter_put 75 = .ok (.if_icmp .eq 7, 3) := by decide +kernel
theorem d_KWriter_put_78 : decode b_KWriter_put 78 = .ok (.iconst 1, 1) := by decide +kernel
theorem d_KWriter_put_79 : decode b_KWriter_put 79 = .ok (.goto 4, 3) := by decide +kernel
theorem d_KWriter_put_82 : decode b_KWriter_put 82 = .ok (.iconst 0, 1) := by decide +kernel
theorem d_KWriter_put_83 : decode b_KWriter_put 83 = .ok (.putfield 48, 3) := by decide +kernel
theorem d_KWriter_put_86 : decode b_KWriter_put 86 = .ok (.aload_n 0, 1) := by decide +kernel
theorem d_KWriter_put_87 : decode b_KWriter_put 87 = .ok (.dup, 1) := by decide +kernel
theorem d_KWriter_put_88 : decode b_KWriter_put 88 = .ok (.getfield 52, 3) := by decide +kernel
theorem d_KWriter_put_91 : decode b_KWriter_put 91 = .ok (.iconst 1, 1) := by decide +kernel
theorem d_KWriter_put_92 : decode b_KWriter_put 92 = .ok (.iadd, 1) := by decide +kernel
theorem d_KWriter_put_93 : decode b_KWriter_put 93 = .ok (.putfield 52, 3) := by decide +kernel
theorem d_KWriter_put_96 : decode b_KWriter_put 96 = .ok (.iload_n 1, 1) := by decide +kernel
theorem d_KWriter_put_97 : decode b_KWriter_put 97 = .ok (.invokestatic 33, 3) := by decide +kernel
theorem d_KWriter_put_100 : decode b_KWriter_put 100 = .ok (.istore_n 2, 1) := by decide +kernel
theorem d_KWriter_put_101 : decode b_KWriter_put 101 = .ok (.iload_n 2, 1) := by decide +kernel
theorem d_KWriter_put_102 : decode b_KWriter_put 102 = .ok (.iconst 1, 1) := by decide +kernel
theorem d_KWriter_put_103 : decode b_KWriter_put 103 = .ok (.isub, 1) := by decide +kernel
theorem d_KWriter_put_104 : decode b_KWriter_put 104 = .ok (.istore_n 3, 1) := by decide +kernel
theorem d_KWriter_put_105 : decode b_KWriter_put 105 = .ok (.iload_n 3, 1) := by decide +kernel
theorem d_KWriter_put_106 : decode b_KWriter_put 106 = .ok (.ifCond .lt 113, 3) := by decide +kernel
theorem d_KWriter_put_109 : decode b_KWriter_put 109 = .ok (.iload_n 2, 1) := by decide +kernel
theorem d_KWriter_put_110 : decode b_KWriter_put 110 = .ok (.iconst 1, 1) := by decide +kernel
theorem d_KWriter_put_111 : decode b_KWriter_put 111 = .ok (.if_icmp .ne 7, 3) := by decide +kernel
theorem d_KWriter_put_114 : decode b_KWriter_put 114 = .ok (.iload_n 1, 1) := by decide +kernel
theorem d_KWriter_put_115 : decode b_KWriter_put 115 = .ok (.goto 58, 3) := by decide +kernel
theorem d_KWriter_put_118 : decode b_KWriter_put 118 = .ok (.iload_n 3, 1) := by decide +kernel
theorem d_KWriter_put_119 : decode b_KWriter_put 119 = .ok (.iload_n 2, 1) := by decide +kernel
theorem d_KWriter_put_120 : decode b_KWriter_put 120 = .ok (.iconst 1, 1) := by decide +kernel
theorem d_KWriter_put_121 : decode b_KWriter_put 121 = .ok (.isub, 1) := by decide +kernel
theorem d_KWriter_put_122 : decode b_KWriter_put 122 = .ok (.if_icmp .ne 38, 3) := by decide +kernel
theorem d_KWriter_put_125 : decode b_KWriter_put 125 = .ok (.iload_n 2, 1) := by decide +kernel
theorem d_KWriter_put_126 : decode b_KWriter_put 126 = .ok (.iconst 2, 1) := by decide +kernel
theorem d_KWriter_put_127 : decode b_KWriter_put 127 = .ok (.if_icmp .ne 9, 3) := by decide +kernel
theorem d_KWriter_put_130 : decode b_KWriter_put 130 = .ok (.sipush 192, 3) := by decide +kernel
theorem d_KWriter_put_133 : decode b_KWriter_put 133 = .ok (.goto 17, 3) := by decide +kernel
theorem d_KWriter_put_136 : decode b_KWriter_put 136 = .ok (.iload_n 2, 1) := by decide +kernel
theorem d_KWriter_put_137 : decode b_KWriter_put 137 = .ok (.iconst 3, 1) := by decide +kernel
theorem d_KWriter_put_138 : decode b_KWriter_put 138 = .ok (.if_icmp .ne 9, 3) := by decide +kernel
theorem d_KWriter_put_141 : decode b_KWriter_put 141 = .ok (.sipush 224, 3) := by decide +kernel
theorem d_KWriter_put_144 : decode b_KWriter_put 144 = .ok (.goto 6, 3) := by decide +kernel
theorem d_KWriter_put_147 : decode b_KWriter_put 147 = .ok (.sipush 240, 3) := by decide +kernel
theorem d_KWriter_put_150 : decode b_KWriter_put 150 = .ok (.iload_n 1, 1) := by decide +kernel
theorem d_KWriter_put_151 : decode b_KWriter_put 151 = .ok (.bipush 6, 2) := by decide +kernel
theorem d_KWriter_put_153 : decode b_KWriter_put 153 = .ok (.iload_n 3, 1) := by decide +kernel
theorem d_KWriter_put_154 : decode b_KWriter_put 154 = .ok (.imul, 1) := by decide +kernel
theorem d_KWriter_put_155 : decode b_KWriter_put 155 = .ok (.ishr, 1) := by decide +kernel
theorem d_KWriter_put_156 : decode b_KWriter_put 156 = .ok (.ior, 1) := by decide +kernel
theorem d_KWriter_put_157 : decode b_KWriter_put 157 = .ok (.goto 16, 3) := by decide +kernel
theorem d_KWriter_put_160 : decode b_KWriter_put 160 = .ok (.sipush 128, 3) := by decide +kernel
theorem d_KWriter_put_163 : decode b_KWriter_put 163 = .ok (.iload_n 1, 1) := by decide +kernel
theorem d_KWriter_put_164 : decode b_KWriter_put 164 = .ok (.bipush 6, 2) := by decide +kernel
theorem d_KWriter_put_166 : decode b_KWriter_put 166 = .ok (.iload_n 3, 1) := by decide +kernel
theorem d_KWriter_put_167 : decode b_KWriter_put 167 = .ok (.imul, 1) := by decide +kernel
theorem d_KWriter_put_168 : decode b_KWriter_put 168 = .ok (.ishr, 1) := by decide +kernel
theorem d_KWriter_put_169 : decode b_KWriter_put 169 = .ok (.bipush 63, 2) := by decide +kernel
theorem d_KWriter_put_171 : decode b_KWriter_put 171 = .ok (.iand, 1) := by decide +kernel
theorem d_KWriter_put_172 : decode b_KWriter_put 172 = .ok (.ior, 1) := by decide +kernel
theorem d_KWriter_put_173 : decode b_KWriter_put 173 = .ok (.istore 4, 2) := by decide +kernel
theorem d_KWriter_put_175 : decode b_KWriter_put 175 = .ok (.aload_n 0, 1) := by decide +kernel
theorem d_KWriter_put_176 : decode b_KWriter_put 176 = .ok (.getfield 26, 3) := by decide +kernel
theorem d_KWriter_put_179 : decode b_KWriter_put 179 = .ok (.ifCond .ne 24, 3) := by decide +kernel
theorem d_KWriter_put_182 : decode b_KWriter_put 182 = .ok (.aload_n 0, 1) := by decide +kernel
theorem d_KWriter_put_183 : decode b_KWriter_put 183 = .ok (.getfield 30, 3) := by decide +kernel
theorem d_KWriter_put_186 : decode b_KWriter_put 186 = .ok (.ldc 37, 2) := by decide +kernel
theorem d_KWriter_put_188 : decode b_KWriter_put 188 = .ok (.if_icmp .ge 15, 3) := by decide +kernel
theorem d_KWriter_put_191 : decode b_KWriter_put 191 = .ok (.aload_n 0, 1) := by decide +kernel
theorem d_KWriter_put_192 : decode b_KWriter_put 192 = .ok (.getfield 22, 3) := by decide +kernel
theorem d_KWriter_put_195 : decode b_KWriter_put 195 = .ok (.aload_n 0, 1) := by decide +kernel
theorem d_KWriter_put_196 : decode b_KWriter_put 196 = .ok (.getfield 30, 3) := by decide +kernel
theorem d_KWriter_put_199 : decode b_KWriter_put 199 = .ok (.iload 4, 2) := by decide +kernel
theorem d_KWriter_put_201 : decode b_KWriter_put 201 = .ok (.i2b, 1) := by decide +kernel
theorem d_KWriter_put_202 : decode b_KWriter_put 202 = .ok (.bastore, 1) := by decide +kernel
theorem d_KWriter_put_203 : decode b_KWriter_put 203 = .ok (.aload_n 0, 1) := by decide +kernel
theorem d_KWriter_put_204 : decode b_KWriter_put 204 = .ok (.dup, 1) := by decide +kernel
theorem d_KWriter_put_205 : decode b_KWriter_put 205 = .ok (.getfield 30, 3) := by decide +kernel
theorem d_KWriter_put_208 : decode b_KWriter_put 208 = .ok (.iconst 1, 1) := by decide +kernel
theorem d_KWriter_put_209 : decode b_KWriter_put 209 = .ok (.iadd, 1) := by decide +kernel
theorem d_KWriter_put_210 : decode b_KWriter_put 210 = .ok (.putfield 30, 3) := by decide +kernel
theorem d_KWriter_put_213 : decode b_KWriter_put 213 = .ok (.iinc 3 (-1), 3) := by decide +kernel
theorem d_KWriter_put_216 : decode b_KWriter_put 216 = .ok (.goto (-111), 3) := by decide +kernel
theorem d_KWriter_put_219 : decode b_KWriter_put 219 = .ok (.aload_n 0, 1) := by decide +kernel
theorem d_KWriter_put_220 : decode b_KWriter_put 220 = .ok (.aload_n 0, 1) := by decide +kernel
theorem d_KWriter_put_221 : decode b_KWriter_put 221 = .ok (.getfield 30, 3) := by decide +kernel
theorem d_KWriter_put_224 : decode b_KWriter_put 224 = .ok (.ldc 61, 2) := by decide +kernel
theorem d_KWriter_put_226 : decode b_KWriter_put 226 = .ok (.if_icmp .le 8, 3) := by decide +kernel
theorem d_KWriter_put_229 : decode b_KWriter_put 229 = .ok (.ldc 61, 2) := by decide +kernel
theorem d_KWriter_put_231 : decode b_KWriter_put 231 = .ok (.goto 7, 3) := by decide +kernel
theorem d_KWriter_put_234 : decode b_KWriter_put 234 = .ok (.aload_n 0, 1) := by decide +kernel
theorem d_KWriter_put_235 : decode b_KWriter_put 235 = .ok (.getfield 30, 3) := by decide +kernel
theorem d_KWriter_put_238 : decode b_KWriter_put 238 = .ok (.putfield 30, 3) := by decide +kernel
theorem d_KWriter_put_241 : decode b_KWriter_put 241 = .ok (.return_, 1) := by decide +kernel
/-- KWriter_put -/
def w_KWriter_put (L : Nat → Nat) (a1 : Int) (Q : IS → Prop) (σ : IS) : Prop := WJ (fun (s3 : Unit) (σ4 : IS) => w_KWriter_length L a1 (fun v6 σ5 => inR (v6 - 1) ∧ WL (fun (K7 : Int → IS → Prop) (s9 : Int) (σ10 : IS) => if s9 < 0 then Q (pf σ10 17 4 (if 262152 < (σ10.1 17 4) then (262152 : Int) else (σ10.1 17 4))) else WJ (fun (s18 : Int) (σ19 : IS) => WJ (fun (s22 : Unit) (σ23 : IS) => inR ((σ23.1 17 4) + 1) ∧ inR (s9 + (-1)) ∧ K7 (s9 + (-1)) (pf σ23 17 4 ((σ23.1 17 4) + 1))) (fun J20 => if (σ19.1 17 3) = 0 ∧ ((σ19.1 17 4) < 262144) then inL L 244 (σ19.1 17 4) ∧ J20 () (pr σ19 244 (Int.toNat (σ19.1 17 4)) (nb s18)) else J20 () σ19)) (fun J16 => if v6 = 1 then J16 a1 σ10 else inR (v6 - 1) ∧ if s9 = (v6 - 1) then inR (6 * s9) ∧ J16 (io (if v6 = 2 then (192 : Int) else (if v6 = 3 then (224 : Int) else (240 : Int))) (isr a1 (6 * s9))) σ10 else inR (6 * s9) ∧ J16 (io 128 (ia (isr a1 (6 * s9)) 63)) σ10)) (v6 - 1) σ5) σ4) (fun J1 => if (σ.1 17 3) = 1 then w_KWriter_length L a1 (fun v67 σ66 => inR ((σ.1 17 4) + v67) ∧ if 262144 < ((σ.1 17 4) + v67) then J1 () σ66 else (σ66.1 17 2) = 16 ∧ w_KReader_addLetter L a1 (fun σ70 => J1 () σ70) σ66) σ else if (σ.1 17 3) = 2 then WJ (fun (s49 : Int) (σ50 : IS) => is01 s49 ∧ inR ((σ50.1 17 9) + 1) ∧ J1 () (pf (pf σ50 17 5 s49) 17 9 ((σ50.1 17 9) + 1))) (fun J47 => WJ (fun (s55 : Unit) (σ56 : IS) => J47 1 σ56) (fun J53 => if (σ.1 17 5) = 0 then (σ.1 17 2) = 16 ∧ w_KReader_letters L  (fun v60 σ59 => if (σ.1 17 9) < v60 then (σ59.1 17 2) = 16 ∧ w_KReader_letter L (σ59.1 17 9) (fun v64 σ63 => if v64 = a1 then J47 0 σ63 else J53 () σ63) σ59 else J53 () σ59) σ else J53 () σ)) else J1 () σ)
set_option maxHeartbeats 4000000 in
set_option maxRecDepth 20000 in
theorem s_KWriter_put {L : Nat → Nat} (hL : ∀ r, L r < 2147483648) {d : Nat} (hd : 1 ≤ d) {a1 : Int} {Q : IS → Prop} {σ : IS}  (h : w_KWriter_put L a1 Q σ) : OkI BF L d 16 b_KWriter_put 5 0 0 [] [some (.inr 17), some (.inl a1)] σ (qv Q) := by
  unfold w_KWriter_put at h
  obtain ⟨d, rfl⟩ : ∃ e, d = e + 1 := ⟨d - 1, by omega⟩
  refine k_sb (lv' := [some (.inr 17), some (.inl a1), none, none, none]) (sb_s (sb_s (sb_e (sb_e (sb_e sb_nil))))) ?_
  refine k_aload_n d_KWriter_put_0 rfl ?_
  refine k_getI (x := (σ.1 17 3)) d_KWriter_put_1 fl_16_26 ob_17 rfl rfl ?_
  refine k_iconst d_KWriter_put_4 cI_1 ?_
  refine k_join (S := Unit) (pc' := 96) (st' := fun s3 => []) (lv' := fun s3 => [some (.inr 17), some (.inl a1), none, none, none]) (fun s3 σ4 h => ?_) (fun J1 hJ2 h => ?_) h
  · refine k_iload_n d_KWriter_put_96 rfl ?_
    refine k_csi [.inl a1] d_KWriter_put_97 ml_16_33 (Or.inl rfl) rfl rfl rfl (s_KWriter_length hL (by omega)  h) (fun v6 σ5 h => ?_)
    refine k_istore_n (lv' := [some (.inr 17), some (.inl a1), some (.inl v6), none, none]) d_KWriter_put_100 rfl rfl ?_
    refine k_iload_n d_KWriter_put_101 rfl ?_
    refine k_iconst d_KWriter_put_102 cI_1 ?_
    obtain ⟨p44, h⟩ := h
    refine k_isub d_KWriter_put_103 p44 ?_
    refine k_istore_n (lv' := [some (.inr 17), some (.inl a1), some (.inl v6), some (.inl (v6 - 1)), none]) d_KWriter_put_104 rfl rfl ?_
    refine k_sb (lv' := [some (.inr 17), some (.inl a1), some (.inl v6), some (.inl (v6 - 1)), none]) (sb_s (sb_s (sb_s (sb_s (sb_s sb_nil))))) ?_
    refine k_loop (S := Int) (st := fun _ => []) (lv := fun s9 => [some (.inr 17), some (.inl a1), some (.inl v6), some (.inl s9), none]) (fun K7 hK8 s9 σ10 h => ?_) (v6 - 1) _ h
    refine k_iload_n d_KWriter_put_105 rfl ?_
    refine k_iflt d_KWriter_put_106 rfl (fun c11 => ?_) (fun c11 => ?_)
    · have h := ipos c11 h
      refine k_aload_n d_KWriter_put_219 rfl ?_
      refine k_aload_n d_KWriter_put_220 rfl ?_
      refine k_getI (x := (σ10.1 17 4)) d_KWriter_put_221 fl_16_30 ob_17 rfl rfl ?_
      refine k_ldc d_KWriter_put_224 ks_16_61 cL_262152 ?_
      have hV12 : OkI BF L (d + 1) 16 b_KWriter_put 5 0 238 [.inl (if 262152 < (σ10.1 17 4) then (262152 : Int) else (σ10.1 17 4)), .inr 17] [some (.inr 17), some (.inl a1), some (.inl v6), some (.inl s9), none] σ10 (qv Q) := by
        refine k_putI d_KWriter_put_238 fl_16_30 ob_17 rfl ?_
        exact k_ret d_KWriter_put_241 h
      refine k_icle d_KWriter_put_226 rfl (fun c13 => ?_) (fun c13 => ?_)
      · have hV15 := k_eqI (if_neg c13) hV12
        refine k_aload_n d_KWriter_put_234 rfl ?_
        refine k_getI (x := (σ10.1 17 4)) d_KWriter_put_235 fl_16_30 ob_17 rfl rfl ?_
        exact hV15
      · have hV14 := k_eqI (if_pos c13) hV12
        refine k_ldc d_KWriter_put_229 ks_16_61 cL_262152 ?_
        refine k_goto d_KWriter_put_231 rfl ?_
        exact hV14
    · have h := ineg c11 h
      refine k_iload_n d_KWriter_put_109 rfl ?_
      refine k_iconst d_KWriter_put_110 cI_1 ?_
      refine k_join (S := Int) (pc' := 173) (st' := fun s18 => [.inl s18]) (lv' := fun s18 => [some (.inr 17), some (.inl a1), some (.inl v6), some (.inl s9), none]) (fun s18 σ19 h => ?_) (fun J16 hJ17 h => ?_) h
      · refine k_istore (lv' := [some (.inr 17), some (.inl a1), some (.inl v6), some (.inl s9), some (.inl s18)]) d_KWriter_put_173 rfl rfl ?_
        refine k_aload_n d_KWriter_put_175 rfl ?_
        refine k_getI (x := (σ19.1 17 3)) d_KWriter_put_176 fl_16_26 ob_17 rfl rfl ?_
        refine k_join (S := Unit) (pc' := 203) (st' := fun s22 => []) (lv' := fun s22 => [some (.inr 17), some (.inl a1), some (.inl v6), some (.inl s9), none]) (fun s22 σ23 h => ?_) (fun J20 hJ21 h => ?_) h
        · refine k_aload_n d_KWriter_put_203 rfl ?_
          refine k_dup d_KWriter_put_204 ?_
          refine k_getI (x := (σ23.1 17 4)) d_KWriter_put_205 fl_16_30 ob_17 rfl rfl ?_
          refine k_iconst d_KWriter_put_208 cI_1 ?_
          obtain ⟨p25, h⟩ := h
          refine k_iadd d_KWriter_put_209 p25 ?_
          refine k_putI d_KWriter_put_210 fl_16_30 ob_17 rfl ?_
          obtain ⟨p24, h⟩ := h
          refine k_iinc (lv' := [some (.inr 17), some (.inl a1), some (.inl v6), some (.inl (s9 + (-1))), none]) d_KWriter_put_213 cI_m1 rfl rfl p24 rfl ?_
          refine k_goto d_KWriter_put_216 rfl ?_
          exact k_sb (sb_s (sb_s (sb_s (sb_s (sb_s sb_nil))))) (hK8 (s9 + (-1)) _ h)
        · have hX27 : ((σ19.1 17 3) = 0 ∧ ((σ19.1 17 4) < 262144)) → OkI BF L (d + 1) 16 b_KWriter_put 5 0 191 [] [some (.inr 17), some (.inl a1), some (.inl v6), some (.inl s9), some (.inl s18)] σ19 (qv Q) := fun e29 => by
            have h := ipos e29 h
            refine k_aload_n d_KWriter_put_191 rfl ?_
            refine k_getR d_KWriter_put_192 fl_16_22 ob_17 rfl ?_
            refine k_aload_n d_KWriter_put_195 rfl ?_
            refine k_getI (x := (σ19.1 17 4)) d_KWriter_put_196 fl_16_30 ob_17 rfl rfl ?_
            refine k_iload d_KWriter_put_199 rfl ?_
            refine k_i2b d_KWriter_put_201 ?_
            obtain ⟨p26, h⟩ := h
            refine k_bst d_KWriter_put_202 rb_244 p26 (nb_in _) ?_
            exact k_sb (sb_s (sb_s (sb_s (sb_s (sb_n sb_nil))))) (hJ21 () _ h)
          have hY28 : ¬ ((σ19.1 17 3) = 0 ∧ ((σ19.1 17 4) < 262144)) → OkI BF L (d + 1) 16 b_KWriter_put 5 0 203 [] [some (.inr 17), some (.inl a1), some (.inl v6), some (.inl s9), some (.inl s18)] σ19 (qv Q) := fun e29 => by
            have h := ineg e29 h
            exact k_sb (sb_s (sb_s (sb_s (sb_s (sb_n sb_nil))))) (hJ21 () _ h)
          refine k_ifne d_KWriter_put_179 rfl (fun c30 => ?_) (fun c30 => ?_)
          · exact hY28 (fun z => c30 z.1)
          · refine k_aload_n d_KWriter_put_182 rfl ?_
            refine k_getI (x := (σ19.1 17 4)) d_KWriter_put_183 fl_16_30 ob_17 rfl rfl ?_
            refine k_ldc d_KWriter_put_186 ks_16_37 cL_262144 ?_
            refine k_icge d_KWriter_put_188 rfl (fun c31 => ?_) (fun c31 => ?_)
            · exact hY28 (fun z => (c31) z.2)
            · exact hX27 (⟨c30, c31⟩)
      · refine k_icne d_KWriter_put_111 rfl (fun c32 => ?_) (fun c32 => ?_)
        · have h := ineg c32 h
          refine k_iload_n d_KWriter_put_118 rfl ?_
          refine k_iload_n d_KWriter_put_119 rfl ?_
          refine k_iconst d_KWriter_put_120 cI_1 ?_
          obtain ⟨p43, h⟩ := h
          refine k_isub d_KWriter_put_121 p43 ?_
          refine k_icne d_KWriter_put_122 rfl (fun c33 => ?_) (fun c33 => ?_)
          · have h := ineg c33 h
            refine k_sipush d_KWriter_put_160 cS_128 ?_
            refine k_iload_n d_KWriter_put_163 rfl ?_
            refine k_bipush d_KWriter_put_164 cB_6 ?_
            refine k_iload_n d_KWriter_put_166 rfl ?_
            obtain ⟨p34, h⟩ := h
            refine k_imul d_KWriter_put_167 p34 ?_
            refine k_ishr d_KWriter_put_168 ?_
            refine k_bipush d_KWriter_put_169 cB_63 ?_
            refine k_iand d_KWriter_put_171 ?_
            refine k_ior d_KWriter_put_172 ?_
            exact k_sb (sb_s (sb_s (sb_s (sb_s (sb_s sb_nil))))) (hJ17 (io 128 (ia (isr a1 (6 * s9)) 63)) _ h)
          · have h := ipos c33 h
            refine k_iload_n d_KWriter_put_125 rfl ?_
            refine k_iconst d_KWriter_put_126 cI_2 ?_
            have hV36 : OkI BF L (d + 1) 16 b_KWriter_put 5 0 150 [.inl (if v6 = 2 then (192 : Int) else (if v6 = 3 then (224 : Int) else (240 : Int)))] [some (.inr 17), some (.inl a1), some (.inl v6), some (.inl s9), none] σ10 (qv Q) := by
              refine k_iload_n d_KWriter_put_150 rfl ?_
              refine k_bipush d_KWriter_put_151 cB_6 ?_
              refine k_iload_n d_KWriter_put_153 rfl ?_
              obtain ⟨p35, h⟩ := h
              refine k_imul d_KWriter_put_154 p35 ?_
              refine k_ishr d_KWriter_put_155 ?_
              refine k_ior d_KWriter_put_156 ?_
              refine k_goto d_KWriter_put_157 rfl ?_
              exact k_sb (sb_s (sb_s (sb_s (sb_s (sb_s sb_nil))))) (hJ17 (io (if v6 = 2 then (192 : Int) else (if v6 = 3 then (224 : Int) else (240 : Int))) (isr a1 (6 * s9))) _ h)
            refine k_icne d_KWriter_put_127 rfl (fun c37 => ?_) (fun c37 => ?_)
            · have hV39 := k_eqI (if_neg c37) hV36
              refine k_iload_n d_KWriter_put_136 rfl ?_
              refine k_iconst d_KWriter_put_137 cI_3 ?_
              refine k_icne d_KWriter_put_138 rfl (fun c40 => ?_) (fun c40 => ?_)
              · have hV42 := k_eqI (if_neg c40) hV39
                refine k_sipush d_KWriter_put_147 cS_240 ?_
                exact hV42
              · have hV41 := k_eqI (if_pos c40) hV39
                refine k_sipush d_KWriter_put_141 cS_224 ?_
                refine k_goto d_KWriter_put_144 rfl ?_
                exact hV41
            · have hV38 := k_eqI (if_pos c37) hV36
              refine k_sipush d_KWriter_put_130 cS_192 ?_
              refine k_goto d_KWriter_put_133 rfl ?_
              exact hV38
        · have h := ipos c32 h
          refine k_iload_n d_KWriter_put_114 rfl ?_
          refine k_goto d_KWriter_put_115 rfl ?_
          exact k_sb (sb_s (sb_s (sb_s (sb_s (sb_s sb_nil))))) (hJ17 a1 _ h)
  · refine k_icne d_KWriter_put_5 rfl (fun c45 => ?_) (fun c45 => ?_)
    · have h := ineg c45 h
      refine k_aload_n d_KWriter_put_33 rfl ?_
      refine k_getI (x := (σ.1 17 3)) d_KWriter_put_34 fl_16_26 ob_17 rfl rfl ?_
      refine k_iconst d_KWriter_put_37 cI_2 ?_
      refine k_icne d_KWriter_put_38 rfl (fun c46 => ?_) (fun c46 => ?_)
      · have h := ineg c46 h
        exact k_sb (sb_s (sb_s (sb_s (sb_s (sb_s sb_nil))))) (hJ2 () _ h)
      · have h := ipos c46 h
        refine k_aload_n d_KWriter_put_41 rfl ?_
        refine k_aload_n d_KWriter_put_42 rfl ?_
        refine k_getI (x := (σ.1 17 5)) d_KWriter_put_43 fl_16_48 ob_17 rfl rfl ?_
        refine k_join (S := Int) (pc' := 83) (st' := fun s49 => [.inl s49, .inr 17]) (lv' := fun s49 => [some (.inr 17), some (.inl a1), none, none, none]) (fun s49 σ50 h => ?_) (fun J47 hJ48 h => ?_) h
        · obtain ⟨p52, h⟩ := h
          refine k_putZ d_KWriter_put_83 fl_16_48 ob_17 rfl p52 ?_
          refine k_aload_n d_KWriter_put_86 rfl ?_
          refine k_dup d_KWriter_put_87 ?_
          refine k_getI (x := (σ50.1 17 9)) d_KWriter_put_88 fl_16_52 ob_17 rfl rfl ?_
          refine k_iconst d_KWriter_put_91 cI_1 ?_
          obtain ⟨p51, h⟩ := h
          refine k_iadd d_KWriter_put_92 p51 ?_
          refine k_putI d_KWriter_put_93 fl_16_52 ob_17 rfl ?_
          exact k_sb (sb_s (sb_s (sb_s (sb_s (sb_s sb_nil))))) (hJ2 () _ h)
        · refine k_join (S := Unit) (pc' := 78) (st' := fun s55 => [.inr 17]) (lv' := fun s55 => [some (.inr 17), some (.inl a1), none, none, none]) (fun s55 σ56 h => ?_) (fun J53 hJ54 h => ?_) h
          · refine k_iconst d_KWriter_put_78 cI_1 ?_
            refine k_goto d_KWriter_put_79 rfl ?_
            exact k_sb (sb_s (sb_s (sb_s (sb_s (sb_s sb_nil))))) (hJ48 1 _ h)
          · refine k_ifne d_KWriter_put_46 rfl (fun c57 => ?_) (fun c57 => ?_)
            · have h := ineg c57 h
              exact k_sb (sb_s (sb_s (sb_s (sb_s (sb_s sb_nil))))) (hJ54 () _ h)
            · have h := ipos c57 h
              refine k_aload_n d_KWriter_put_49 rfl ?_
              refine k_getI (x := (σ.1 17 9)) d_KWriter_put_50 fl_16_52 ob_17 rfl rfl ?_
              refine k_aload_n d_KWriter_put_53 rfl ?_
              obtain ⟨y58, h⟩ := h
              refine k_getD16 d_KWriter_put_54 fl_16_38 ob_17 rfl (rfl.trans y58) ?_
              refine k_cvi [] d_KWriter_put_57 ml_16_55 rfl rfl ob_16 rfl (s_KReader_letters hL (by omega)  h) (fun v60 σ59 h => ?_)
              refine k_icge d_KWriter_put_60 rfl (fun c61 => ?_) (fun c61 => ?_)
              · have h := ineg c61 h
                exact k_sb (sb_s (sb_s (sb_s (sb_s (sb_s sb_nil))))) (hJ54 () _ h)
              · have h := ipos c61 h
                refine k_aload_n d_KWriter_put_63 rfl ?_
                obtain ⟨y62, h⟩ := h
                refine k_getD16 d_KWriter_put_64 fl_16_38 ob_17 rfl (rfl.trans y62) ?_
                refine k_aload_n d_KWriter_put_67 rfl ?_
                refine k_getI (x := (σ59.1 17 9)) d_KWriter_put_68 fl_16_52 ob_17 rfl rfl ?_
                refine k_cvi [.inl (σ59.1 17 9)] d_KWriter_put_71 ml_16_58 rfl rfl ob_16 rfl (s_KReader_letter hL (by omega)  h) (fun v64 σ63 h => ?_)
                refine k_iload_n d_KWriter_put_74 rfl ?_
                refine k_iceq d_KWriter_put_75 rfl (fun c65 => ?_) (fun c65 => ?_)
                · have h := ipos c65 h
                  refine k_iconst d_KWriter_put_82 cI_0 ?_
                  exact k_sb (sb_s (sb_s (sb_s (sb_s (sb_s sb_nil))))) (hJ48 0 _ h)
                · have h := ineg c65 h
                  exact k_sb (sb_s (sb_s (sb_s (sb_s (sb_s sb_nil))))) (hJ54 () _ h)
    · have h := ipos c45 h
      refine k_aload_n d_KWriter_put_8 rfl ?_
      refine k_getI (x := (σ.1 17 4)) d_KWriter_put_9 fl_16_30 ob_17 rfl rfl ?_
      refine k_iload_n d_KWriter_put_12 rfl ?_
      refine k_csi [.inl a1] d_KWriter_put_13 ml_16_33 (Or.inl rfl) rfl rfl rfl (s_KWriter_length hL (by omega)  h) (fun v67 σ66 h => ?_)
      obtain ⟨p72, h⟩ := h
      refine k_iadd d_KWriter_put_16 p72 ?_
      refine k_ldc d_KWriter_put_17 ks_16_37 cL_262144 ?_
      refine k_icgt d_KWriter_put_19 rfl (fun c68 => ?_) (fun c68 => ?_)
      · have h := ipos c68 h
        exact k_sb (sb_s (sb_s (sb_s (sb_s (sb_s sb_nil))))) (hJ2 () _ h)
      · have h := ineg c68 h
        refine k_aload_n d_KWriter_put_22 rfl ?_
        obtain ⟨y69, h⟩ := h
        refine k_getD16 d_KWriter_put_23 fl_16_38 ob_17 rfl (rfl.trans y69) ?_
        refine k_iload_n d_KWriter_put_26 rfl ?_
        refine k_cvv [.inl a1] d_KWriter_put_27 ml_16_42 rfl rfl ob_16 rfl (s_KReader_addLetter hL (by omega)  h) (fun σ70 h => ?_)
        refine k_goto d_KWriter_put_30 rfl ?_
        exact k_sb (sb_s (sb_s (sb_s (sb_s (sb_s sb_nil))))) (hJ2 () _ h)
theorem d_KWriter_say_0 : decode b_KWriter_say 0 = .ok (.iconst 0, 1) := by decide +kernel
theorem d_KWriter_say_1 : decode b_KWriter_say 1 = .ok (.istore_n 2, 1) := by decide +kernel
theorem d_KWriter_say_2 : decode b_KWriter_say 2 = .ok (.iload_n 2, 1) := by decide +kernel
theorem d_KWriter_say_3 : decode b_KWriter_say 3 = .ok (.aload_n 1, 1) := by decide +kernel
theorem d_KWriter_say_4 : decode b_KWriter_say 4 = .ok (.invokevirtual 63, 3) := by decide +kernel
theorem d_KWriter_say_7 : decode b_KWriter_say 7 = .ok (.if_icmp .ge 18, 3) := by decide +kernel
theorem d_KWriter_say_10 : decode b_KWriter_say 10 = .ok (.aload_n 0, 1) := by decide +kernel
theorem d_KWriter_say_11 : decode b_KWriter_say 11 = .ok (.aload_n 1, 1) := by decide +kernel
theorem d_KWriter_say_12 : decode b_KWriter_say 12 = .ok (.iload_n 2, 1) := by decide +kernel
theorem d_KWriter_say_13 : decode b_KWriter_say 13 = .ok (.invokevirtual 67, 3) := by decide +kernel
theorem d_KWriter_say_16 : decode b_KWriter_say 16 = .ok (.invokevirtual 71, 3) := by decide +kernel
theorem d_KWriter_say_19 : decode b_KWriter_say 19 = .ok (.iinc 2 1, 3) := by decide +kernel
theorem d_KWriter_say_22 : decode b_KWriter_say 22 = .ok (.goto (-20), 3) := by decide +kernel
theorem d_KWriter_say_25 : decode b_KWriter_say 25 = .ok (.return_, 1) := by decide +kernel
/-- KWriter_say -/
def w_KWriter_say (L : Nat → Nat) (a1 : Nat) (Q : IS → Prop) (σ : IS) : Prop := WL (fun (K1 : Int → IS → Prop) (s3 : Int) (σ4 : IS) => if s3 < (tN a1) then ((0 : Int) ≤ s3 ∧ s3 < tN a1) ∧ w_KWriter_put L (tC a1 s3) (fun σ6 => inR (s3 + 1) ∧ K1 (s3 + 1) σ6) σ4 else Q σ4) 0 σ
set_option maxHeartbeats 4000000 in
set_option maxRecDepth 20000 in
theorem s_KWriter_say {L : Nat → Nat} (hL : ∀ r, L r < 2147483648) {d : Nat} (hd : 2 ≤ d) {a1 : Nat} {Q : IS → Prop} {σ : IS} (ha1 : isT a1) (h : w_KWriter_say L a1 Q σ) : OkI BF L d 16 b_KWriter_say 3 0 0 [] [some (.inr 17), some (.inr a1)] σ (qv Q) := by
  unfold w_KWriter_say at h
  obtain ⟨d, rfl⟩ : ∃ e, d = e + 1 := ⟨d - 1, by omega⟩
  refine k_sb (lv' := [some (.inr 17), some (.inr a1), none]) (sb_s (sb_s (sb_e sb_nil))) ?_
  refine k_iconst d_KWriter_say_0 cI_0 ?_
  refine k_istore_n (lv' := [some (.inr 17), some (.inr a1), some (.inl 0)]) d_KWriter_say_1 rfl rfl ?_
  refine k_sb (lv' := [some (.inr 17), some (.inr a1), some (.inl 0)]) (sb_s (sb_s (sb_s sb_nil))) ?_
  refine k_loop (S := Int) (st := fun _ => []) (lv := fun s3 => [some (.inr 17), some (.inr a1), some (.inl s3)]) (fun K1 hK2 s3 σ4 h => ?_) 0 _ h
  refine k_iload_n d_KWriter_say_2 rfl ?_
  refine k_aload_n d_KWriter_say_3 rfl ?_
  refine k_tlen d_KWriter_say_4 ml_16_63 ha1 rfl ?_
  refine k_icge d_KWriter_say_7 rfl (fun c5 => ?_) (fun c5 => ?_)
  · have h := ineg c5 h
    exact k_ret d_KWriter_say_25 h
  · have h := ipos c5 h
    refine k_aload_n d_KWriter_say_10 rfl ?_
    refine k_aload_n d_KWriter_say_11 rfl ?_
    refine k_iload_n d_KWriter_say_12 rfl ?_
    obtain ⟨p9, h⟩ := h
    refine k_tchr d_KWriter_say_13 ml_16_67 ha1 p9 rfl ?_
    refine k_cvv [.inl (tC a1 s3)] d_KWriter_say_16 ml_16_71 rfl rfl ob_17 rfl (s_KWriter_put hL (by omega)  h) (fun σ6 h => ?_)
    obtain ⟨p8, h⟩ := h
    refine k_iinc (lv' := [some (.inr 17), some (.inr a1), some (.inl (s3 + 1))]) d_KWriter_say_19 cI_1 rfl rfl p8 rfl ?_
    refine k_goto d_KWriter_say_22 rfl ?_
    exact k_sb (sb_s (sb_s (sb_s sb_nil))) (hK2 (s3 + 1) _ h)
theorem d_KWriter_name_0 : decode b_KWriter_name 0 = .ok (.iconst 0, 1) := by decide +kernel
theorem d_KWriter_name_1 : decode b_KWriter_name 1 = .ok (.istore_n 2, 1) := by decide +kernel
theorem d_KWriter_name_2 : decode b_KWriter_name 2 = .ok (.iload_n 2, 1) := by decide +kernel
theorem d_KWriter_name_3 : decode b_KWriter_name 3 = .ok (.aload_n 0, 1) := by decide +kernel
theorem d_KWriter_name_4 : decode b_KWriter_name 4 = .ok (.getfield 74, 3) := by decide +kernel
theorem d_KWriter_name_7 : decode b_KWriter_name 7 = .ok (.getfield 78, 3) := by decide +kernel
theorem d_KWriter_name_10 : decode b_KWriter_name 10 = .ok (.iload_n 1, 1) := by decide +kernel
theorem d_KWriter_name_11 : decode b_KWriter_name 11 = .ok (.invokevirtual 84, 3) := by decide +kernel
theorem d_KWriter_name_14 : decode b_KWriter_name 14 = .ok (.if_icmp .ge 25, 3) := by decide +kernel
theorem d_KWriter_name_17 : decode b_KWriter_name 17 = .ok (.aload_n 0, 1) := by decide +kernel
theorem d_KWriter_name_18 : decode b_KWriter_name 18 = .ok (.aload_n 0, 1) := by decide +kernel
theorem d_KWriter_name_19 : decode b_KWriter_name 19 = .ok (.getfield 74, 3) := by decide +kernel
theorem d_KWriter_name_22 : decode b_KWriter_name 22 = .ok (.getfield 78, 3) := by decide +kernel
theorem d_KWriter_name_25 : decode b_KWriter_name 25 = .ok (.iload_n 1, 1) := by decide +kernel
theorem d_KWriter_name_26 : decode b_KWriter_name 26 = .ok (.iload_n 2, 1) := by decide +kernel
theorem d_KWriter_name_27 : decode b_KWriter_name 27 = .ok (.invokevirtual 87, 3) := by decide +kernel
theorem d_KWriter_name_30 : decode b_KWriter_name 30 = .ok (.invokevirtual 71, 3) := by decide +kernel
theorem d_KWriter_name_33 : decode b_KWriter_name 33 = .ok (.iinc 2 1, 3) := by decide +kernel
theorem d_KWriter_name_36 : decode b_KWriter_name 36 = .ok (.goto (-34), 3) := by decide +kernel
theorem d_KWriter_name_39 : decode b_KWriter_name 39 = .ok (.return_, 1) := by decide +kernel
/-- KWriter_name -/
def w_KWriter_name (L : Nat → Nat) (a1 : Int) (Q : IS → Prop) (σ : IS) : Prop := WL (fun (K1 : Int → IS → Prop) (s3 : Int) (σ4 : IS) => dyD (σ4.1 17 1) ∧ w_KBook_length L a1 (fun v7 σ6 => if s3 < v7 then dyD (σ6.1 17 1) ∧ w_KBook_at L a1 s3 (fun v11 σ10 => w_KWriter_put L v11 (fun σ12 => inR (s3 + 1) ∧ K1 (s3 + 1) σ12) σ10) σ6 else Q σ6) σ4) 0 σ
set_option maxHeartbeats 4000000 in
set_option maxRecDepth 20000 in
theorem s_KWriter_name {L : Nat → Nat} (hL : ∀ r, L r < 2147483648) {d : Nat} (hd : 2 ≤ d) {a1 : Int} {Q : IS → Prop} {σ : IS}  (h : w_KWriter_name L a1 Q σ) : OkI BF L d 16 b_KWriter_name 3 0 0 [] [some (.inr 17), some (.inl a1)] σ (qv Q) := by
  unfold w_KWriter_name at h
  obtain ⟨d, rfl⟩ : ∃ e, d = e + 1 := ⟨d - 1, by omega⟩
  refine k_sb (lv' := [some (.inr 17), some (.inl a1), none]) (sb_s (sb_s (sb_e sb_nil))) ?_
  refine k_iconst d_KWriter_name_0 cI_0 ?_
  refine k_istore_n (lv' := [some (.inr 17), some (.inl a1), some (.inl 0)]) d_KWriter_name_1 rfl rfl ?_
  refine k_sb (lv' := [some (.inr 17), some (.inl a1), some (.inl 0)]) (sb_s (sb_s (sb_s sb_nil))) ?_
  refine k_loop (S := Int) (st := fun _ => []) (lv := fun s3 => [some (.inr 17), some (.inl a1), some (.inl s3)]) (fun K1 hK2 s3 σ4 h => ?_) 0 _ h
  refine k_iload_n d_KWriter_name_2 rfl ?_
  refine k_aload_n d_KWriter_name_3 rfl ?_
  obtain ⟨y5, h⟩ := h
  refine k_getD (x := (σ4.1 17 1)) d_KWriter_name_4 fl_16_74 ob_17 rfl rfl (dyD_pos y5) ?_
  refine k_getR d_KWriter_name_7 fl_16_78 (doc_ob (dyD_doc y5)) (dfr_0 (dyD_doc y5)) ?_
  refine k_iload_n d_KWriter_name_10 rfl ?_
  refine k_cvi [.inl a1] d_KWriter_name_11 ml_16_84 rfl rfl ob_13 rfl (s_KBook_length hL (by omega)  h) (fun v7 σ6 h => ?_)
  refine k_icge d_KWriter_name_14 rfl (fun c8 => ?_) (fun c8 => ?_)
  · have h := ineg c8 h
    exact k_ret d_KWriter_name_39 h
  · have h := ipos c8 h
    refine k_aload_n d_KWriter_name_17 rfl ?_
    refine k_aload_n d_KWriter_name_18 rfl ?_
    obtain ⟨y9, h⟩ := h
    refine k_getD (x := (σ6.1 17 1)) d_KWriter_name_19 fl_16_74 ob_17 rfl rfl (dyD_pos y9) ?_
    refine k_getR d_KWriter_name_22 fl_16_78 (doc_ob (dyD_doc y9)) (dfr_0 (dyD_doc y9)) ?_
    refine k_iload_n d_KWriter_name_25 rfl ?_
    refine k_iload_n d_KWriter_name_26 rfl ?_
    refine k_cvi [.inl a1, .inl s3] d_KWriter_name_27 ml_16_87 rfl rfl ob_13 rfl (s_KBook_at hL (by omega)  h) (fun v11 σ10 h => ?_)
    refine k_cvv [.inl v11] d_KWriter_name_30 ml_16_71 rfl rfl ob_17 rfl (s_KWriter_put hL (by omega)  h) (fun σ12 h => ?_)
    obtain ⟨p14, h⟩ := h
    refine k_iinc (lv' := [some (.inr 17), some (.inl a1), some (.inl (s3 + 1))]) d_KWriter_name_33 cI_1 rfl rfl p14 rfl ?_
    refine k_goto d_KWriter_name_36 rfl ?_
    exact k_sb (sb_s (sb_s (sb_s sb_nil))) (hK2 (s3 + 1) _ h)
theorem d_KDoc_declares_0 : decode b_KDoc_declares 0 = .ok (.iload_n 2, 1) := by decide +kernel
theorem d_KDoc_declares_1 : decode b_KDoc_declares 1 = .ok (.iconst (-1), 1) := by decide +kernel
theorem d_KDoc_declares_2 : decode b_KDoc_declares 2 = .ok (.if_icmp .ne 19, 3) := by decide +kernel
theorem d_KDoc_declares_5 : decode b_KDoc_declares 5 = .ok (.aload_n 0, 1) := by decide +kernel
theorem d_KDoc_declares_6 : decode b_KDoc_declares 6 = .ok (.getfield 34, 3) := by decide +kernel
theorem d_KDoc_declares_9 : decode b_KDoc_declares 9 = .ok (.aload_n 0, 1) := by decide +kernel
theorem d_KDoc_declares_10 : decode b_KDoc_declares 10 = .ok (.getfield 45, 3) := by decide +kernel
theorem d_KDoc_declares_13 : decode b_KDoc_declares 13 = .ok (.iload_n 1, 1) := by decide +kernel
theorem d_KDoc_declares_14 : decode b_KDoc_declares 14 = .ok (.iaload, 1) := by decide +kernel
theorem d_KDoc_declares_15 : decode b_KDoc_declares 15 = .ok (.ldc 125, 2) := by decide +kernel
theorem d_KDoc_declares_17 : decode b_KDoc_declares 17 = .ok (.invokevirtual 127, 3) := by decide +kernel
theorem d_KDoc_declares_20 : decode b_KDoc_declares 20 = .ok (.ireturn, 1) := by decide +kernel
theorem d_KDoc_declares_21 : decode b_KDoc_declares 21 = .ok (.aload_n 0, 1) := by decide +kernel
theorem d_KDoc_declares_22 : decode b_KDoc_declares 22 = .ok (.getfield 61, 3) := by decide +kernel
theorem d_KDoc_declares_25 : decode b_KDoc_declares 25 = .ok (.iload_n 1, 1) := by decide +kernel
theorem d_KDoc_declares_26 : decode b_KDoc_declares 26 = .ok (.iaload, 1) := by decide +kernel
theorem d_KDoc_declares_27 : decode b_KDoc_declares 27 = .ok (.iload_n 2, 1) := by decide +kernel
theorem d_KDoc_declares_28 : decode b_KDoc_declares 28 = .ok (.if_icmp .ne 24, 3) := by decide +kernel
theorem d_KDoc_declares_31 : decode b_KDoc_declares 31 = .ok (.aload_n 0, 1) := by decide +kernel
theorem d_KDoc_declares_32 : decode b_KDoc_declares 32 = .ok (.getfield 58, 3) := by decide +kernel
theorem d_KDoc_declares_35 : decode b_KDoc_declares 35 = .ok (.iload_n 1, 1) := by decide +kernel
theorem d_KDoc_declares_36 : decode b_KDoc_declares 36 = .ok (.iaload, 1) := by decide +kernel
theorem d_KDoc_declares_37 : decode b_KDoc_declares 37 = .ok (.ifCond .lt 15, 3) := by decide +kernel
theorem d_KDoc_declares_40 : decode b_KDoc_declares 40 = .ok (.aload_n 0, 1) := by decide +kernel
theorem d_KDoc_declares_41 : decode b_KDoc_declares 41 = .ok (.iload_n 1, 1) := by decide +kernel
theorem d_KDoc_declares_42 : decode b_KDoc_declares 42 = .ok (.invokevirtual 131, 3) := by decide +kernel
theorem d_KDoc_declares_45 : decode b_KDoc_declares 45 = .ok (.ifCond .eq 7, 3) := by decide +kernel
theorem d_KDoc_declares_48 : decode b_KDoc_declares 48 = .ok (.iconst 1, 1) := by decide +kernel
theorem d_KDoc_declares_49 : decode b_KDoc_declares 49 = .ok (.goto 4, 3) := by decide +kernel
theorem d_KDoc_declares_52 : decode b_KDoc_declares 52 = .ok (.iconst 0, 1) := by decide +kernel
theorem d_KDoc_declares_53 : decode b_KDoc_declares 53 = .ok (.ireturn, 1) := by decide +kernel
/-- KDoc_declares -/
def w_KDoc_declares (L : Nat → Nat) (o : Nat) (a1 : Int) (a2 : Int) (Q : Int → IS → Prop) (σ : IS) : Prop := if a2 = (-1) then inL L (rfo o 8) a1 ∧ w_KBook_says L (σ.2 (rfo o 8) (Int.toNat a1)) 1096 (fun v24 σ23 => is01 v24 ∧ Q v24 σ23) σ else inL L (rfo o 13) a1 ∧ WJ (fun (s4 : Int) (σ5 : IS) => is01 s4 ∧ Q s4 σ5) (fun J2 => WJ (fun (s9 : Unit) (σ10 : IS) => J2 0 σ10) (fun J7 => (((σ.2 (rfo o 13) (Int.toNat a1)) = a2 → inL L (rfo o 12) a1)) ∧ if (σ.2 (rfo o 13) (Int.toNat a1)) = a2 ∧ (¬ (σ.2 (rfo o 12) (Int.toNat a1)) < 0) then w_KDoc_isDeclaration L o a1 (fun v13 σ12 => if v13 = 0 then J7 () σ12 else J2 1 σ12) σ else J7 () σ))
set_option maxHeartbeats 4000000 in
set_option maxRecDepth 20000 in
theorem s_KDoc_declares {L : Nat → Nat} (hL : ∀ r, L r < 2147483648) {d : Nat} (hd : 3 ≤ d) {o : Nat} {a1 : Int} {a2 : Int} {Q : Int → IS → Prop} {σ : IS} (ho : isDoc o) (h : w_KDoc_declares L o a1 a2 Q σ) : OkI BF L d 14 b_KDoc_declares 3 2 0 [] [some (.inr o), some (.inl a1), some (.inl a2)] σ (qi Q) := by
  unfold w_KDoc_declares at h
  obtain ⟨d, rfl⟩ : ∃ e, d = e + 1 := ⟨d - 1, by omega⟩
  refine k_sb (lv' := [some (.inr o), some (.inl a1), some (.inl a2)]) (sb_s (sb_s (sb_s sb_nil))) ?_
  refine k_iload_n d_KDoc_declares_0 rfl ?_
  refine k_iconst d_KDoc_declares_1 cI_m1 ?_
  refine k_icne d_KDoc_declares_2 rfl (fun c1 => ?_) (fun c1 => ?_)
  · have h := ineg c1 h
    refine k_aload_n d_KDoc_declares_21 rfl ?_
    refine k_getR d_KDoc_declares_22 fl_14_61 (doc_ob ho) (dfr_13 ho) ?_
    refine k_iload_n d_KDoc_declares_25 rfl ?_
    obtain ⟨p22, h⟩ := h
    refine k_ild (x := (σ.2 (rfo o 13) (Int.toNat a1))) d_KDoc_declares_26 (drI_13 ho) p22 rfl ?_
    refine k_iload_n d_KDoc_declares_27 rfl ?_
    refine k_join (S := Int) (pc' := 53) (st' := fun s4 => [.inl s4]) (lv' := fun s4 => [none, none, none]) (fun s4 σ5 h => ?_) (fun J2 hJ3 h => ?_) h
    · obtain ⟨p6, h⟩ := h
      exact k_iret d_KDoc_declares_53 (Or.inr ⟨rfl, p6⟩) h
    · refine k_join (S := Unit) (pc' := 52) (st' := fun s9 => []) (lv' := fun s9 => [none, none, none]) (fun s9 σ10 h => ?_) (fun J7 hJ8 h => ?_) h
      · refine k_iconst d_KDoc_declares_52 cI_0 ?_
        exact k_sb (sb_s (sb_s (sb_s sb_nil))) (hJ3 0 _ h)
      · obtain ⟨pt18, h⟩ := h
        have hX15 : ((σ.2 (rfo o 13) (Int.toNat a1)) = a2 ∧ (¬ (σ.2 (rfo o 12) (Int.toNat a1)) < 0)) → OkI BF L (d + 1) 14 b_KDoc_declares 3 2 40 [] [some (.inr o), some (.inl a1), some (.inl a2)] σ (qi Q) := fun e17 => by
          have h := ipos e17 h
          refine k_aload_n d_KDoc_declares_40 rfl ?_
          refine k_iload_n d_KDoc_declares_41 rfl ?_
          refine k_cvi [.inl a1] d_KDoc_declares_42 ml_14_131 rfl rfl (doc_ob ho) rfl (s_KDoc_isDeclaration hL (by omega) ho h) (fun v13 σ12 h => ?_)
          refine k_ifeq d_KDoc_declares_45 rfl (fun c14 => ?_) (fun c14 => ?_)
          · have h := ipos c14 h
            exact k_sb (sb_n (sb_n (sb_n sb_nil))) (hJ8 () _ h)
          · have h := ineg c14 h
            refine k_iconst d_KDoc_declares_48 cI_1 ?_
            refine k_goto d_KDoc_declares_49 rfl ?_
            exact k_sb (sb_n (sb_n (sb_n sb_nil))) (hJ3 1 _ h)
        have hY16 : ¬ ((σ.2 (rfo o 13) (Int.toNat a1)) = a2 ∧ (¬ (σ.2 (rfo o 12) (Int.toNat a1)) < 0)) → OkI BF L (d + 1) 14 b_KDoc_declares 3 2 52 [] [some (.inr o), some (.inl a1), some (.inl a2)] σ (qi Q) := fun e17 => by
          have h := ineg e17 h
          exact k_sb (sb_n (sb_n (sb_n sb_nil))) (hJ8 () _ h)
        have pa19 := pt18
        refine k_icne d_KDoc_declares_28 rfl (fun c20 => ?_) (fun c20 => ?_)
        · exact hY16 (fun z => c20 z.1)
        · have pa19 := pa19 c20
          have p11 := pa19
          refine k_aload_n d_KDoc_declares_31 rfl ?_
          refine k_getR d_KDoc_declares_32 fl_14_58 (doc_ob ho) (dfr_12 ho) ?_
          refine k_iload_n d_KDoc_declares_35 rfl ?_
          refine k_ild (x := (σ.2 (rfo o 12) (Int.toNat a1))) d_KDoc_declares_36 (drI_12 ho) p11 rfl ?_
          refine k_iflt d_KDoc_declares_37 rfl (fun c21 => ?_) (fun c21 => ?_)
          · exact hY16 (fun z => (fun z => z c21) z.2)
          · exact hX15 (⟨c20, c21⟩)
  · have h := ipos c1 h
    refine k_aload_n d_KDoc_declares_5 rfl ?_
    refine k_getR d_KDoc_declares_6 fl_14_34 (doc_ob ho) (dfr_0 ho) ?_
    refine k_aload_n d_KDoc_declares_9 rfl ?_
    refine k_getR d_KDoc_declares_10 fl_14_45 (doc_ob ho) (dfr_8 ho) ?_
    refine k_iload_n d_KDoc_declares_13 rfl ?_
    obtain ⟨p26, h⟩ := h
    refine k_ild (x := (σ.2 (rfo o 8) (Int.toNat a1))) d_KDoc_declares_14 (drI_8 ho) p26 rfl ?_
    refine k_ldc d_KDoc_declares_15 ks_14_125 rfl ?_
    refine k_cvi [.inl (σ.2 (rfo o 8) (Int.toNat a1)), .inr 1096] d_KDoc_declares_17 ml_14_127 rfl rfl ob_13 rfl (s_KBook_says hL (by omega) it_1096 h) (fun v24 σ23 h => ?_)
    obtain ⟨p25, h⟩ := h
    exact k_iret d_KDoc_declares_20 (Or.inr ⟨rfl, p25⟩) h
theorem d_KDoc_saying_0 : decode b_KDoc_saying 0 = .ok (.iload_n 1, 1) := by decide +kernel
theorem d_KDoc_saying_1 : decode b_KDoc_saying 1 = .ok (.istore_n 3, 1) := by decide +kernel
theorem d_KDoc_saying_2 : decode b_KDoc_saying 2 = .ok (.iload_n 3, 1) := by decide +kernel
theorem d_KDoc_saying_3 : decode b_KDoc_saying 3 = .ok (.ifCond .lt 60, 3) := by decide +kernel
theorem d_KDoc_saying_6 : decode b_KDoc_saying 6 = .ok (.iconst 0, 1) := by decide +kernel
theorem d_KDoc_saying_7 : decode b_KDoc_saying 7 = .ok (.istore 4, 2) := by decide +kernel
theorem d_KDoc_saying_9 : decode b_KDoc_saying 9 = .ok (.iload 4, 2) := by decide +kernel
theorem d_KDoc_saying_11 : decode b_KDoc_saying 11 = .ok (.aload_n 0, 1) := by decide +kernel
theorem d_KDoc_saying_12 : decode b_KDoc_saying 12 = .ok (.getfield 21, 3) := by decide +kernel
theorem d_KDoc_saying_15 : decode b_KDoc_saying 15 = .ok (.iload_n 3, 1) := by decide +kernel
theorem d_KDoc_saying_16 : decode b_KDoc_saying 16 = .ok (.iaload, 1) := by decide +kernel
theorem d_KDoc_saying_17 : decode b_KDoc_saying 17 = .ok (.if_icmp .ge 36, 3) := by decide +kernel
theorem d_KDoc_saying_20 : decode b_KDoc_saying 20 = .ok (.aload_n 0, 1) := by decide +kernel
theorem d_KDoc_saying_21 : decode b_KDoc_saying 21 = .ok (.aload_n 0, 1) := by decide +kernel
theorem d_KDoc_saying_22 : decode b_KDoc_saying 22 = .ok (.getfield 18, 3) := by decide +kernel
theorem d_KDoc_saying_25 : decode b_KDoc_saying 25 = .ok (.iload_n 3, 1) := by decide +kernel
theorem d_KDoc_saying_26 : decode b_KDoc_saying 26 = .ok (.iaload, 1) := by decide +kernel
theorem d_KDoc_saying_27 : decode b_KDoc_saying 27 = .ok (.iload 4, 2) := by decide +kernel
theorem d_KDoc_saying_29 : decode b_KDoc_saying 29 = .ok (.iadd, 1) := by decide +kernel
theorem d_KDoc_saying_30 : decode b_KDoc_saying 30 = .ok (.iload_n 2, 1) := by decide +kernel
theorem d_KDoc_saying_31 : decode b_KDoc_saying 31 = .ok (.invokevirtual 134, 3) := by decide +kernel
theorem d_KDoc_saying_34 : decode b_KDoc_saying 34 = .ok (.ifCond .eq 13, 3) := by decide +kernel
theorem d_KDoc_saying_37 : decode b_KDoc_saying 37 = .ok (.aload_n 0, 1) := by decide +kernel
theorem d_KDoc_saying_38 : decode b_KDoc_saying 38 = .ok (.getfield 18, 3) := by decide +kernel
theorem d_KDoc_saying_41 : decode b_KDoc_saying 41 = .ok (.iload_n 3, 1) := by decide +kernel
theorem d_KDoc_saying_42 : decode b_KDoc_saying 42 = .ok (.iaload, 1) := by decide +kernel
theorem d_KDoc_saying_43 : decode b_KDoc_saying 43 = .ok (.iload 4, 2) := by decide +kernel
theorem d_KDoc_saying_45 : decode b_KDoc_saying 45 = .ok (.iadd, 1) := by decide +kernel
theorem d_KDoc_saying_46 : decode b_KDoc_saying 46 = .ok (.ireturn, 1) := by decide +kernel
theorem d_KDoc_saying_47 : decode b_KDoc_saying 47 = .ok (.iinc 4 1, 3) := by decide +kernel
theorem d_KDoc_saying_50 : decode b_KDoc_saying 50 = .ok (.goto (-41), 3) := by decide +kernel
theorem d_KDoc_saying_53 : decode b_KDoc_saying 53 = .ok (.aload_n 0, 1) := by decide +kernel
theorem d_KDoc_saying_54 : decode b_KDoc_saying 54 = .ok (.getfield 15, 3) := by decide +kernel
theorem d_KDoc_saying_57 : decode b_KDoc_saying 57 = .ok (.iload_n 3, 1) := by decide +kernel
theorem d_KDoc_saying_58 : decode b_KDoc_saying 58 = .ok (.iaload, 1) := by decide +kernel
theorem d_KDoc_saying_59 : decode b_KDoc_saying 59 = .ok (.istore_n 3, 1) := by decide +kernel
theorem d_KDoc_saying_60 : decode b_KDoc_saying 60 = .ok (.goto (-58), 3) := by decide +kernel
theorem d_KDoc_saying_63 : decode b_KDoc_saying 63 = .ok (.iconst (-1), 1) := by decide +kernel
theorem d_KDoc_saying_64 : decode b_KDoc_saying 64 = .ok (.ireturn, 1) := by decide +kernel
/-- KDoc_saying -/
def w_KDoc_saying (L : Nat → Nat) (o : Nat) (a1 : Int) (a2 : Int) (Q : Int → IS → Prop) (σ : IS) : Prop := WL (fun (K1 : Int → IS → Prop) (s3 : Int) (σ4 : IS) => if s3 < 0 then Q (-1) σ4 else WL (fun (K6 : Int → IS → Prop) (s8 : Int) (σ9 : IS) => inL L (rfo o 6) s3 ∧ if s8 < (σ9.2 (rfo o 6) (Int.toNat s3)) then inL L (rfo o 5) s3 ∧ inR ((σ9.2 (rfo o 5) (Int.toNat s3)) + s8) ∧ w_KDoc_declares L o ((σ9.2 (rfo o 5) (Int.toNat s3)) + s8) a2 (fun v13 σ12 => if v13 = 0 then inR (s8 + 1) ∧ K6 (s8 + 1) σ12 else inL L (rfo o 5) s3 ∧ inR ((σ12.2 (rfo o 5) (Int.toNat s3)) + s8) ∧ Q ((σ12.2 (rfo o 5) (Int.toNat s3)) + s8) σ12) σ9 else inL L (rfo o 4) s3 ∧ K1 (σ9.2 (rfo o 4) (Int.toNat s3)) σ9) 0 σ4) a1 σ
set_option maxHeartbeats 4000000 in
set_option maxRecDepth 20000 in
theorem s_KDoc_saying {L : Nat → Nat} (hL : ∀ r, L r < 2147483648) {d : Nat} (hd : 4 ≤ d) {o : Nat} {a1 : Int} {a2 : Int} {Q : Int → IS → Prop} {σ : IS} (ho : isDoc o) (h : w_KDoc_saying L o a1 a2 Q σ) : OkI BF L d 14 b_KDoc_saying 5 1 0 [] [some (.inr o), some (.inl a1), some (.inl a2)] σ (qi Q) := by
  unfold w_KDoc_saying at h
  obtain ⟨d, rfl⟩ : ∃ e, d = e + 1 := ⟨d - 1, by omega⟩
  refine k_sb (lv' := [some (.inr o), some (.inl a1), some (.inl a2), none, none]) (sb_s (sb_s (sb_s (sb_e (sb_e sb_nil))))) ?_
  refine k_iload_n d_KDoc_saying_0 rfl ?_
  refine k_istore_n (lv' := [some (.inr o), some (.inl a1), some (.inl a2), some (.inl a1), none]) d_KDoc_saying_1 rfl rfl ?_
  refine k_sb (lv' := [some (.inr o), none, some (.inl a2), some (.inl a1), none]) (sb_s (sb_n (sb_s (sb_s (sb_s sb_nil))))) ?_
  refine k_loop (S := Int) (st := fun _ => []) (lv := fun s3 => [some (.inr o), none, some (.inl a2), some (.inl s3), none]) (fun K1 hK2 s3 σ4 h => ?_) a1 _ h
  refine k_iload_n d_KDoc_saying_2 rfl ?_
  refine k_iflt d_KDoc_saying_3 rfl (fun c5 => ?_) (fun c5 => ?_)
  · have h := ipos c5 h
    refine k_iconst d_KDoc_saying_63 cI_m1 ?_
    exact k_iret d_KDoc_saying_64 (Or.inl rfl) h
  · have h := ineg c5 h
    refine k_iconst d_KDoc_saying_6 cI_0 ?_
    refine k_istore (lv' := [some (.inr o), none, some (.inl a2), some (.inl s3), some (.inl 0)]) d_KDoc_saying_7 rfl rfl ?_
    refine k_sb (lv' := [some (.inr o), none, some (.inl a2), some (.inl s3), some (.inl 0)]) (sb_s (sb_s (sb_s (sb_s (sb_s sb_nil))))) ?_
    refine k_loop (S := Int) (st := fun _ => []) (lv := fun s8 => [some (.inr o), none, some (.inl a2), some (.inl s3), some (.inl s8)]) (fun K6 hK7 s8 σ9 h => ?_) 0 _ h
    refine k_iload d_KDoc_saying_9 rfl ?_
    refine k_aload_n d_KDoc_saying_11 rfl ?_
    refine k_getR d_KDoc_saying_12 fl_14_21 (doc_ob ho) (dfr_6 ho) ?_
    refine k_iload_n d_KDoc_saying_15 rfl ?_
    obtain ⟨p20, h⟩ := h
    refine k_ild (x := (σ9.2 (rfo o 6) (Int.toNat s3))) d_KDoc_saying_16 (drI_6 ho) p20 rfl ?_
    refine k_icge d_KDoc_saying_17 rfl (fun c10 => ?_) (fun c10 => ?_)
    · have h := ineg c10 h
      refine k_aload_n d_KDoc_saying_53 rfl ?_
      refine k_getR d_KDoc_saying_54 fl_14_15 (doc_ob ho) (dfr_4 ho) ?_
      refine k_iload_n d_KDoc_saying_57 rfl ?_
      obtain ⟨p11, h⟩ := h
      refine k_ild (x := (σ9.2 (rfo o 4) (Int.toNat s3))) d_KDoc_saying_58 (drI_4 ho) p11 rfl ?_
      refine k_istore_n (lv' := [some (.inr o), none, some (.inl a2), some (.inl (σ9.2 (rfo o 4) (Int.toNat s3))), some (.inl s8)]) d_KDoc_saying_59 rfl rfl ?_
      refine k_goto d_KDoc_saying_60 rfl ?_
      exact k_sb (sb_s (sb_s (sb_s (sb_s (sb_n sb_nil))))) (hK2 (σ9.2 (rfo o 4) (Int.toNat s3)) _ h)
    · have h := ipos c10 h
      refine k_aload_n d_KDoc_saying_20 rfl ?_
      refine k_aload_n d_KDoc_saying_21 rfl ?_
      refine k_getR d_KDoc_saying_22 fl_14_18 (doc_ob ho) (dfr_5 ho) ?_
      refine k_iload_n d_KDoc_saying_25 rfl ?_
      obtain ⟨p19, h⟩ := h
      refine k_ild (x := (σ9.2 (rfo o 5) (Int.toNat s3))) d_KDoc_saying_26 (drI_5 ho) p19 rfl ?_
      refine k_iload d_KDoc_saying_27 rfl ?_
      obtain ⟨p18, h⟩ := h
      refine k_iadd d_KDoc_saying_29 p18 ?_
      refine k_iload_n d_KDoc_saying_30 rfl ?_
      refine k_cvi [.inl ((σ9.2 (rfo o 5) (Int.toNat s3)) + s8), .inl a2] d_KDoc_saying_31 ml_14_134 rfl rfl (doc_ob ho) rfl (s_KDoc_declares hL (by omega) ho h) (fun v13 σ12 h => ?_)
      refine k_ifeq d_KDoc_saying_34 rfl (fun c14 => ?_) (fun c14 => ?_)
      · have h := ipos c14 h
        obtain ⟨p15, h⟩ := h
        refine k_iinc (lv' := [some (.inr o), none, some (.inl a2), some (.inl s3), some (.inl (s8 + 1))]) d_KDoc_saying_47 cI_1 rfl rfl p15 rfl ?_
        refine k_goto d_KDoc_saying_50 rfl ?_
        exact k_sb (sb_s (sb_s (sb_s (sb_s (sb_s sb_nil))))) (hK7 (s8 + 1) _ h)
      · have h := ineg c14 h
        refine k_aload_n d_KDoc_saying_37 rfl ?_
        refine k_getR d_KDoc_saying_38 fl_14_18 (doc_ob ho) (dfr_5 ho) ?_
        refine k_iload_n d_KDoc_saying_41 rfl ?_
        obtain ⟨p17, h⟩ := h
        refine k_ild (x := (σ12.2 (rfo o 5) (Int.toNat s3))) d_KDoc_saying_42 (drI_5 ho) p17 rfl ?_
        refine k_iload d_KDoc_saying_43 rfl ?_
        obtain ⟨p16, h⟩ := h
        refine k_iadd d_KDoc_saying_45 p16 ?_
        exact k_iret d_KDoc_saying_46 (Or.inl rfl) h
theorem d_KWriter_meant_0 : decode b_KWriter_meant 0 = .ok (.iload_n 1, 1) := by decide +kernel
theorem d_KWriter_meant_1 : decode b_KWriter_meant 1 = .ok (.bipush (-2), 2) := by decide +kernel
theorem d_KWriter_meant_3 : decode b_KWriter_meant 3 = .ok (.if_icmp .ne 23, 3) := by decide +kernel
theorem d_KWriter_meant_6 : decode b_KWriter_meant 6 = .ok (.iload_n 2, 1) := by decide +kernel
theorem d_KWriter_meant_7 : decode b_KWriter_meant 7 = .ok (.ldc 132, 2) := by decide +kernel
theorem d_KWriter_meant_9 : decode b_KWriter_meant 9 = .ok (.invokevirtual 63, 3) := by decide +kernel
theorem d_KWriter_meant_12 : decode b_KWriter_meant 12 = .ok (.if_icmp .ge 12, 3) := by decide +kernel
theorem d_KWriter_meant_15 : decode b_KWriter_meant 15 = .ok (.ldc 132, 2) := by decide +kernel
theorem d_KWriter_meant_17 : decode b_KWriter_meant 17 = .ok (.iload_n 2, 1) := by decide +kernel
theorem d_KWriter_meant_18 : decode b_KWriter_meant 18 = .ok (.invokevirtual 67, 3) := by decide +kernel
theorem d_KWriter_meant_21 : decode b_KWriter_meant 21 = .ok (.goto 4, 3) := by decide +kernel
theorem d_KWriter_meant_24 : decode b_KWriter_meant 24 = .ok (.iconst (-1), 1) := by decide +kernel
theorem d_KWriter_meant_25 : decode b_KWriter_meant 25 = .ok (.ireturn, 1) := by decide +kernel
theorem d_KWriter_meant_26 : decode b_KWriter_meant 26 = .ok (.iload_n 1, 1) := by decide +kernel
theorem d_KWriter_meant_27 : decode b_KWriter_meant 27 = .ok (.ifCond .lt 38, 3) := by decide +kernel
theorem d_KWriter_meant_30 : decode b_KWriter_meant 30 = .ok (.iload_n 2, 1) := by decide +kernel
theorem d_KWriter_meant_31 : decode b_KWriter_meant 31 = .ok (.aload_n 0, 1) := by decide +kernel
theorem d_KWriter_meant_32 : decode b_KWriter_meant 32 = .ok (.getfield 74, 3) := by decide +kernel
theorem d_KWriter_meant_35 : decode b_KWriter_meant 35 = .ok (.getfield 119, 3) := by decide +kernel
theorem d_KWriter_meant_38 : decode b_KWriter_meant 38 = .ok (.iload_n 1, 1) := by decide +kernel
theorem d_KWriter_meant_39 : decode b_KWriter_meant 39 = .ok (.iaload, 1) := by decide +kernel
theorem d_KWriter_meant_40 : decode b_KWriter_meant 40 = .ok (.if_icmp .ge 25, 3) := by decide +kernel
theorem d_KWriter_meant_43 : decode b_KWriter_meant 43 = .ok (.aload_n 0, 1) := by decide +kernel
theorem d_KWriter_meant_44 : decode b_KWriter_meant 44 = .ok (.getfield 74, 3) := by decide +kernel
theorem d_KWriter_meant_47 : decode b_KWriter_meant 47 = .ok (.getfield 122, 3) := by decide +kernel
theorem d_KWriter_meant_50 : decode b_KWriter_meant 50 = .ok (.aload_n 0, 1) := by decide +kernel
theorem d_KWriter_meant_51 : decode b_KWriter_meant 51 = .ok (.getfield 74, 3) := by decide +kernel
theorem d_KWriter_meant_54 : decode b_KWriter_meant 54 = .ok (.getfield 125, 3) := by decide +kernel
theorem d_KWriter_meant_57 : decode b_KWriter_meant 57 = .ok (.iload_n 1, 1) := by decide +kernel
theorem d_KWriter_meant_58 : decode b_KWriter_meant 58 = .ok (.iaload, 1) := by decide +kernel
theorem d_KWriter_meant_59 : decode b_KWriter_meant 59 = .ok (.iload_n 2, 1) := by decide +kernel
theorem d_KWriter_meant_60 : decode b_KWriter_meant 60 = .ok (.iadd, 1) := by decide +kernel
theorem d_KWriter_meant_61 : decode b_KWriter_meant 61 = .ok (.iaload, 1) := by decide +kernel
theorem d_KWriter_meant_62 : decode b_KWriter_meant 62 = .ok (.goto 4, 3) := by decide +kernel
theorem d_KWriter_meant_65 : decode b_KWriter_meant 65 = .ok (.iconst (-1), 1) := by decide +kernel
theorem d_KWriter_meant_66 : decode b_KWriter_meant 66 = .ok (.ireturn, 1) := by decide +kernel
/-- KWriter_meant -/
def w_KWriter_meant (L : Nat → Nat) (a1 : Int) (a2 : Int) (Q : Int → IS → Prop) (σ : IS) : Prop := if a1 = (-2) then ((a2 < (tN 1168) → ((0 : Int) ≤ a2 ∧ a2 < tN 1168))) ∧ Q (if a2 < (tN 1168) then (tC 1168 a2) else ((-1) : Int)) σ else ((¬ a1 < 0 → (dyD (σ.1 17 1) ∧ inL L (rfo (Int.toNat (σ.1 17 1)) 10) a1 ∧ (a2 < (σ.2 (rfo (Int.toNat (σ.1 17 1)) 10) (Int.toNat a1)) → (inL L (rfo (Int.toNat (σ.1 17 1)) 9) a1 ∧ inR ((σ.2 (rfo (Int.toNat (σ.1 17 1)) 9) (Int.toNat a1)) + a2) ∧ inL L (rfo (Int.toNat (σ.1 17 1)) 1) ((σ.2 (rfo (Int.toNat (σ.1 17 1)) 9) (Int.toNat a1)) + a2)))))) ∧ Q (if a1 < 0 then ((-1) : Int) else (if a2 < (σ.2 (rfo (Int.toNat (σ.1 17 1)) 10) (Int.toNat a1)) then (σ.2 (rfo (Int.toNat (σ.1 17 1)) 1) (Int.toNat ((σ.2 (rfo (Int.toNat (σ.1 17 1)) 9) (Int.toNat a1)) + a2))) else ((-1) : Int))) σ
set_option maxHeartbeats 4000000 in
set_option maxRecDepth 20000 in
theorem s_KWriter_meant {L : Nat → Nat} (hL : ∀ r, L r < 2147483648) {d : Nat} (hd : 0 ≤ d) {a1 : Int} {a2 : Int} {Q : Int → IS → Prop} {σ : IS}  (h : w_KWriter_meant L a1 a2 Q σ) : OkI BF L d 16 b_KWriter_meant 3 1 0 [] [some (.inr 17), some (.inl a1), some (.inl a2)] σ (qi Q) := by
  unfold w_KWriter_meant at h
  refine k_sb (lv' := [some (.inr 17), some (.inl a1), some (.inl a2)]) (sb_s (sb_s (sb_s sb_nil))) ?_
  refine k_iload_n d_KWriter_meant_0 rfl ?_
  refine k_bipush d_KWriter_meant_1 cB_m2 ?_
  refine k_icne d_KWriter_meant_3 rfl (fun c1 => ?_) (fun c1 => ?_)
  · have h := ineg c1 h
    refine k_iload_n d_KWriter_meant_26 rfl ?_
    obtain ⟨pt8, h⟩ := h
    have hV7 : OkI BF L d 16 b_KWriter_meant 3 1 66 [.inl (if a1 < 0 then ((-1) : Int) else (if a2 < (σ.2 (rfo (Int.toNat (σ.1 17 1)) 10) (Int.toNat a1)) then (σ.2 (rfo (Int.toNat (σ.1 17 1)) 1) (Int.toNat ((σ.2 (rfo (Int.toNat (σ.1 17 1)) 9) (Int.toNat a1)) + a2))) else ((-1) : Int)))] [some (.inr 17), some (.inl a1), some (.inl a2)] σ (qi Q) := by
      exact k_iret d_KWriter_meant_66 (Or.inl rfl) h
    have pb9 := pt8
    refine k_iflt d_KWriter_meant_27 rfl (fun c10 => ?_) (fun c10 => ?_)
    · have hV11 := k_eqI (if_pos c10) hV7
      refine k_iconst d_KWriter_meant_65 cI_m1 ?_
      exact hV11
    · have pb9 := pb9 c10
      have hV12 := k_eqI (if_neg c10) hV7
      obtain ⟨y2, p3, pa13⟩ := pb9
      refine k_iload_n d_KWriter_meant_30 rfl ?_
      refine k_aload_n d_KWriter_meant_31 rfl ?_
      refine k_getD (x := (σ.1 17 1)) d_KWriter_meant_32 fl_16_74 ob_17 rfl rfl (dyD_pos y2) ?_
      refine k_getR d_KWriter_meant_35 fl_16_119 (doc_ob (dyD_doc y2)) (dfr_10 (dyD_doc y2)) ?_
      refine k_iload_n d_KWriter_meant_38 rfl ?_
      refine k_ild (x := (σ.2 (rfo (Int.toNat (σ.1 17 1)) 10) (Int.toNat a1))) d_KWriter_meant_39 (drI_10 (dyD_doc y2)) p3 rfl ?_
      refine k_icge d_KWriter_meant_40 rfl (fun c14 => ?_) (fun c14 => ?_)
      · have hV16 := k_eqI (if_neg c14) hV12
        refine k_iconst d_KWriter_meant_65 cI_m1 ?_
        exact hV16
      · have pa13 := pa13 c14
        have hV15 := k_eqI (if_pos c14) hV12
        obtain ⟨p4, p5, p6⟩ := pa13
        refine k_aload_n d_KWriter_meant_43 rfl ?_
        refine k_getD (x := (σ.1 17 1)) d_KWriter_meant_44 fl_16_74 ob_17 rfl rfl (dyD_pos y2) ?_
        refine k_getR d_KWriter_meant_47 fl_16_122 (doc_ob (dyD_doc y2)) (dfr_1 (dyD_doc y2)) ?_
        refine k_aload_n d_KWriter_meant_50 rfl ?_
        refine k_getD (x := (σ.1 17 1)) d_KWriter_meant_51 fl_16_74 ob_17 rfl rfl (dyD_pos y2) ?_
        refine k_getR d_KWriter_meant_54 fl_16_125 (doc_ob (dyD_doc y2)) (dfr_9 (dyD_doc y2)) ?_
        refine k_iload_n d_KWriter_meant_57 rfl ?_
        refine k_ild (x := (σ.2 (rfo (Int.toNat (σ.1 17 1)) 9) (Int.toNat a1))) d_KWriter_meant_58 (drI_9 (dyD_doc y2)) p4 rfl ?_
        refine k_iload_n d_KWriter_meant_59 rfl ?_
        refine k_iadd d_KWriter_meant_60 p5 ?_
        refine k_ild (x := (σ.2 (rfo (Int.toNat (σ.1 17 1)) 1) (Int.toNat ((σ.2 (rfo (Int.toNat (σ.1 17 1)) 9) (Int.toNat a1)) + a2)))) d_KWriter_meant_61 (drI_1 (dyD_doc y2)) p6 rfl ?_
        refine k_goto d_KWriter_meant_62 rfl ?_
        exact hV15
  · have h := ipos c1 h
    refine k_iload_n d_KWriter_meant_6 rfl ?_
    refine k_ldc d_KWriter_meant_7 ks_16_132 rfl ?_
    refine k_tlen d_KWriter_meant_9 ml_16_63 it_1168 rfl ?_
    obtain ⟨pt19, h⟩ := h
    have hV18 : OkI BF L d 16 b_KWriter_meant 3 1 25 [.inl (if a2 < (tN 1168) then (tC 1168 a2) else ((-1) : Int))] [some (.inr 17), some (.inl a1), some (.inl a2)] σ (qi Q) := by
      exact k_iret d_KWriter_meant_25 (Or.inl rfl) h
    have pa20 := pt19
    refine k_icge d_KWriter_meant_12 rfl (fun c21 => ?_) (fun c21 => ?_)
    · have hV23 := k_eqI (if_neg c21) hV18
      refine k_iconst d_KWriter_meant_24 cI_m1 ?_
      exact hV23
    · have pa20 := pa20 c21
      have hV22 := k_eqI (if_pos c21) hV18
      have p17 := pa20
      refine k_ldc d_KWriter_meant_15 ks_16_132 rfl ?_
      refine k_iload_n d_KWriter_meant_17 rfl ?_
      refine k_tchr d_KWriter_meant_18 ml_16_67 it_1168 p17 rfl ?_
      refine k_goto d_KWriter_meant_21 rfl ?_
      exact hV22
theorem d_KWriter_compareMeanings_0 : decode b_KWriter_compareMeanings 0 = .ok (.iload_n 1, 1) := by decide +kernel
theorem d_KWriter_compareMeanings_1 : decode b_KWriter_compareMeanings 1 = .ok (.iload_n 2, 1) := by decide +kernel
theorem d_KWriter_compareMeanings_2 : decode b_KWriter_compareMeanings 2 = .ok (.if_icmp .ne 5, 3) := by decide +kernel
theorem d_KWriter_compareMeanings_5 : decode b_KWriter_compareMeanings 5 = .ok (.iconst 0, 1) := by decide +kernel
theorem d_KWriter_compareMeanings_6 : decode b_KWriter_compareMeanings 6 = .ok (.ireturn, 1) := by decide +kernel
theorem d_KWriter_compareMeanings_7 : decode b_KWriter_compareMeanings 7 = .ok (.iconst 0, 1) := by decide +kernel
theorem d_KWriter_compareMeanings_8 : decode b_KWriter_compareMeanings 8 = .ok (.istore_n 3, 1) := by decide +kernel
theorem d_KWriter_compareMeanings_9 : decode b_KWriter_compareMeanings 9 = .ok (.aload_n 0, 1) := by decide +kernel
theorem d_KWriter_compareMeanings_10 : decode b_KWriter_compareMeanings 10 = .ok (.iload_n 1, 1) := by decide +kernel
theorem d_KWriter_compareMeanings_11 : decode b_KWriter_compareMeanings 11 = .ok (.iload_n 3, 1) := by decide +kernel
theorem d_KWriter_compareMeanings_12 : decode b_KWriter_compareMeanings 12 = .ok (.invokevirtual 134, 3) := by decide +kernel
theorem d_KWriter_compareMeanings_15 : decode b_KWriter_compareMeanings 15 = .ok (.aload_n 0, 1) := by decide +kernel
theorem d_KWriter_compareMeanings_16 : decode b_KWriter_compareMeanings 16 = .ok (.iload_n 2, 1) := by decide +kernel
theorem d_KWriter_compareMeanings_17 : decode b_KWriter_compareMeanings 17 = .ok (.iload_n 3, 1) := by decide +kernel
theorem d_KWriter_compareMeanings_18 : decode b_KWriter_compareMeanings 18 = .ok (.invokevirtual 134, 3) := by decide +kernel
theorem d_KWriter_compareMeanings_21 : decode b_KWriter_compareMeanings 21 = .ok (.if_icmp .ne 18, 3) := by decide +kernel
theorem d_KWriter_compareMeanings_24 : decode b_KWriter_compareMeanings 24 = .ok (.aload_n 0, 1) := by decide +kernel
theorem d_KWriter_compareMeanings_25 : decode b_KWriter_compareMeanings 25 = .ok (.iload_n 1, 1) := by decide +kernel
theorem d_KWriter_compareMeanings_26 : decode b_KWriter_compareMeanings 26 = .ok (.iload_n 3, 1) := by decide +kernel
theorem d_KWriter_compareMeanings_27 : decode b_KWriter_compareMeanings 27 = .ok (.invokevirtual 134, 3) := by decide +kernel
theorem d_KWriter_compareMeanings_30 : decode b_KWriter_compareMeanings 30 = .ok (.ifCond .lt 9, 3) := by decide +kernel
theorem d_KWriter_compareMeanings_33 : decode b_KWriter_compareMeanings 33 = .ok (.iinc 3 1, 3) := by decide +kernel
theorem d_KWriter_compareMeanings_36 : decode b_KWriter_compareMeanings 36 = .ok (.goto (-27), 3) := by decide +kernel
theorem d_KWriter_compareMeanings_39 : decode b_KWriter_compareMeanings 39 = .ok (.aload_n 0, 1) := by decide +kernel
theorem d_KWriter_compareMeanings_40 : decode b_KWriter_compareMeanings 40 = .ok (.iload_n 1, 1) := by decide +kernel
theorem d_KWriter_compareMeanings_41 : decode b_KWriter_compareMeanings 41 = .ok (.iload_n 3, 1) := by decide +kernel
theorem d_KWriter_compareMeanings_42 : decode b_KWriter_compareMeanings 42 = .ok (.invokevirtual 134, 3) := by decide +kernel
theorem d_KWriter_compareMeanings_45 : decode b_KWriter_compareMeanings 45 = .ok (.aload_n 0, 1) := by decide +kernel
theorem d_KWriter_compareMeanings_46 : decode b_KWriter_compareMeanings 46 = .ok (.iload_n 2, 1) := by decide +kernel
theorem d_KWriter_compareMeanings_47 : decode b_KWriter_compareMeanings 47 = .ok (.iload_n 3, 1) := by decide +kernel
theorem d_KWriter_compareMeanings_48 : decode b_KWriter_compareMeanings 48 = .ok (.invokevirtual 134, 3) := by decide +kernel
theorem d_KWriter_compareMeanings_51 : decode b_KWriter_compareMeanings 51 = .ok (.isub, 1) := by decide +kernel
theorem d_KWriter_compareMeanings_52 : decode b_KWriter_compareMeanings 52 = .ok (.ireturn, 1) := by decide +kernel
/-- KWriter_compareMeanings -/
def w_KWriter_compareMeanings (L : Nat → Nat) (a1 : Int) (a2 : Int) (Q : Int → IS → Prop) (σ : IS) : Prop := if a1 = a2 then Q 0 σ else WL (fun (K2 : Int → IS → Prop) (s4 : Int) (σ5 : IS) => w_KWriter_meant L a1 s4 (fun v7 σ6 => w_KWriter_meant L a2 s4 (fun v9 σ8 => WJ (fun (s12 : Unit) (σ13 : IS) => w_KWriter_meant L a1 s4 (fun v15 σ14 => w_KWriter_meant L a2 s4 (fun v17 σ16 => inR (v15 - v17) ∧ Q (v15 - v17) σ16) σ14) σ13) (fun J10 => if v7 = v9 then w_KWriter_meant L a1 s4 (fun v21 σ20 => if v21 < 0 then J10 () σ20 else inR (s4 + 1) ∧ K2 (s4 + 1) σ20) σ8 else J10 () σ8)) σ6) σ5) 0 σ
set_option maxHeartbeats 4000000 in
set_option maxRecDepth 20000 in
theorem s_KWriter_compareMeanings {L : Nat → Nat} (hL : ∀ r, L r < 2147483648) {d : Nat} (hd : 1 ≤ d) {a1 : Int} {a2 : Int} {Q : Int → IS → Prop} {σ : IS}  (h : w_KWriter_compareMeanings L a1 a2 Q σ) : OkI BF L d 16 b_KWriter_compareMeanings 4 1 0 [] [some (.inr 17), some (.inl a1), some (.inl a2)] σ (qi Q) := by
  unfold w_KWriter_compareMeanings at h
  obtain ⟨d, rfl⟩ : ∃ e, d = e + 1 := ⟨d - 1, by omega⟩
  refine k_sb (lv' := [some (.inr 17), some (.inl a1), some (.inl a2), none]) (sb_s (sb_s (sb_s (sb_e sb_nil)))) ?_
  refine k_iload_n d_KWriter_compareMeanings_0 rfl ?_
  refine k_iload_n d_KWriter_compareMeanings_1 rfl ?_
  refine k_icne d_KWriter_compareMeanings_2 rfl (fun c1 => ?_) (fun c1 => ?_)
  · have h := ineg c1 h
    refine k_iconst d_KWriter_compareMeanings_7 cI_0 ?_
    refine k_istore_n (lv' := [some (.inr 17), some (.inl a1), some (.inl a2), some (.inl 0)]) d_KWriter_compareMeanings_8 rfl rfl ?_
    refine k_sb (lv' := [some (.inr 17), some (.inl a1), some (.inl a2), some (.inl 0)]) (sb_s (sb_s (sb_s (sb_s sb_nil)))) ?_
    refine k_loop (S := Int) (st := fun _ => []) (lv := fun s4 => [some (.inr 17), some (.inl a1), some (.inl a2), some (.inl s4)]) (fun K2 hK3 s4 σ5 h => ?_) 0 _ h
    refine k_aload_n d_KWriter_compareMeanings_9 rfl ?_
    refine k_iload_n d_KWriter_compareMeanings_10 rfl ?_
    refine k_iload_n d_KWriter_compareMeanings_11 rfl ?_
    refine k_cvi [.inl a1, .inl s4] d_KWriter_compareMeanings_12 ml_16_134 rfl rfl ob_17 rfl (s_KWriter_meant hL (by omega)  h) (fun v7 σ6 h => ?_)
    refine k_aload_n d_KWriter_compareMeanings_15 rfl ?_
    refine k_iload_n d_KWriter_compareMeanings_16 rfl ?_
    refine k_iload_n d_KWriter_compareMeanings_17 rfl ?_
    refine k_cvi [.inl a2, .inl s4] d_KWriter_compareMeanings_18 ml_16_134 rfl rfl ob_17 rfl (s_KWriter_meant hL (by omega)  h) (fun v9 σ8 h => ?_)
    refine k_join (S := Unit) (pc' := 39) (st' := fun s12 => []) (lv' := fun s12 => [some (.inr 17), some (.inl a1), some (.inl a2), some (.inl s4)]) (fun s12 σ13 h => ?_) (fun J10 hJ11 h => ?_) h
    · refine k_aload_n d_KWriter_compareMeanings_39 rfl ?_
      refine k_iload_n d_KWriter_compareMeanings_40 rfl ?_
      refine k_iload_n d_KWriter_compareMeanings_41 rfl ?_
      refine k_cvi [.inl a1, .inl s4] d_KWriter_compareMeanings_42 ml_16_134 rfl rfl ob_17 rfl (s_KWriter_meant hL (by omega)  h) (fun v15 σ14 h => ?_)
      refine k_aload_n d_KWriter_compareMeanings_45 rfl ?_
      refine k_iload_n d_KWriter_compareMeanings_46 rfl ?_
      refine k_iload_n d_KWriter_compareMeanings_47 rfl ?_
      refine k_cvi [.inl a2, .inl s4] d_KWriter_compareMeanings_48 ml_16_134 rfl rfl ob_17 rfl (s_KWriter_meant hL (by omega)  h) (fun v17 σ16 h => ?_)
      obtain ⟨p18, h⟩ := h
      refine k_isub d_KWriter_compareMeanings_51 p18 ?_
      exact k_iret d_KWriter_compareMeanings_52 (Or.inl rfl) h
    · refine k_icne d_KWriter_compareMeanings_21 rfl (fun c19 => ?_) (fun c19 => ?_)
      · have h := ineg c19 h
        exact k_sb (sb_s (sb_s (sb_s (sb_s sb_nil)))) (hJ11 () _ h)
      · have h := ipos c19 h
        refine k_aload_n d_KWriter_compareMeanings_24 rfl ?_
        refine k_iload_n d_KWriter_compareMeanings_25 rfl ?_
        refine k_iload_n d_KWriter_compareMeanings_26 rfl ?_
        refine k_cvi [.inl a1, .inl s4] d_KWriter_compareMeanings_27 ml_16_134 rfl rfl ob_17 rfl (s_KWriter_meant hL (by omega)  h) (fun v21 σ20 h => ?_)
        refine k_iflt d_KWriter_compareMeanings_30 rfl (fun c22 => ?_) (fun c22 => ?_)
        · have h := ipos c22 h
          exact k_sb (sb_s (sb_s (sb_s (sb_s sb_nil)))) (hJ11 () _ h)
        · have h := ineg c22 h
          obtain ⟨p23, h⟩ := h
          refine k_iinc (lv' := [some (.inr 17), some (.inl a1), some (.inl a2), some (.inl (s4 + 1))]) d_KWriter_compareMeanings_33 cI_1 rfl rfl p23 rfl ?_
          refine k_goto d_KWriter_compareMeanings_36 rfl ?_
          exact k_sb (sb_s (sb_s (sb_s (sb_s sb_nil)))) (hK3 (s4 + 1) _ h)
  · have h := ipos c1 h
    refine k_iconst d_KWriter_compareMeanings_5 cI_0 ?_
    exact k_iret d_KWriter_compareMeanings_6 (Or.inl rfl) h
theorem d_KWriter_isNews_0 : decode b_KWriter_isNews 0 = .ok (.aload_n 0, 1) := by decide +kernel
theorem d_KWriter_isNews_1 : decode b_KWriter_isNews 1 = .ok (.getfield 74, 3) := by decide +kernel
theorem d_KWriter_isNews_4 : decode b_KWriter_isNews 4 = .ok (.getfield 155, 3) := by decide +kernel
theorem d_KWriter_isNews_7 : decode b_KWriter_isNews 7 = .ok (.iload_n 2, 1) := by decide +kernel
theorem d_KWriter_isNews_8 : decode b_KWriter_isNews 8 = .ok (.iaload, 1) := by decide +kernel
theorem d_KWriter_isNews_9 : decode b_KWriter_isNews 9 = .ok (.istore_n 3, 1) := by decide +kernel
theorem d_KWriter_isNews_10 : decode b_KWriter_isNews 10 = .ok (.aload_n 0, 1) := by decide +kernel
theorem d_KWriter_isNews_11 : decode b_KWriter_isNews 11 = .ok (.getfield 74, 3) := by decide +kernel
theorem d_KWriter_isNews_14 : decode b_KWriter_isNews 14 = .ok (.getfield 78, 3) := by decide +kernel
theorem d_KWriter_isNews_17 : decode b_KWriter_isNews 17 = .ok (.iload_n 3, 1) := by decide +kernel
theorem d_KWriter_isNews_18 : decode b_KWriter_isNews 18 = .ok (.ldc 158, 2) := by decide +kernel
theorem d_KWriter_isNews_20 : decode b_KWriter_isNews 20 = .ok (.invokevirtual 145, 3) := by decide +kernel
theorem d_KWriter_isNews_23 : decode b_KWriter_isNews 23 = .ok (.istore 4, 2) := by decide +kernel
theorem d_KWriter_isNews_25 : decode b_KWriter_isNews 25 = .ok (.iload 4, 2) := by decide +kernel
theorem d_KWriter_isNews_27 : decode b_KWriter_isNews 27 = .ok (.ifCond .ne 29, 3) := by decide +kernel
theorem d_KWriter_isNews_30 : decode b_KWriter_isNews 30 = .ok (.aload_n 0, 1) := by decide +kernel
theorem d_KWriter_isNews_31 : decode b_KWriter_isNews 31 = .ok (.getfield 74, 3) := by decide +kernel
theorem d_KWriter_isNews_34 : decode b_KWriter_isNews 34 = .ok (.getfield 78, 3) := by decide +kernel
theorem d_KWriter_isNews_37 : decode b_KWriter_isNews 37 = .ok (.aload_n 0, 1) := by decide +kernel
theorem d_KWriter_isNews_38 : decode b_KWriter_isNews 38 = .ok (.getfield 74, 3) := by decide +kernel
theorem d_KWriter_isNews_41 : decode b_KWriter_isNews 41 = .ok (.getfield 160, 3) := by decide +kernel
theorem d_KWriter_isNews_44 : decode b_KWriter_isNews 44 = .ok (.iload_n 2, 1) := by decide +kernel
theorem d_KWriter_isNews_45 : decode b_KWriter_isNews 45 = .ok (.iaload, 1) := by decide +kernel
theorem d_KWriter_isNews_46 : decode b_KWriter_isNews 46 = .ok (.ldc 143, 2) := by decide +kernel
theorem d_KWriter_isNews_48 : decode b_KWriter_isNews 48 = .ok (.invokevirtual 145, 3) := by decide +kernel
theorem d_KWriter_isNews_51 : decode b_KWriter_isNews 51 = .ok (.ifCond .eq 5, 3) := by decide +kernel
theorem d_KWriter_isNews_54 : decode b_KWriter_isNews 54 = .ok (.iconst 0, 1) := by decide +kernel
theorem d_KWriter_isNews_55 : decode b_KWriter_isNews 55 = .ok (.ireturn, 1) := by decide +kernel
theorem d_KWriter_isNews_56 : decode b_KWriter_isNews 56 = .ok (.aload_n 0, 1) := by decide +kernel
theorem d_KWriter_isNews_57 : decode b_KWriter_isNews 57 = .ok (.getfield 74, 3) := by decide +kernel
theorem d_KWriter_isNews_60 : decode b_KWriter_isNews 60 = .ok (.getfield 169, 3) := by decide +kernel
theorem d_KWriter_isNews_63 : decode b_KWriter_isNews 63 = .ok (.iload_n 1, 1) := by decide +kernel
theorem d_KWriter_isNews_64 : decode b_KWriter_isNews 64 = .ok (.iaload, 1) := by decide +kernel
theorem d_KWriter_isNews_65 : decode b_KWriter_isNews 65 = .ok (.ifCond .ge 7, 3) := by decide +kernel
theorem d_KWriter_isNews_68 : decode b_KWriter_isNews 68 = .ok (.iconst (-1), 1) := by decide +kernel
theorem d_KWriter_isNews_69 : decode b_KWriter_isNews 69 = .ok (.goto 37, 3) := by decide +kernel
theorem d_KWriter_isNews_72 : decode b_KWriter_isNews 72 = .ok (.aload_n 0, 1) := by decide +kernel
theorem d_KWriter_isNews_73 : decode b_KWriter_isNews 73 = .ok (.getfield 74, 3) := by decide +kernel
theorem d_KWriter_isNews_76 : decode b_KWriter_isNews 76 = .ok (.aload_n 0, 1) := by decide +kernel
theorem d_KWriter_isNews_77 : decode b_KWriter_isNews 77 = .ok (.getfield 74, 3) := by decide +kernel
theorem d_KWriter_isNews_80 : decode b_KWriter_isNews 80 = .ok (.getfield 169, 3) := by decide +kernel
theorem d_KWriter_isNews_83 : decode b_KWriter_isNews 83 = .ok (.iload_n 1, 1) := by decide +kernel
theorem d_KWriter_isNews_84 : decode b_KWriter_isNews 84 = .ok (.iaload, 1) := by decide +kernel
theorem d_KWriter_isNews_85 : decode b_KWriter_isNews 85 = .ok (.iload 4, 2) := by decide +kernel
theorem d_KWriter_isNews_87 : decode b_KWriter_isNews 87 = .ok (.ifCond .eq 7, 3) := by decide +kernel
theorem d_KWriter_isNews_90 : decode b_KWriter_isNews 90 = .ok (.iconst (-1), 1) := by decide +kernel
theorem d_KWriter_isNews_91 : decode b_KWriter_isNews 91 = .ok (.goto 12, 3) := by decide +kernel
theorem d_KWriter_isNews_94 : decode b_KWriter_isNews 94 = .ok (.aload_n 0, 1) := by decide +kernel
theorem d_KWriter_isNews_95 : decode b_KWriter_isNews 95 = .ok (.getfield 74, 3) := by decide +kernel
theorem d_KWriter_isNews_98 : decode b_KWriter_isNews 98 = .ok (.getfield 160, 3) := by decide +kernel
theorem d_KWriter_isNews_101 : decode b_KWriter_isNews 101 = .ok (.iload_n 2, 1) := by decide +kernel
theorem d_KWriter_isNews_102 : decode b_KWriter_isNews 102 = .ok (.iaload, 1) := by decide +kernel
theorem d_KWriter_isNews_103 : decode b_KWriter_isNews 103 = .ok (.invokevirtual 149, 3) := by decide +kernel
theorem d_KWriter_isNews_106 : decode b_KWriter_isNews 106 = .ok (.istore 5, 2) := by decide +kernel
theorem d_KWriter_isNews_108 : decode b_KWriter_isNews 108 = .ok (.aload_n 0, 1) := by decide +kernel
theorem d_KWriter_isNews_109 : decode b_KWriter_isNews 109 = .ok (.iload_n 2, 1) := by decide +kernel
theorem d_KWriter_isNews_110 : decode b_KWriter_isNews 110 = .ok (.iload 5, 2) := by decide +kernel
theorem d_KWriter_isNews_112 : decode b_KWriter_isNews 112 = .ok (.invokevirtual 166, 3) := by decide +kernel
theorem d_KWriter_isNews_115 : decode b_KWriter_isNews 115 = .ok (.ifCond .eq 7, 3) := by decide +kernel
theorem d_KWriter_isNews_118 : decode b_KWriter_isNews 118 = .ok (.iconst 1, 1) := by decide +kernel
theorem d_KWriter_isNews_119 : decode b_KWriter_isNews 119 = .ok (.goto 4, 3) := by decide +kernel
theorem d_KWriter_isNews_122 : decode b_KWriter_isNews 122 = .ok (.iconst 0, 1) := by decide +kernel
theorem d_KWriter_isNews_123 : decode b_KWriter_isNews 123 = .ok (.ireturn, 1) := by decide +kernel
/-- KWriter_isNews -/
def w_KWriter_isNews (L : Nat → Nat) (a1 : Int) (a2 : Int) (Q : Int → IS → Prop) (σ : IS) : Prop := dyD (σ.1 17 1) ∧ inL L (rfo (Int.toNat (σ.1 17 1)) 8) a2 ∧ w_KBook_says L (σ.2 (rfo (Int.toNat (σ.1 17 1)) 8) (Int.toNat a2)) 1170 (fun v3 σ2 => WJ (fun (s6 : Unit) (σ7 : IS) => dyD (σ7.1 17 1) ∧ inL L (rfo (Int.toNat (σ7.1 17 1)) 4) a1 ∧ WJ (fun (s11 : Int) (σ12 : IS) => w_KWriter_compareMeanings L a2 s11 (fun v14 σ13 => Q (if v14 = 0 then (0 : Int) else (1 : Int)) σ13) σ12) (fun J9 => if (σ7.2 (rfo (Int.toNat (σ7.1 17 1)) 4) (Int.toNat a1)) < 0 then J9 (-1) σ7 else inL L (rfo (Int.toNat (σ7.1 17 1)) 4) a1 ∧ ((v3 = 0 → inL L (rfo (Int.toNat (σ7.1 17 1)) 13) a2)) ∧ w_KDoc_saying L (Int.toNat (σ7.1 17 1)) (σ7.2 (rfo (Int.toNat (σ7.1 17 1)) 4) (Int.toNat a1)) (if v3 = 0 then (σ7.2 (rfo (Int.toNat (σ7.1 17 1)) 13) (Int.toNat a2)) else ((-1) : Int)) (fun v22 σ21 => J9 v22 σ21) σ7)) (fun J4 => if v3 = 0 then dyD (σ2.1 17 1) ∧ inL L (rfo (Int.toNat (σ2.1 17 1)) 13) a2 ∧ w_KBook_says L (σ2.2 (rfo (Int.toNat (σ2.1 17 1)) 13) (Int.toNat a2)) 1169 (fun v34 σ33 => if v34 = 0 then J4 () σ33 else Q 0 σ33) σ2 else J4 () σ2)) σ
set_option maxHeartbeats 4000000 in
set_option maxRecDepth 20000 in
theorem s_KWriter_isNews {L : Nat → Nat} (hL : ∀ r, L r < 2147483648) {d : Nat} (hd : 5 ≤ d) {a1 : Int} {a2 : Int} {Q : Int → IS → Prop} {σ : IS}  (h : w_KWriter_isNews L a1 a2 Q σ) : OkI BF L d 16 b_KWriter_isNews 6 2 0 [] [some (.inr 17), some (.inl a1), some (.inl a2)] σ (qi Q) := by
  unfold w_KWriter_isNews at h
  obtain ⟨d, rfl⟩ : ∃ e, d = e + 1 := ⟨d - 1, by omega⟩
  refine k_sb (lv' := [some (.inr 17), some (.inl a1), some (.inl a2), none, none, none]) (sb_s (sb_s (sb_s (sb_e (sb_e (sb_e sb_nil)))))) ?_
  refine k_aload_n d_KWriter_isNews_0 rfl ?_
  obtain ⟨y1, h⟩ := h
  refine k_getD (x := (σ.1 17 1)) d_KWriter_isNews_1 fl_16_74 ob_17 rfl rfl (dyD_pos y1) ?_
  refine k_getR d_KWriter_isNews_4 fl_16_155 (doc_ob (dyD_doc y1)) (dfr_8 (dyD_doc y1)) ?_
  refine k_iload_n d_KWriter_isNews_7 rfl ?_
  obtain ⟨p37, h⟩ := h
  refine k_ild (x := (σ.2 (rfo (Int.toNat (σ.1 17 1)) 8) (Int.toNat a2))) d_KWriter_isNews_8 (drI_8 (dyD_doc y1)) p37 rfl ?_
  refine k_istore_n (lv' := [some (.inr 17), some (.inl a1), some (.inl a2), some (.inl (σ.2 (rfo (Int.toNat (σ.1 17 1)) 8) (Int.toNat a2))), none, none]) d_KWriter_isNews_9 rfl rfl ?_
  refine k_aload_n d_KWriter_isNews_10 rfl ?_
  refine k_getD (x := (σ.1 17 1)) d_KWriter_isNews_11 fl_16_74 ob_17 rfl rfl (dyD_pos y1) ?_
  refine k_getR d_KWriter_isNews_14 fl_16_78 (doc_ob (dyD_doc y1)) (dfr_0 (dyD_doc y1)) ?_
  refine k_iload_n d_KWriter_isNews_17 rfl ?_
  refine k_ldc d_KWriter_isNews_18 ks_16_158 rfl ?_
  refine k_cvi [.inl (σ.2 (rfo (Int.toNat (σ.1 17 1)) 8) (Int.toNat a2)), .inr 1170] d_KWriter_isNews_20 ml_16_145 rfl rfl ob_13 rfl (s_KBook_says hL (by omega) it_1170 h) (fun v3 σ2 h => ?_)
  refine k_istore (lv' := [some (.inr 17), some (.inl a1), some (.inl a2), some (.inl (σ.2 (rfo (Int.toNat (σ.1 17 1)) 8) (Int.toNat a2))), some (.inl v3), none]) d_KWriter_isNews_23 rfl rfl ?_
  refine k_iload d_KWriter_isNews_25 rfl ?_
  refine k_join (S := Unit) (pc' := 56) (st' := fun s6 => []) (lv' := fun s6 => [some (.inr 17), some (.inl a1), some (.inl a2), none, some (.inl v3), none]) (fun s6 σ7 h => ?_) (fun J4 hJ5 h => ?_) h
  · refine k_aload_n d_KWriter_isNews_56 rfl ?_
    obtain ⟨y8, h⟩ := h
    refine k_getD (x := (σ7.1 17 1)) d_KWriter_isNews_57 fl_16_74 ob_17 rfl rfl (dyD_pos y8) ?_
    refine k_getR d_KWriter_isNews_60 fl_16_169 (doc_ob (dyD_doc y8)) (dfr_4 (dyD_doc y8)) ?_
    refine k_iload_n d_KWriter_isNews_63 rfl ?_
    obtain ⟨p30, h⟩ := h
    refine k_ild (x := (σ7.2 (rfo (Int.toNat (σ7.1 17 1)) 4) (Int.toNat a1))) d_KWriter_isNews_64 (drI_4 (dyD_doc y8)) p30 rfl ?_
    refine k_join (S := Int) (pc' := 106) (st' := fun s11 => [.inl s11]) (lv' := fun s11 => [some (.inr 17), none, some (.inl a2), none, none, none]) (fun s11 σ12 h => ?_) (fun J9 hJ10 h => ?_) h
    · refine k_istore (lv' := [some (.inr 17), none, some (.inl a2), none, none, some (.inl s11)]) d_KWriter_isNews_106 rfl rfl ?_
      refine k_aload_n d_KWriter_isNews_108 rfl ?_
      refine k_iload_n d_KWriter_isNews_109 rfl ?_
      refine k_iload d_KWriter_isNews_110 rfl ?_
      refine k_cvi [.inl a2, .inl s11] d_KWriter_isNews_112 ml_16_166 rfl rfl ob_17 rfl (s_KWriter_compareMeanings hL (by omega)  h) (fun v14 σ13 h => ?_)
      have hV15 : OkI BF L (d + 1) 16 b_KWriter_isNews 6 2 123 [.inl (if v14 = 0 then (0 : Int) else (1 : Int))] [some (.inr 17), none, some (.inl a2), none, none, some (.inl s11)] σ13 (qi Q) := by
        exact k_iret d_KWriter_isNews_123 (Or.inr ⟨rfl, it01 (Or.inl rfl) (Or.inr rfl)⟩) h
      refine k_ifeq d_KWriter_isNews_115 rfl (fun c16 => ?_) (fun c16 => ?_)
      · have hV17 := k_eqI (if_pos c16) hV15
        refine k_iconst d_KWriter_isNews_122 cI_0 ?_
        exact hV17
      · have hV18 := k_eqI (if_neg c16) hV15
        refine k_iconst d_KWriter_isNews_118 cI_1 ?_
        refine k_goto d_KWriter_isNews_119 rfl ?_
        exact hV18
    · refine k_ifge d_KWriter_isNews_65 rfl (fun c19 => ?_) (fun c19 => ?_)
      · have h := ineg c19 h
        refine k_aload_n d_KWriter_isNews_72 rfl ?_
        refine k_getD (x := (σ7.1 17 1)) d_KWriter_isNews_73 fl_16_74 ob_17 rfl rfl (dyD_pos y8) ?_
        refine k_aload_n d_KWriter_isNews_76 rfl ?_
        refine k_getD (x := (σ7.1 17 1)) d_KWriter_isNews_77 fl_16_74 ob_17 rfl rfl (dyD_pos y8) ?_
        refine k_getR d_KWriter_isNews_80 fl_16_169 (doc_ob (dyD_doc y8)) (dfr_4 (dyD_doc y8)) ?_
        refine k_iload_n d_KWriter_isNews_83 rfl ?_
        obtain ⟨p29, h⟩ := h
        refine k_ild (x := (σ7.2 (rfo (Int.toNat (σ7.1 17 1)) 4) (Int.toNat a1))) d_KWriter_isNews_84 (drI_4 (dyD_doc y8)) p29 rfl ?_
        refine k_iload d_KWriter_isNews_85 rfl ?_
        obtain ⟨pt24, h⟩ := h
        have hV23 : OkI BF L (d + 1) 16 b_KWriter_isNews 6 2 103 [.inl (if v3 = 0 then (σ7.2 (rfo (Int.toNat (σ7.1 17 1)) 13) (Int.toNat a2)) else ((-1) : Int)), .inl (σ7.2 (rfo (Int.toNat (σ7.1 17 1)) 4) (Int.toNat a1)), .inr (Int.toNat (σ7.1 17 1))] [some (.inr 17), some (.inl a1), some (.inl a2), none, some (.inl v3), none] σ7 (qi Q) := by
          refine k_cvi [.inl (σ7.2 (rfo (Int.toNat (σ7.1 17 1)) 4) (Int.toNat a1)), .inl (if v3 = 0 then (σ7.2 (rfo (Int.toNat (σ7.1 17 1)) 13) (Int.toNat a2)) else ((-1) : Int))] d_KWriter_isNews_103 ml_16_149 rfl rfl (doc_ob (dyD_doc y8)) rfl (s_KDoc_saying hL (by omega) (dyD_doc y8) h) (fun v22 σ21 h => ?_)
          exact k_sb (sb_s (sb_n (sb_s (sb_s (sb_n (sb_s sb_nil)))))) (hJ10 v22 _ h)
        have pa25 := pt24
        refine k_ifeq d_KWriter_isNews_87 rfl (fun c26 => ?_) (fun c26 => ?_)
        · have pa25 := pa25 c26
          have hV27 := k_eqI (if_pos c26) hV23
          have p20 := pa25
          refine k_aload_n d_KWriter_isNews_94 rfl ?_
          refine k_getD (x := (σ7.1 17 1)) d_KWriter_isNews_95 fl_16_74 ob_17 rfl rfl (dyD_pos y8) ?_
          refine k_getR d_KWriter_isNews_98 fl_16_160 (doc_ob (dyD_doc y8)) (dfr_13 (dyD_doc y8)) ?_
          refine k_iload_n d_KWriter_isNews_101 rfl ?_
          refine k_ild (x := (σ7.2 (rfo (Int.toNat (σ7.1 17 1)) 13) (Int.toNat a2))) d_KWriter_isNews_102 (drI_13 (dyD_doc y8)) p20 rfl ?_
          exact hV27
        · have hV28 := k_eqI (if_neg c26) hV23
          refine k_iconst d_KWriter_isNews_90 cI_m1 ?_
          refine k_goto d_KWriter_isNews_91 rfl ?_
          exact hV28
      · have h := ipos c19 h
        refine k_iconst d_KWriter_isNews_68 cI_m1 ?_
        refine k_goto d_KWriter_isNews_69 rfl ?_
        exact k_sb (sb_s (sb_n (sb_s (sb_s (sb_n (sb_s sb_nil)))))) (hJ10 (-1) _ h)
  · refine k_ifne d_KWriter_isNews_27 rfl (fun c31 => ?_) (fun c31 => ?_)
    · have h := ineg c31 h
      exact k_sb (sb_s (sb_s (sb_s (sb_n (sb_s (sb_s sb_nil)))))) (hJ5 () _ h)
    · have h := ipos c31 h
      refine k_aload_n d_KWriter_isNews_30 rfl ?_
      obtain ⟨y32, h⟩ := h
      refine k_getD (x := (σ2.1 17 1)) d_KWriter_isNews_31 fl_16_74 ob_17 rfl rfl (dyD_pos y32) ?_
      refine k_getR d_KWriter_isNews_34 fl_16_78 (doc_ob (dyD_doc y32)) (dfr_0 (dyD_doc y32)) ?_
      refine k_aload_n d_KWriter_isNews_37 rfl ?_
      refine k_getD (x := (σ2.1 17 1)) d_KWriter_isNews_38 fl_16_74 ob_17 rfl rfl (dyD_pos y32) ?_
      refine k_getR d_KWriter_isNews_41 fl_16_160 (doc_ob (dyD_doc y32)) (dfr_13 (dyD_doc y32)) ?_
      refine k_iload_n d_KWriter_isNews_44 rfl ?_
      obtain ⟨p36, h⟩ := h
      refine k_ild (x := (σ2.2 (rfo (Int.toNat (σ2.1 17 1)) 13) (Int.toNat a2))) d_KWriter_isNews_45 (drI_13 (dyD_doc y32)) p36 rfl ?_
      refine k_ldc d_KWriter_isNews_46 ks_16_143 rfl ?_
      refine k_cvi [.inl (σ2.2 (rfo (Int.toNat (σ2.1 17 1)) 13) (Int.toNat a2)), .inr 1169] d_KWriter_isNews_48 ml_16_145 rfl rfl ob_13 rfl (s_KBook_says hL (by omega) it_1169 h) (fun v34 σ33 h => ?_)
      refine k_ifeq d_KWriter_isNews_51 rfl (fun c35 => ?_) (fun c35 => ?_)
      · have h := ipos c35 h
        exact k_sb (sb_s (sb_s (sb_s (sb_n (sb_s (sb_s sb_nil)))))) (hJ5 () _ h)
      · have h := ineg c35 h
        refine k_iconst d_KWriter_isNews_54 cI_0 ?_
        exact k_iret d_KWriter_isNews_55 (Or.inr ⟨rfl, Or.inl rfl⟩) h
theorem d_KWriter_meaning_0 : decode b_KWriter_meaning 0 = .ok (.aload_n 0, 1) := by decide +kernel
theorem d_KWriter_meaning_1 : decode b_KWriter_meaning 1 = .ok (.getfield 74, 3) := by decide +kernel
theorem d_KWriter_meaning_4 : decode b_KWriter_meaning 4 = .ok (.getfield 137, 3) := by decide +kernel
theorem d_KWriter_meaning_7 : decode b_KWriter_meaning 7 = .ok (.iload_n 2, 1) := by decide +kernel
theorem d_KWriter_meaning_8 : decode b_KWriter_meaning 8 = .ok (.iaload, 1) := by decide +kernel
theorem d_KWriter_meaning_9 : decode b_KWriter_meaning 9 = .ok (.istore_n 3, 1) := by decide +kernel
theorem d_KWriter_meaning_10 : decode b_KWriter_meaning 10 = .ok (.iload_n 3, 1) := by decide +kernel
theorem d_KWriter_meaning_11 : decode b_KWriter_meaning 11 = .ok (.aload_n 0, 1) := by decide +kernel
theorem d_KWriter_meaning_12 : decode b_KWriter_meaning 12 = .ok (.getfield 140, 3) := by decide +kernel
theorem d_KWriter_meaning_15 : decode b_KWriter_meaning 15 = .ok (.if_icmp .eq 50, 3) := by decide +kernel
theorem d_KWriter_meaning_18 : decode b_KWriter_meaning 18 = .ok (.aload_n 0, 1) := by decide +kernel
theorem d_KWriter_meaning_19 : decode b_KWriter_meaning 19 = .ok (.iload_n 3, 1) := by decide +kernel
theorem d_KWriter_meaning_20 : decode b_KWriter_meaning 20 = .ok (.putfield 140, 3) := by decide +kernel
theorem d_KWriter_meaning_23 : decode b_KWriter_meaning 23 = .ok (.aload_n 0, 1) := by decide +kernel
theorem d_KWriter_meaning_24 : decode b_KWriter_meaning 24 = .ok (.iload_n 3, 1) := by decide +kernel
theorem d_KWriter_meaning_25 : decode b_KWriter_meaning 25 = .ok (.ifCond .ge 7, 3) := by decide +kernel
theorem d_KWriter_meaning_28 : decode b_KWriter_meaning 28 = .ok (.iconst (-1), 1) := by decide +kernel
theorem d_KWriter_meaning_29 : decode b_KWriter_meaning 29 = .ok (.goto 33, 3) := by decide +kernel
theorem d_KWriter_meaning_32 : decode b_KWriter_meaning 32 = .ok (.aload_n 0, 1) := by decide +kernel
theorem d_KWriter_meaning_33 : decode b_KWriter_meaning 33 = .ok (.getfield 74, 3) := by decide +kernel
theorem d_KWriter_meaning_36 : decode b_KWriter_meaning 36 = .ok (.getfield 78, 3) := by decide +kernel
theorem d_KWriter_meaning_39 : decode b_KWriter_meaning 39 = .ok (.iload_n 3, 1) := by decide +kernel
theorem d_KWriter_meaning_40 : decode b_KWriter_meaning 40 = .ok (.ldc 143, 2) := by decide +kernel
theorem d_KWriter_meaning_42 : decode b_KWriter_meaning 42 = .ok (.invokevirtual 145, 3) := by decide +kernel
theorem d_KWriter_meaning_45 : decode b_KWriter_meaning 45 = .ok (.ifCond .eq 8, 3) := by decide +kernel
theorem d_KWriter_meaning_48 : decode b_KWriter_meaning 48 = .ok (.bipush (-2), 2) := by decide +kernel
theorem d_KWriter_meaning_50 : decode b_KWriter_meaning 50 = .ok (.goto 12, 3) := by decide +kernel
theorem d_KWriter_meaning_53 : decode b_KWriter_meaning 53 = .ok (.aload_n 0, 1) := by decide +kernel
theorem d_KWriter_meaning_54 : decode b_KWriter_meaning 54 = .ok (.getfield 74, 3) := by decide +kernel
theorem d_KWriter_meaning_57 : decode b_KWriter_meaning 57 = .ok (.iload_n 1, 1) := by decide +kernel
theorem d_KWriter_meaning_58 : decode b_KWriter_meaning 58 = .ok (.iload_n 3, 1) := by decide +kernel
theorem d_KWriter_meaning_59 : decode b_KWriter_meaning 59 = .ok (.invokevirtual 149, 3) := by decide +kernel
theorem d_KWriter_meaning_62 : decode b_KWriter_meaning 62 = .ok (.putfield 152, 3) := by decide +kernel
theorem d_KWriter_meaning_65 : decode b_KWriter_meaning 65 = .ok (.aload_n 0, 1) := by decide +kernel
theorem d_KWriter_meaning_66 : decode b_KWriter_meaning 66 = .ok (.getfield 152, 3) := by decide +kernel
theorem d_KWriter_meaning_69 : decode b_KWriter_meaning 69 = .ok (.ireturn, 1) := by decide +kernel
/-- KWriter_meaning -/
def w_KWriter_meaning (L : Nat → Nat) (a1 : Int) (a2 : Int) (Q : Int → IS → Prop) (σ : IS) : Prop := dyD (σ.1 17 1) ∧ inL L (rfo (Int.toNat (σ.1 17 1)) 12) a2 ∧ WJ (fun (s4 : Unit) (σ5 : IS) => Q (σ5.1 17 11) σ5) (fun J2 => if (σ.2 (rfo (Int.toNat (σ.1 17 1)) 12) (Int.toNat a2)) = (σ.1 17 10) then J2 () σ else WJ (fun (s9 : Int) (σ10 : IS) => J2 () (pf σ10 17 11 s9)) (fun J7 => if (σ.2 (rfo (Int.toNat (σ.1 17 1)) 12) (Int.toNat a2)) < 0 then J7 (-1) (pf σ 17 10 (σ.2 (rfo (Int.toNat (σ.1 17 1)) 12) (Int.toNat a2))) else w_KBook_says L (σ.2 (rfo (Int.toNat (σ.1 17 1)) 12) (Int.toNat a2)) 1169 (fun v13 σ12 => if v13 = 0 then dyD (σ12.1 17 1) ∧ w_KDoc_saying L (Int.toNat (σ12.1 17 1)) a1 (σ.2 (rfo (Int.toNat (σ.1 17 1)) 12) (Int.toNat a2)) (fun v17 σ16 => J7 v17 σ16) σ12 else J7 (-2) σ12) (pf σ 17 10 (σ.2 (rfo (Int.toNat (σ.1 17 1)) 12) (Int.toNat a2)))))
set_option maxHeartbeats 4000000 in
set_option maxRecDepth 20000 in
theorem s_KWriter_meaning {L : Nat → Nat} (hL : ∀ r, L r < 2147483648) {d : Nat} (hd : 5 ≤ d) {a1 : Int} {a2 : Int} {Q : Int → IS → Prop} {σ : IS}  (h : w_KWriter_meaning L a1 a2 Q σ) : OkI BF L d 16 b_KWriter_meaning 4 1 0 [] [some (.inr 17), some (.inl a1), some (.inl a2)] σ (qi Q) := by
  unfold w_KWriter_meaning at h
  obtain ⟨d, rfl⟩ : ∃ e, d = e + 1 := ⟨d - 1, by omega⟩
  refine k_sb (lv' := [some (.inr 17), some (.inl a1), some (.inl a2), none]) (sb_s (sb_s (sb_s (sb_e sb_nil)))) ?_
  refine k_aload_n d_KWriter_meaning_0 rfl ?_
  obtain ⟨y1, h⟩ := h
  refine k_getD (x := (σ.1 17 1)) d_KWriter_meaning_1 fl_16_74 ob_17 rfl rfl (dyD_pos y1) ?_
  refine k_getR d_KWriter_meaning_4 fl_16_137 (doc_ob (dyD_doc y1)) (dfr_12 (dyD_doc y1)) ?_
  refine k_iload_n d_KWriter_meaning_7 rfl ?_
  obtain ⟨p18, h⟩ := h
  refine k_ild (x := (σ.2 (rfo (Int.toNat (σ.1 17 1)) 12) (Int.toNat a2))) d_KWriter_meaning_8 (drI_12 (dyD_doc y1)) p18 rfl ?_
  refine k_istore_n (lv' := [some (.inr 17), some (.inl a1), some (.inl a2), some (.inl (σ.2 (rfo (Int.toNat (σ.1 17 1)) 12) (Int.toNat a2)))]) d_KWriter_meaning_9 rfl rfl ?_
  refine k_iload_n d_KWriter_meaning_10 rfl ?_
  refine k_aload_n d_KWriter_meaning_11 rfl ?_
  refine k_getI (x := (σ.1 17 10)) d_KWriter_meaning_12 fl_16_140 ob_17 rfl rfl ?_
  refine k_join (S := Unit) (pc' := 65) (st' := fun s4 => []) (lv' := fun s4 => [some (.inr 17), none, none, none]) (fun s4 σ5 h => ?_) (fun J2 hJ3 h => ?_) h
  · refine k_aload_n d_KWriter_meaning_65 rfl ?_
    refine k_getI (x := (σ5.1 17 11)) d_KWriter_meaning_66 fl_16_152 ob_17 rfl rfl ?_
    exact k_iret d_KWriter_meaning_69 (Or.inl rfl) h
  · refine k_iceq d_KWriter_meaning_15 rfl (fun c6 => ?_) (fun c6 => ?_)
    · have h := ipos c6 h
      exact k_sb (sb_s (sb_n (sb_n (sb_n sb_nil)))) (hJ3 () _ h)
    · have h := ineg c6 h
      refine k_aload_n d_KWriter_meaning_18 rfl ?_
      refine k_iload_n d_KWriter_meaning_19 rfl ?_
      refine k_putI d_KWriter_meaning_20 fl_16_140 ob_17 rfl ?_
      refine k_aload_n d_KWriter_meaning_23 rfl ?_
      refine k_iload_n d_KWriter_meaning_24 rfl ?_
      refine k_join (S := Int) (pc' := 62) (st' := fun s9 => [.inl s9, .inr 17]) (lv' := fun s9 => [some (.inr 17), none, none, none]) (fun s9 σ10 h => ?_) (fun J7 hJ8 h => ?_) h
      · refine k_putI d_KWriter_meaning_62 fl_16_152 ob_17 rfl ?_
        exact k_sb (sb_s (sb_s (sb_s (sb_s sb_nil)))) (hJ3 () _ h)
      · refine k_ifge d_KWriter_meaning_25 rfl (fun c11 => ?_) (fun c11 => ?_)
        · have h := ineg c11 h
          refine k_aload_n d_KWriter_meaning_32 rfl ?_
          refine k_getD (x := (σ.1 17 1)) d_KWriter_meaning_33 fl_16_74 ob_17 rfl rfl (dyD_pos y1) ?_
          refine k_getR d_KWriter_meaning_36 fl_16_78 (doc_ob (dyD_doc y1)) (dfr_0 (dyD_doc y1)) ?_
          refine k_iload_n d_KWriter_meaning_39 rfl ?_
          refine k_ldc d_KWriter_meaning_40 ks_16_143 rfl ?_
          refine k_cvi [.inl (σ.2 (rfo (Int.toNat (σ.1 17 1)) 12) (Int.toNat a2)), .inr 1169] d_KWriter_meaning_42 ml_16_145 rfl rfl ob_13 rfl (s_KBook_says hL (by omega) it_1169 h) (fun v13 σ12 h => ?_)
          refine k_ifeq d_KWriter_meaning_45 rfl (fun c14 => ?_) (fun c14 => ?_)
          · have h := ipos c14 h
            refine k_aload_n d_KWriter_meaning_53 rfl ?_
            obtain ⟨y15, h⟩ := h
            refine k_getD (x := (σ12.1 17 1)) d_KWriter_meaning_54 fl_16_74 ob_17 rfl rfl (dyD_pos y15) ?_
            refine k_iload_n d_KWriter_meaning_57 rfl ?_
            refine k_iload_n d_KWriter_meaning_58 rfl ?_
            refine k_cvi [.inl a1, .inl (σ.2 (rfo (Int.toNat (σ.1 17 1)) 12) (Int.toNat a2))] d_KWriter_meaning_59 ml_16_149 rfl rfl (doc_ob (dyD_doc y15)) rfl (s_KDoc_saying hL (by omega) (dyD_doc y15) h) (fun v17 σ16 h => ?_)
            exact k_sb (sb_s (sb_n (sb_n (sb_n sb_nil)))) (hJ8 v17 _ h)
          · have h := ineg c14 h
            refine k_bipush d_KWriter_meaning_48 cB_m2 ?_
            refine k_goto d_KWriter_meaning_50 rfl ?_
            exact k_sb (sb_s (sb_n (sb_n (sb_n sb_nil)))) (hJ8 (-2) _ h)
        · have h := ipos c11 h
          refine k_iconst d_KWriter_meaning_28 cI_m1 ?_
          refine k_goto d_KWriter_meaning_29 rfl ?_
          exact k_sb (sb_s (sb_n (sb_n (sb_n sb_nil)))) (hJ8 (-1) _ h)
theorem d_KWriter_compareNames_0 : decode b_KWriter_compareNames 0 = .ok (.aload_n 0, 1) := by decide +kernel
theorem d_KWriter_compareNames_1 : decode b_KWriter_compareNames 1 = .ok (.getfield 74, 3) := by decide +kernel
theorem d_KWriter_compareNames_4 : decode b_KWriter_compareNames 4 = .ok (.getfield 78, 3) := by decide +kernel
theorem d_KWriter_compareNames_7 : decode b_KWriter_compareNames 7 = .ok (.iload_n 1, 1) := by decide +kernel
theorem d_KWriter_compareNames_8 : decode b_KWriter_compareNames 8 = .ok (.invokevirtual 84, 3) := by decide +kernel
theorem d_KWriter_compareNames_11 : decode b_KWriter_compareNames 11 = .ok (.istore_n 3, 1) := by decide +kernel
theorem d_KWriter_compareNames_12 : decode b_KWriter_compareNames 12 = .ok (.aload_n 0, 1) := by decide +kernel
theorem d_KWriter_compareNames_13 : decode b_KWriter_compareNames 13 = .ok (.getfield 74, 3) := by decide +kernel
theorem d_KWriter_compareNames_16 : decode b_KWriter_compareNames 16 = .ok (.getfield 78, 3) := by decide +kernel
theorem d_KWriter_compareNames_19 : decode b_KWriter_compareNames 19 = .ok (.iload_n 2, 1) := by decide +kernel
theorem d_KWriter_compareNames_20 : decode b_KWriter_compareNames 20 = .ok (.invokevirtual 84, 3) := by decide +kernel
theorem d_KWriter_compareNames_23 : decode b_KWriter_compareNames 23 = .ok (.istore 4, 2) := by decide +kernel
theorem d_KWriter_compareNames_25 : decode b_KWriter_compareNames 25 = .ok (.iconst 0, 1) := by decide +kernel
theorem d_KWriter_compareNames_26 : decode b_KWriter_compareNames 26 = .ok (.istore 5, 2) := by decide +kernel
theorem d_KWriter_compareNames_28 : decode b_KWriter_compareNames 28 = .ok (.iload 5, 2) := by decide +kernel
theorem d_KWriter_compareNames_30 : decode b_KWriter_compareNames 30 = .ok (.iload_n 3, 1) := by decide +kernel
theorem d_KWriter_compareNames_31 : decode b_KWriter_compareNames 31 = .ok (.if_icmp .ge 73, 3) := by decide +kernel
theorem d_KWriter_compareNames_34 : decode b_KWriter_compareNames 34 = .ok (.iload 5, 2) := by decide +kernel
theorem d_KWriter_compareNames_36 : decode b_KWriter_compareNames 36 = .ok (.iload 4, 2) := by decide +kernel
theorem d_KWriter_compareNames_38 : decode b_KWriter_compareNames 38 = .ok (.if_icmp .ge 66, 3) := by decide +kernel
theorem d_KWriter_compareNames_41 : decode b_KWriter_compareNames 41 = .ok (.aload_n 0, 1) := by decide +kernel
theorem d_KWriter_compareNames_42 : decode b_KWriter_compareNames 42 = .ok (.getfield 74, 3) := by decide +kernel
theorem d_KWriter_compareNames_45 : decode b_KWriter_compareNames 45 = .ok (.getfield 78, 3) := by decide +kernel
theorem d_KWriter_compareNames_48 : decode b_KWriter_compareNames 48 = .ok (.iload_n 1, 1) := by decide +kernel
theorem d_KWriter_compareNames_49 : decode b_KWriter_compareNames 49 = .ok (.iload 5, 2) := by decide +kernel
theorem d_KWriter_compareNames_51 : decode b_KWriter_compareNames 51 = .ok (.invokevirtual 87, 3) := by decide +kernel
theorem d_KWriter_compareNames_54 : decode b_KWriter_compareNames 54 = .ok (.aload_n 0, 1) := by decide +kernel
theorem d_KWriter_compareNames_55 : decode b_KWriter_compareNames 55 = .ok (.getfield 74, 3) := by decide +kernel
theorem d_KWriter_compareNames_58 : decode b_KWriter_compareNames 58 = .ok (.getfield 78, 3) := by decide +kernel
theorem d_KWriter_compareNames_61 : decode b_KWriter_compareNames 61 = .ok (.iload_n 2, 1) := by decide +kernel
theorem d_KWriter_compareNames_62 : decode b_KWriter_compareNames 62 = .ok (.iload 5, 2) := by decide +kernel
theorem d_KWriter_compareNames_64 : decode b_KWriter_compareNames 64 = .ok (.invokevirtual 87, 3) := by decide +kernel
theorem d_KWriter_compareNames_67 : decode b_KWriter_compareNames 67 = .ok (.if_icmp .eq 31, 3) := by decide +kernel
theorem d_KWriter_compareNames_70 : decode b_KWriter_compareNames 70 = .ok (.aload_n 0, 1) := by decide +kernel
theorem d_KWriter_compareNames_71 : decode b_KWriter_compareNames 71 = .ok (.getfield 74, 3) := by decide +kernel
theorem d_KWriter_compareNames_74 : decode b_KWriter_compareNames 74 = .ok (.getfield 78, 3) := by decide +kernel
theorem d_KWriter_compareNames_77 : decode b_KWriter_compareNames 77 = .ok (.iload_n 1, 1) := by decide +kernel
theorem d_KWriter_compareNames_78 : decode b_KWriter_compareNames 78 = .ok (.iload 5, 2) := by decide +kernel
theorem d_KWriter_compareNames_80 : decode b_KWriter_compareNames 80 = .ok (.invokevirtual 87, 3) := by decide +kernel
theorem d_KWriter_compareNames_83 : decode b_KWriter_compareNames 83 = .ok (.aload_n 0, 1) := by decide +kernel
theorem d_KWriter_compareNames_84 : decode b_KWriter_compareNames 84 = .ok (.getfield 74, 3) := by decide +kernel
theorem d_KWriter_compareNames_87 : decode b_KWriter_compareNames 87 = .ok (.getfield 78, 3) := by decide +kernel
theorem d_KWriter_compareNames_90 : decode b_KWriter_compareNames 90 = .ok (.iload_n 2, 1) := by decide +kernel
theorem d_KWriter_compareNames_91 : decode b_KWriter_compareNames 91 = .ok (.iload 5, 2) := by decide +kernel
theorem d_KWriter_compareNames_93 : decode b_KWriter_compareNames 93 = .ok (.invokevirtual 87, 3) := by decide +kernel
theorem d_KWriter_compareNames_96 : decode b_KWriter_compareNames 96 = .ok (.isub, 1) := by decide +kernel
theorem d_KWriter_compareNames_97 : decode b_KWriter_compareNames 97 = .ok (.ireturn, 1) := by decide +kernel
theorem d_KWriter_compareNames_98 : decode b_KWriter_compareNames 98 = .ok (.iinc 5 1, 3) := by decide +kernel
theorem d_KWriter_compareNames_101 : decode b_KWriter_compareNames 101 = .ok (.goto (-73), 3) := by decide +kernel
theorem d_KWriter_compareNames_104 : decode b_KWriter_compareNames 104 = .ok (.iload_n 3, 1) := by decide +kernel
theorem d_KWriter_compareNames_105 : decode b_KWriter_compareNames 105 = .ok (.iload 4, 2) := by decide +kernel
theorem d_KWriter_compareNames_107 : decode b_KWriter_compareNames 107 = .ok (.isub, 1) := by decide +kernel
theorem d_KWriter_compareNames_108 : decode b_KWriter_compareNames 108 = .ok (.ireturn, 1) := by decide +kernel
/-- KWriter_compareNames -/
def w_KWriter_compareNames (L : Nat → Nat) (a1 : Int) (a2 : Int) (Q : Int → IS → Prop) (σ : IS) : Prop := dyD (σ.1 17 1) ∧ w_KBook_length L a1 (fun v3 σ2 => dyD (σ2.1 17 1) ∧ w_KBook_length L a2 (fun v6 σ5 => WL (fun (K7 : Int → IS → Prop) (s9 : Int) (σ10 : IS) => if s9 < v3 ∧ (s9 < v6) then dyD (σ10.1 17 1) ∧ w_KBook_at L a1 s9 (fun v13 σ12 => dyD (σ12.1 17 1) ∧ w_KBook_at L a2 s9 (fun v16 σ15 => if v13 = v16 then inR (s9 + 1) ∧ K7 (s9 + 1) σ15 else dyD (σ15.1 17 1) ∧ w_KBook_at L a1 s9 (fun v21 σ20 => dyD (σ20.1 17 1) ∧ w_KBook_at L a2 s9 (fun v24 σ23 => inR (v21 - v24) ∧ Q (v21 - v24) σ23) σ20) σ15) σ12) σ10 else inR (v3 - v6) ∧ Q (v3 - v6) σ10) 0 σ5) σ2) σ
set_option maxHeartbeats 4000000 in
set_option maxRecDepth 20000 in
theorem s_KWriter_compareNames {L : Nat → Nat} (hL : ∀ r, L r < 2147483648) {d : Nat} (hd : 1 ≤ d) {a1 : Int} {a2 : Int} {Q : Int → IS → Prop} {σ : IS}  (h : w_KWriter_compareNames L a1 a2 Q σ) : OkI BF L d 16 b_KWriter_compareNames 6 1 0 [] [some (.inr 17), some (.inl a1), some (.inl a2)] σ (qi Q) := by
  unfold w_KWriter_compareNames at h
  obtain ⟨d, rfl⟩ : ∃ e, d = e + 1 := ⟨d - 1, by omega⟩
  refine k_sb (lv' := [some (.inr 17), some (.inl a1), some (.inl a2), none, none, none]) (sb_s (sb_s (sb_s (sb_e (sb_e (sb_e sb_nil)))))) ?_
  refine k_aload_n d_KWriter_compareNames_0 rfl ?_
  obtain ⟨y1, h⟩ := h
  refine k_getD (x := (σ.1 17 1)) d_KWriter_compareNames_1 fl_16_74 ob_17 rfl rfl (dyD_pos y1) ?_
  refine k_getR d_KWriter_compareNames_4 fl_16_78 (doc_ob (dyD_doc y1)) (dfr_0 (dyD_doc y1)) ?_
  refine k_iload_n d_KWriter_compareNames_7 rfl ?_
  refine k_cvi [.inl a1] d_KWriter_compareNames_8 ml_16_84 rfl rfl ob_13 rfl (s_KBook_length hL (by omega)  h) (fun v3 σ2 h => ?_)
  refine k_istore_n (lv' := [some (.inr 17), some (.inl a1), some (.inl a2), some (.inl v3), none, none]) d_KWriter_compareNames_11 rfl rfl ?_
  refine k_aload_n d_KWriter_compareNames_12 rfl ?_
  obtain ⟨y4, h⟩ := h
  refine k_getD (x := (σ2.1 17 1)) d_KWriter_compareNames_13 fl_16_74 ob_17 rfl rfl (dyD_pos y4) ?_
  refine k_getR d_KWriter_compareNames_16 fl_16_78 (doc_ob (dyD_doc y4)) (dfr_0 (dyD_doc y4)) ?_
  refine k_iload_n d_KWriter_compareNames_19 rfl ?_
  refine k_cvi [.inl a2] d_KWriter_compareNames_20 ml_16_84 rfl rfl ob_13 rfl (s_KBook_length hL (by omega)  h) (fun v6 σ5 h => ?_)
  refine k_istore (lv' := [some (.inr 17), some (.inl a1), some (.inl a2), some (.inl v3), some (.inl v6), none]) d_KWriter_compareNames_23 rfl rfl ?_
  refine k_iconst d_KWriter_compareNames_25 cI_0 ?_
  refine k_istore (lv' := [some (.inr 17), some (.inl a1), some (.inl a2), some (.inl v3), some (.inl v6), some (.inl 0)]) d_KWriter_compareNames_26 rfl rfl ?_
  refine k_sb (lv' := [some (.inr 17), some (.inl a1), some (.inl a2), some (.inl v3), some (.inl v6), some (.inl 0)]) (sb_s (sb_s (sb_s (sb_s (sb_s (sb_s sb_nil)))))) ?_
  refine k_loop (S := Int) (st := fun _ => []) (lv := fun s9 => [some (.inr 17), some (.inl a1), some (.inl a2), some (.inl v3), some (.inl v6), some (.inl s9)]) (fun K7 hK8 s9 σ10 h => ?_) 0 _ h
  refine k_iload d_KWriter_compareNames_28 rfl ?_
  refine k_iload_n d_KWriter_compareNames_30 rfl ?_
  have hX27 : (s9 < v3 ∧ (s9 < v6)) → OkI BF L (d + 1) 16 b_KWriter_compareNames 6 1 41 [] [some (.inr 17), some (.inl a1), some (.inl a2), some (.inl v3), some (.inl v6), some (.inl s9)] σ10 (qi Q) := fun e29 => by
    have h := ipos e29 h
    refine k_aload_n d_KWriter_compareNames_41 rfl ?_
    obtain ⟨y11, h⟩ := h
    refine k_getD (x := (σ10.1 17 1)) d_KWriter_compareNames_42 fl_16_74 ob_17 rfl rfl (dyD_pos y11) ?_
    refine k_getR d_KWriter_compareNames_45 fl_16_78 (doc_ob (dyD_doc y11)) (dfr_0 (dyD_doc y11)) ?_
    refine k_iload_n d_KWriter_compareNames_48 rfl ?_
    refine k_iload d_KWriter_compareNames_49 rfl ?_
    refine k_cvi [.inl a1, .inl s9] d_KWriter_compareNames_51 ml_16_87 rfl rfl ob_13 rfl (s_KBook_at hL (by omega)  h) (fun v13 σ12 h => ?_)
    refine k_aload_n d_KWriter_compareNames_54 rfl ?_
    obtain ⟨y14, h⟩ := h
    refine k_getD (x := (σ12.1 17 1)) d_KWriter_compareNames_55 fl_16_74 ob_17 rfl rfl (dyD_pos y14) ?_
    refine k_getR d_KWriter_compareNames_58 fl_16_78 (doc_ob (dyD_doc y14)) (dfr_0 (dyD_doc y14)) ?_
    refine k_iload_n d_KWriter_compareNames_61 rfl ?_
    refine k_iload d_KWriter_compareNames_62 rfl ?_
    refine k_cvi [.inl a2, .inl s9] d_KWriter_compareNames_64 ml_16_87 rfl rfl ob_13 rfl (s_KBook_at hL (by omega)  h) (fun v16 σ15 h => ?_)
    refine k_iceq d_KWriter_compareNames_67 rfl (fun c17 => ?_) (fun c17 => ?_)
    · have h := ipos c17 h
      obtain ⟨p18, h⟩ := h
      refine k_iinc (lv' := [some (.inr 17), some (.inl a1), some (.inl a2), some (.inl v3), some (.inl v6), some (.inl (s9 + 1))]) d_KWriter_compareNames_98 cI_1 rfl rfl p18 rfl ?_
      refine k_goto d_KWriter_compareNames_101 rfl ?_
      exact k_sb (sb_s (sb_s (sb_s (sb_s (sb_s (sb_s sb_nil)))))) (hK8 (s9 + 1) _ h)
    · have h := ineg c17 h
      refine k_aload_n d_KWriter_compareNames_70 rfl ?_
      obtain ⟨y19, h⟩ := h
      refine k_getD (x := (σ15.1 17 1)) d_KWriter_compareNames_71 fl_16_74 ob_17 rfl rfl (dyD_pos y19) ?_
      refine k_getR d_KWriter_compareNames_74 fl_16_78 (doc_ob (dyD_doc y19)) (dfr_0 (dyD_doc y19)) ?_
      refine k_iload_n d_KWriter_compareNames_77 rfl ?_
      refine k_iload d_KWriter_compareNames_78 rfl ?_
      refine k_cvi [.inl a1, .inl s9] d_KWriter_compareNames_80 ml_16_87 rfl rfl ob_13 rfl (s_KBook_at hL (by omega)  h) (fun v21 σ20 h => ?_)
      refine k_aload_n d_KWriter_compareNames_83 rfl ?_
      obtain ⟨y22, h⟩ := h
      refine k_getD (x := (σ20.1 17 1)) d_KWriter_compareNames_84 fl_16_74 ob_17 rfl rfl (dyD_pos y22) ?_
      refine k_getR d_KWriter_compareNames_87 fl_16_78 (doc_ob (dyD_doc y22)) (dfr_0 (dyD_doc y22)) ?_
      refine k_iload_n d_KWriter_compareNames_90 rfl ?_
      refine k_iload d_KWriter_compareNames_91 rfl ?_
      refine k_cvi [.inl a2, .inl s9] d_KWriter_compareNames_93 ml_16_87 rfl rfl ob_13 rfl (s_KBook_at hL (by omega)  h) (fun v24 σ23 h => ?_)
      obtain ⟨p25, h⟩ := h
      refine k_isub d_KWriter_compareNames_96 p25 ?_
      exact k_iret d_KWriter_compareNames_97 (Or.inl rfl) h
  have hY28 : ¬ (s9 < v3 ∧ (s9 < v6)) → OkI BF L (d + 1) 16 b_KWriter_compareNames 6 1 104 [] [some (.inr 17), some (.inl a1), some (.inl a2), some (.inl v3), some (.inl v6), some (.inl s9)] σ10 (qi Q) := fun e29 => by
    have h := ineg e29 h
    refine k_iload_n d_KWriter_compareNames_104 rfl ?_
    refine k_iload d_KWriter_compareNames_105 rfl ?_
    obtain ⟨p26, h⟩ := h
    refine k_isub d_KWriter_compareNames_107 p26 ?_
    exact k_iret d_KWriter_compareNames_108 (Or.inl rfl) h
  refine k_icge d_KWriter_compareNames_31 rfl (fun c30 => ?_) (fun c30 => ?_)
  · exact hY28 (fun z => c30 z.1)
  · refine k_iload d_KWriter_compareNames_34 rfl ?_
    refine k_iload d_KWriter_compareNames_36 rfl ?_
    refine k_icge d_KWriter_compareNames_38 rfl (fun c31 => ?_) (fun c31 => ?_)
    · exact hY28 (fun z => (c31) z.2)
    · exact hX27 (⟨c30, c31⟩)
theorem d_KWriter_comesFirst_0 : decode b_KWriter_comesFirst 0 = .ok (.aload_n 0, 1) := by decide +kernel
theorem d_KWriter_comesFirst_1 : decode b_KWriter_comesFirst 1 = .ok (.getfield 74, 3) := by decide +kernel
theorem d_KWriter_comesFirst_4 : decode b_KWriter_comesFirst 4 = .ok (.getfield 155, 3) := by decide +kernel
theorem d_KWriter_comesFirst_7 : decode b_KWriter_comesFirst 7 = .ok (.iload_n 2, 1) := by decide +kernel
theorem d_KWriter_comesFirst_8 : decode b_KWriter_comesFirst 8 = .ok (.iaload, 1) := by decide +kernel
theorem d_KWriter_comesFirst_9 : decode b_KWriter_comesFirst 9 = .ok (.istore 5, 2) := by decide +kernel
theorem d_KWriter_comesFirst_11 : decode b_KWriter_comesFirst 11 = .ok (.aload_n 0, 1) := by decide +kernel
theorem d_KWriter_comesFirst_12 : decode b_KWriter_comesFirst 12 = .ok (.getfield 74, 3) := by decide +kernel
theorem d_KWriter_comesFirst_15 : decode b_KWriter_comesFirst 15 = .ok (.getfield 155, 3) := by decide +kernel
theorem d_KWriter_comesFirst_18 : decode b_KWriter_comesFirst 18 = .ok (.iload_n 3, 1) := by decide +kernel
theorem d_KWriter_comesFirst_19 : decode b_KWriter_comesFirst 19 = .ok (.iaload, 1) := by decide +kernel
theorem d_KWriter_comesFirst_20 : decode b_KWriter_comesFirst 20 = .ok (.istore 6, 2) := by decide +kernel
theorem d_KWriter_comesFirst_22 : decode b_KWriter_comesFirst 22 = .ok (.iload 4, 2) := by decide +kernel
theorem d_KWriter_comesFirst_24 : decode b_KWriter_comesFirst 24 = .ok (.ifCond .eq 72, 3) := by decide +kernel
theorem d_KWriter_comesFirst_27 : decode b_KWriter_comesFirst 27 = .ok (.aload_n 0, 1) := by decide +kernel
theorem d_KWriter_comesFirst_28 : decode b_KWriter_comesFirst 28 = .ok (.getfield 74, 3) := by decide +kernel
theorem d_KWriter_comesFirst_31 : decode b_KWriter_comesFirst 31 = .ok (.getfield 78, 3) := by decide +kernel
theorem d_KWriter_comesFirst_34 : decode b_KWriter_comesFirst 34 = .ok (.iload 5, 2) := by decide +kernel
theorem d_KWriter_comesFirst_36 : decode b_KWriter_comesFirst 36 = .ok (.ldc 158, 2) := by decide +kernel
theorem d_KWriter_comesFirst_38 : decode b_KWriter_comesFirst 38 = .ok (.invokevirtual 145, 3) := by decide +kernel
theorem d_KWriter_comesFirst_41 : decode b_KWriter_comesFirst 41 = .ok (.istore 7, 2) := by decide +kernel
theorem d_KWriter_comesFirst_43 : decode b_KWriter_comesFirst 43 = .ok (.iload 7, 2) := by decide +kernel
theorem d_KWriter_comesFirst_45 : decode b_KWriter_comesFirst 45 = .ok (.ifCond .ne 45, 3) := by decide +kernel
theorem d_KWriter_comesFirst_48 : decode b_KWriter_comesFirst 48 = .ok (.aload_n 0, 1) := by decide +kernel
theorem d_KWriter_comesFirst_49 : decode b_KWriter_comesFirst 49 = .ok (.getfield 74, 3) := by decide +kernel
theorem d_KWriter_comesFirst_52 : decode b_KWriter_comesFirst 52 = .ok (.getfield 78, 3) := by decide +kernel
theorem d_KWriter_comesFirst_55 : decode b_KWriter_comesFirst 55 = .ok (.iload 6, 2) := by decide +kernel
theorem d_KWriter_comesFirst_57 : decode b_KWriter_comesFirst 57 = .ok (.ldc 158, 2) := by decide +kernel
theorem d_KWriter_comesFirst_59 : decode b_KWriter_comesFirst 59 = .ok (.invokevirtual 145, 3) := by decide +kernel
theorem d_KWriter_comesFirst_62 : decode b_KWriter_comesFirst 62 = .ok (.ifCond .ne 32, 3) := by decide +kernel
theorem d_KWriter_comesFirst_65 : decode b_KWriter_comesFirst 65 = .ok (.aload_n 0, 1) := by decide +kernel
theorem d_KWriter_comesFirst_66 : decode b_KWriter_comesFirst 66 = .ok (.aload_n 0, 1) := by decide +kernel
theorem d_KWriter_comesFirst_67 : decode b_KWriter_comesFirst 67 = .ok (.getfield 74, 3) := by decide +kernel
theorem d_KWriter_comesFirst_70 : decode b_KWriter_comesFirst 70 = .ok (.getfield 160, 3) := by decide +kernel
theorem d_KWriter_comesFirst_73 : decode b_KWriter_comesFirst 73 = .ok (.iload_n 2, 1) := by decide +kernel
theorem d_KWriter_comesFirst_74 : decode b_KWriter_comesFirst 74 = .ok (.iaload, 1) := by decide +kernel
theorem d_KWriter_comesFirst_75 : decode b_KWriter_comesFirst 75 = .ok (.aload_n 0, 1) := by decide +kernel
theorem d_KWriter_comesFirst_76 : decode b_KWriter_comesFirst 76 = .ok (.getfield 74, 3) := by decide +kernel
theorem d_KWriter_comesFirst_79 : decode b_KWriter_comesFirst 79 = .ok (.getfield 160, 3) := by decide +kernel
theorem d_KWriter_comesFirst_82 : decode b_KWriter_comesFirst 82 = .ok (.iload_n 3, 1) := by decide +kernel
theorem d_KWriter_comesFirst_83 : decode b_KWriter_comesFirst 83 = .ok (.iaload, 1) := by decide +kernel
theorem d_KWriter_comesFirst_84 : decode b_KWriter_comesFirst 84 = .ok (.invokevirtual 163, 3) := by decide +kernel
theorem d_KWriter_comesFirst_87 : decode b_KWriter_comesFirst 87 = .ok (.ifCond .ge 7, 3) := by decide +kernel
theorem d_KWriter_comesFirst_90 : decode b_KWriter_comesFirst 90 = .ok (.iconst 1, 1) := by decide +kernel
theorem d_KWriter_comesFirst_91 : decode b_KWriter_comesFirst 91 = .ok (.goto 4, 3) := by decide +kernel
theorem d_KWriter_comesFirst_94 : decode b_KWriter_comesFirst 94 = .ok (.iconst 0, 1) := by decide +kernel
theorem d_KWriter_comesFirst_95 : decode b_KWriter_comesFirst 95 = .ok (.ireturn, 1) := by decide +kernel
theorem d_KWriter_comesFirst_96 : decode b_KWriter_comesFirst 96 = .ok (.aload_n 0, 1) := by decide +kernel
theorem d_KWriter_comesFirst_97 : decode b_KWriter_comesFirst 97 = .ok (.aload_n 0, 1) := by decide +kernel
theorem d_KWriter_comesFirst_98 : decode b_KWriter_comesFirst 98 = .ok (.getfield 19, 3) := by decide +kernel
theorem d_KWriter_comesFirst_101 : decode b_KWriter_comesFirst 101 = .ok (.iload_n 2, 1) := by decide +kernel
theorem d_KWriter_comesFirst_102 : decode b_KWriter_comesFirst 102 = .ok (.iload_n 1, 1) := by decide +kernel
theorem d_KWriter_comesFirst_103 : decode b_KWriter_comesFirst 103 = .ok (.isub, 1) := by decide +kernel
theorem d_KWriter_comesFirst_104 : decode b_KWriter_comesFirst 104 = .ok (.iaload, 1) := by decide +kernel
theorem d_KWriter_comesFirst_105 : decode b_KWriter_comesFirst 105 = .ok (.aload_n 0, 1) := by decide +kernel
theorem d_KWriter_comesFirst_106 : decode b_KWriter_comesFirst 106 = .ok (.getfield 19, 3) := by decide +kernel
theorem d_KWriter_comesFirst_109 : decode b_KWriter_comesFirst 109 = .ok (.iload_n 3, 1) := by decide +kernel
theorem d_KWriter_comesFirst_110 : decode b_KWriter_comesFirst 110 = .ok (.iload_n 1, 1) := by decide +kernel
theorem d_KWriter_comesFirst_111 : decode b_KWriter_comesFirst 111 = .ok (.isub, 1) := by decide +kernel
theorem d_KWriter_comesFirst_112 : decode b_KWriter_comesFirst 112 = .ok (.iaload, 1) := by decide +kernel
theorem d_KWriter_comesFirst_113 : decode b_KWriter_comesFirst 113 = .ok (.invokevirtual 166, 3) := by decide +kernel
theorem d_KWriter_comesFirst_116 : decode b_KWriter_comesFirst 116 = .ok (.istore 7, 2) := by decide +kernel
theorem d_KWriter_comesFirst_118 : decode b_KWriter_comesFirst 118 = .ok (.iload 7, 2) := by decide +kernel
theorem d_KWriter_comesFirst_120 : decode b_KWriter_comesFirst 120 = .ok (.ifCond .lt 33, 3) := by decide +kernel
theorem d_KWriter_comesFirst_123 : decode b_KWriter_comesFirst 123 = .ok (.iload 7, 2) := by decide +kernel
theorem d_KWriter_comesFirst_125 : decode b_KWriter_comesFirst 125 = .ok (.ifCond .ne 32, 3) := by decide +kernel
theorem d_KWriter_comesFirst_128 : decode b_KWriter_comesFirst 128 = .ok (.aload_n 0, 1) := by decide +kernel
theorem d_KWriter_comesFirst_129 : decode b_KWriter_comesFirst 129 = .ok (.aload_n 0, 1) := by decide +kernel
theorem d_KWriter_comesFirst_130 : decode b_KWriter_comesFirst 130 = .ok (.getfield 74, 3) := by decide +kernel
theorem d_KWriter_comesFirst_133 : decode b_KWriter_comesFirst 133 = .ok (.getfield 160, 3) := by decide +kernel
theorem d_KWriter_comesFirst_136 : decode b_KWriter_comesFirst 136 = .ok (.iload_n 2, 1) := by decide +kernel
theorem d_KWriter_comesFirst_137 : decode b_KWriter_comesFirst 137 = .ok (.iaload, 1) := by decide +kernel
theorem d_KWriter_comesFirst_138 : decode b_KWriter_comesFirst 138 = .ok (.aload_n 0, 1) := by decide +kernel
theorem d_KWriter_comesFirst_139 : decode b_KWriter_comesFirst 139 = .ok (.getfield 74, 3) := by decide +kernel
theorem d_KWriter_comesFirst_142 : decode b_KWriter_comesFirst 142 = .ok (.getfield 160, 3) := by decide +kernel
theorem d_KWriter_comesFirst_145 : decode b_KWriter_comesFirst 145 = .ok (.iload_n 3, 1) := by decide +kernel
theorem d_KWriter_comesFirst_146 : decode b_KWriter_comesFirst 146 = .ok (.iaload, 1) := by decide +kernel
theorem d_KWriter_comesFirst_147 : decode b_KWriter_comesFirst 147 = .ok (.invokevirtual 163, 3) := by decide +kernel
theorem d_KWriter_comesFirst_150 : decode b_KWriter_comesFirst 150 = .ok (.ifCond .ge 7, 3) := by decide +kernel
theorem d_KWriter_comesFirst_153 : decode b_KWriter_comesFirst 153 = .ok (.iconst 1, 1) := by decide +kernel
theorem d_KWriter_comesFirst_154 : decode b_KWriter_comesFirst 154 = .ok (.goto 4, 3) := by decide +kernel
theorem d_KWriter_comesFirst_157 : decode b_KWriter_comesFirst 157 = .ok (.iconst 0, 1) := by decide +kernel
theorem d_KWriter_comesFirst_158 : decode b_KWriter_comesFirst 158 = .ok (.ireturn, 1) := by decide +kernel
/-- KWriter_comesFirst -/
def w_KWriter_comesFirst (L : Nat → Nat) (a1 : Int) (a2 : Int) (a3 : Int) (a4 : Int) (Q : Int → IS → Prop) (σ : IS) : Prop := dyD (σ.1 17 1) ∧ inL L (rfo (Int.toNat (σ.1 17 1)) 8) a2 ∧ inL L (rfo (Int.toNat (σ.1 17 1)) 8) a3 ∧ if a4 = 0 then inR (a2 - a1) ∧ inL L 247 (a2 - a1) ∧ inR (a3 - a1) ∧ inL L 247 (a3 - a1) ∧ w_KWriter_compareMeanings L (σ.2 247 (Int.toNat (a2 - a1))) (σ.2 247 (Int.toNat (a3 - a1))) (fun v4 σ3 => WJ (fun (s7 : Int) (σ8 : IS) => is01 s7 ∧ Q s7 σ8) (fun J5 => WJ (fun (s12 : Unit) (σ13 : IS) => J5 1 σ13) (fun J10 => if v4 < 0 then J10 () σ3 else WJ (fun (s17 : Unit) (σ18 : IS) => J5 0 σ18) (fun J15 => if v4 = 0 then dyD (σ3.1 17 1) ∧ inL L (rfo (Int.toNat (σ3.1 17 1)) 13) a2 ∧ inL L (rfo (Int.toNat (σ3.1 17 1)) 13) a3 ∧ w_KWriter_compareNames L (σ3.2 (rfo (Int.toNat (σ3.1 17 1)) 13) (Int.toNat a2)) (σ3.2 (rfo (Int.toNat (σ3.1 17 1)) 13) (Int.toNat a3)) (fun v22 σ21 => if v22 < 0 then J10 () σ21 else J15 () σ21) σ3 else J15 () σ3)))) σ else w_KBook_says L (σ.2 (rfo (Int.toNat (σ.1 17 1)) 8) (Int.toNat a2)) 1170 (fun v31 σ30 => WJ (fun (s34 : Int) (σ35 : IS) => is01 s34 ∧ Q s34 σ35) (fun J32 => WJ (fun (s39 : Unit) (σ40 : IS) => J32 1 σ40) (fun J37 => if v31 = 0 then dyD (σ30.1 17 1) ∧ w_KBook_says L (σ.2 (rfo (Int.toNat (σ.1 17 1)) 8) (Int.toNat a3)) 1170 (fun v44 σ43 => WJ (fun (s47 : Unit) (σ48 : IS) => J32 0 σ48) (fun J45 => if v44 = 0 then dyD (σ43.1 17 1) ∧ inL L (rfo (Int.toNat (σ43.1 17 1)) 13) a2 ∧ inL L (rfo (Int.toNat (σ43.1 17 1)) 13) a3 ∧ w_KWriter_compareNames L (σ43.2 (rfo (Int.toNat (σ43.1 17 1)) 13) (Int.toNat a2)) (σ43.2 (rfo (Int.toNat (σ43.1 17 1)) 13) (Int.toNat a3)) (fun v52 σ51 => if v52 < 0 then J37 () σ51 else J45 () σ51) σ43 else J45 () σ43)) σ30 else J37 () σ30))) σ
set_option maxHeartbeats 4000000 in
set_option maxRecDepth 20000 in
theorem s_KWriter_comesFirst {L : Nat → Nat} (hL : ∀ r, L r < 2147483648) {d : Nat} (hd : 2 ≤ d) {a1 : Int} {a2 : Int} {a3 : Int} {a4 : Int} {Q : Int → IS → Prop} {σ : IS}  (h : w_KWriter_comesFirst L a1 a2 a3 a4 Q σ) : OkI BF L d 16 b_KWriter_comesFirst 8 2 0 [] [some (.inr 17), some (.inl a1), some (.inl a2), some (.inl a3), some (.inl a4)] σ (qi Q) := by
  unfold w_KWriter_comesFirst at h
  obtain ⟨d, rfl⟩ : ∃ e, d = e + 1 := ⟨d - 1, by omega⟩
  refine k_sb (lv' := [some (.inr 17), some (.inl a1), some (.inl a2), some (.inl a3), some (.inl a4), none, none, none]) (sb_s (sb_s (sb_s (sb_s (sb_s (sb_e (sb_e (sb_e sb_nil)))))))) ?_
  refine k_aload_n d_KWriter_comesFirst_0 rfl ?_
  obtain ⟨y1, h⟩ := h
  refine k_getD (x := (σ.1 17 1)) d_KWriter_comesFirst_1 fl_16_74 ob_17 rfl rfl (dyD_pos y1) ?_
  refine k_getR d_KWriter_comesFirst_4 fl_16_155 (doc_ob (dyD_doc y1)) (dfr_8 (dyD_doc y1)) ?_
  refine k_iload_n d_KWriter_comesFirst_7 rfl ?_
  obtain ⟨p57, h⟩ := h
  refine k_ild (x := (σ.2 (rfo (Int.toNat (σ.1 17 1)) 8) (Int.toNat a2))) d_KWriter_comesFirst_8 (drI_8 (dyD_doc y1)) p57 rfl ?_
  refine k_istore (lv' := [some (.inr 17), some (.inl a1), some (.inl a2), some (.inl a3), some (.inl a4), some (.inl (σ.2 (rfo (Int.toNat (σ.1 17 1)) 8) (Int.toNat a2))), none, none]) d_KWriter_comesFirst_9 rfl rfl ?_
  refine k_aload_n d_KWriter_comesFirst_11 rfl ?_
  refine k_getD (x := (σ.1 17 1)) d_KWriter_comesFirst_12 fl_16_74 ob_17 rfl rfl (dyD_pos y1) ?_
  refine k_getR d_KWriter_comesFirst_15 fl_16_155 (doc_ob (dyD_doc y1)) (dfr_8 (dyD_doc y1)) ?_
  refine k_iload_n d_KWriter_comesFirst_18 rfl ?_
  obtain ⟨p56, h⟩ := h
  refine k_ild (x := (σ.2 (rfo (Int.toNat (σ.1 17 1)) 8) (Int.toNat a3))) d_KWriter_comesFirst_19 (drI_8 (dyD_doc y1)) p56 rfl ?_
  refine k_istore (lv' := [some (.inr 17), some (.inl a1), some (.inl a2), some (.inl a3), some (.inl a4), some (.inl (σ.2 (rfo (Int.toNat (σ.1 17 1)) 8) (Int.toNat a2))), some (.inl (σ.2 (rfo (Int.toNat (σ.1 17 1)) 8) (Int.toNat a3))), none]) d_KWriter_comesFirst_20 rfl rfl ?_
  refine k_iload d_KWriter_comesFirst_22 rfl ?_
  refine k_ifeq d_KWriter_comesFirst_24 rfl (fun c2 => ?_) (fun c2 => ?_)
  · have h := ipos c2 h
    refine k_aload_n d_KWriter_comesFirst_96 rfl ?_
    refine k_aload_n d_KWriter_comesFirst_97 rfl ?_
    refine k_getR d_KWriter_comesFirst_98 fl_16_19 ob_17 rfl ?_
    refine k_iload_n d_KWriter_comesFirst_101 rfl ?_
    refine k_iload_n d_KWriter_comesFirst_102 rfl ?_
    obtain ⟨p29, h⟩ := h
    refine k_isub d_KWriter_comesFirst_103 p29 ?_
    obtain ⟨p28, h⟩ := h
    refine k_ild (x := (σ.2 247 (Int.toNat (a2 - a1)))) d_KWriter_comesFirst_104 rI_247 p28 rfl ?_
    refine k_aload_n d_KWriter_comesFirst_105 rfl ?_
    refine k_getR d_KWriter_comesFirst_106 fl_16_19 ob_17 rfl ?_
    refine k_iload_n d_KWriter_comesFirst_109 rfl ?_
    refine k_iload_n d_KWriter_comesFirst_110 rfl ?_
    obtain ⟨p27, h⟩ := h
    refine k_isub d_KWriter_comesFirst_111 p27 ?_
    obtain ⟨p26, h⟩ := h
    refine k_ild (x := (σ.2 247 (Int.toNat (a3 - a1)))) d_KWriter_comesFirst_112 rI_247 p26 rfl ?_
    refine k_cvi [.inl (σ.2 247 (Int.toNat (a2 - a1))), .inl (σ.2 247 (Int.toNat (a3 - a1)))] d_KWriter_comesFirst_113 ml_16_166 rfl rfl ob_17 rfl (s_KWriter_compareMeanings hL (by omega)  h) (fun v4 σ3 h => ?_)
    refine k_istore (lv' := [some (.inr 17), some (.inl a1), some (.inl a2), some (.inl a3), some (.inl a4), some (.inl (σ.2 (rfo (Int.toNat (σ.1 17 1)) 8) (Int.toNat a2))), some (.inl (σ.2 (rfo (Int.toNat (σ.1 17 1)) 8) (Int.toNat a3))), some (.inl v4)]) d_KWriter_comesFirst_116 rfl rfl ?_
    refine k_iload d_KWriter_comesFirst_118 rfl ?_
    refine k_join (S := Int) (pc' := 158) (st' := fun s7 => [.inl s7]) (lv' := fun s7 => [none, none, none, none, none, none, none, none]) (fun s7 σ8 h => ?_) (fun J5 hJ6 h => ?_) h
    · obtain ⟨p9, h⟩ := h
      exact k_iret d_KWriter_comesFirst_158 (Or.inr ⟨rfl, p9⟩) h
    · refine k_join (S := Unit) (pc' := 153) (st' := fun s12 => []) (lv' := fun s12 => [none, none, none, none, none, none, none, none]) (fun s12 σ13 h => ?_) (fun J10 hJ11 h => ?_) h
      · refine k_iconst d_KWriter_comesFirst_153 cI_1 ?_
        refine k_goto d_KWriter_comesFirst_154 rfl ?_
        exact k_sb (sb_s (sb_s (sb_s (sb_s (sb_s (sb_s (sb_s (sb_s sb_nil)))))))) (hJ6 1 _ h)
      · refine k_iflt d_KWriter_comesFirst_120 rfl (fun c14 => ?_) (fun c14 => ?_)
        · have h := ipos c14 h
          exact k_sb (sb_n (sb_n (sb_n (sb_n (sb_n (sb_n (sb_n (sb_n sb_nil)))))))) (hJ11 () _ h)
        · have h := ineg c14 h
          refine k_iload d_KWriter_comesFirst_123 rfl ?_
          refine k_join (S := Unit) (pc' := 157) (st' := fun s17 => []) (lv' := fun s17 => [none, none, none, none, none, none, none, none]) (fun s17 σ18 h => ?_) (fun J15 hJ16 h => ?_) h
          · refine k_iconst d_KWriter_comesFirst_157 cI_0 ?_
            exact k_sb (sb_s (sb_s (sb_s (sb_s (sb_s (sb_s (sb_s (sb_s sb_nil)))))))) (hJ6 0 _ h)
          · refine k_ifne d_KWriter_comesFirst_125 rfl (fun c19 => ?_) (fun c19 => ?_)
            · have h := ineg c19 h
              exact k_sb (sb_n (sb_n (sb_n (sb_n (sb_n (sb_n (sb_n (sb_n sb_nil)))))))) (hJ16 () _ h)
            · have h := ipos c19 h
              refine k_aload_n d_KWriter_comesFirst_128 rfl ?_
              refine k_aload_n d_KWriter_comesFirst_129 rfl ?_
              obtain ⟨y20, h⟩ := h
              refine k_getD (x := (σ3.1 17 1)) d_KWriter_comesFirst_130 fl_16_74 ob_17 rfl rfl (dyD_pos y20) ?_
              refine k_getR d_KWriter_comesFirst_133 fl_16_160 (doc_ob (dyD_doc y20)) (dfr_13 (dyD_doc y20)) ?_
              refine k_iload_n d_KWriter_comesFirst_136 rfl ?_
              obtain ⟨p25, h⟩ := h
              refine k_ild (x := (σ3.2 (rfo (Int.toNat (σ3.1 17 1)) 13) (Int.toNat a2))) d_KWriter_comesFirst_137 (drI_13 (dyD_doc y20)) p25 rfl ?_
              refine k_aload_n d_KWriter_comesFirst_138 rfl ?_
              refine k_getD (x := (σ3.1 17 1)) d_KWriter_comesFirst_139 fl_16_74 ob_17 rfl rfl (dyD_pos y20) ?_
              refine k_getR d_KWriter_comesFirst_142 fl_16_160 (doc_ob (dyD_doc y20)) (dfr_13 (dyD_doc y20)) ?_
              refine k_iload_n d_KWriter_comesFirst_145 rfl ?_
              obtain ⟨p24, h⟩ := h
              refine k_ild (x := (σ3.2 (rfo (Int.toNat (σ3.1 17 1)) 13) (Int.toNat a3))) d_KWriter_comesFirst_146 (drI_13 (dyD_doc y20)) p24 rfl ?_
              refine k_cvi [.inl (σ3.2 (rfo (Int.toNat (σ3.1 17 1)) 13) (Int.toNat a2)), .inl (σ3.2 (rfo (Int.toNat (σ3.1 17 1)) 13) (Int.toNat a3))] d_KWriter_comesFirst_147 ml_16_163 rfl rfl ob_17 rfl (s_KWriter_compareNames hL (by omega)  h) (fun v22 σ21 h => ?_)
              refine k_ifge d_KWriter_comesFirst_150 rfl (fun c23 => ?_) (fun c23 => ?_)
              · have h := ineg c23 h
                exact k_sb (sb_n (sb_n (sb_n (sb_n (sb_n (sb_n (sb_n (sb_n sb_nil)))))))) (hJ16 () _ h)
              · have h := ipos c23 h
                exact k_sb (sb_n (sb_n (sb_n (sb_n (sb_n (sb_n (sb_n (sb_n sb_nil)))))))) (hJ11 () _ h)
  · have h := ineg c2 h
    refine k_aload_n d_KWriter_comesFirst_27 rfl ?_
    refine k_getD (x := (σ.1 17 1)) d_KWriter_comesFirst_28 fl_16_74 ob_17 rfl rfl (dyD_pos y1) ?_
    refine k_getR d_KWriter_comesFirst_31 fl_16_78 (doc_ob (dyD_doc y1)) (dfr_0 (dyD_doc y1)) ?_
    refine k_iload d_KWriter_comesFirst_34 rfl ?_
    refine k_ldc d_KWriter_comesFirst_36 ks_16_158 rfl ?_
    refine k_cvi [.inl (σ.2 (rfo (Int.toNat (σ.1 17 1)) 8) (Int.toNat a2)), .inr 1170] d_KWriter_comesFirst_38 ml_16_145 rfl rfl ob_13 rfl (s_KBook_says hL (by omega) it_1170 h) (fun v31 σ30 h => ?_)
    refine k_istore (lv' := [some (.inr 17), some (.inl a1), some (.inl a2), some (.inl a3), some (.inl a4), some (.inl (σ.2 (rfo (Int.toNat (σ.1 17 1)) 8) (Int.toNat a2))), some (.inl (σ.2 (rfo (Int.toNat (σ.1 17 1)) 8) (Int.toNat a3))), some (.inl v31)]) d_KWriter_comesFirst_41 rfl rfl ?_
    refine k_iload d_KWriter_comesFirst_43 rfl ?_
    refine k_join (S := Int) (pc' := 95) (st' := fun s34 => [.inl s34]) (lv' := fun s34 => [none, none, none, none, none, none, none, none]) (fun s34 σ35 h => ?_) (fun J32 hJ33 h => ?_) h
    · obtain ⟨p36, h⟩ := h
      exact k_iret d_KWriter_comesFirst_95 (Or.inr ⟨rfl, p36⟩) h
    · refine k_join (S := Unit) (pc' := 90) (st' := fun s39 => []) (lv' := fun s39 => [none, none, none, none, none, none, none, none]) (fun s39 σ40 h => ?_) (fun J37 hJ38 h => ?_) h
      · refine k_iconst d_KWriter_comesFirst_90 cI_1 ?_
        refine k_goto d_KWriter_comesFirst_91 rfl ?_
        exact k_sb (sb_s (sb_s (sb_s (sb_s (sb_s (sb_s (sb_s (sb_s sb_nil)))))))) (hJ33 1 _ h)
      · refine k_ifne d_KWriter_comesFirst_45 rfl (fun c41 => ?_) (fun c41 => ?_)
        · have h := ineg c41 h
          exact k_sb (sb_n (sb_n (sb_n (sb_n (sb_n (sb_n (sb_n (sb_n sb_nil)))))))) (hJ38 () _ h)
        · have h := ipos c41 h
          refine k_aload_n d_KWriter_comesFirst_48 rfl ?_
          obtain ⟨y42, h⟩ := h
          refine k_getD (x := (σ30.1 17 1)) d_KWriter_comesFirst_49 fl_16_74 ob_17 rfl rfl (dyD_pos y42) ?_
          refine k_getR d_KWriter_comesFirst_52 fl_16_78 (doc_ob (dyD_doc y42)) (dfr_0 (dyD_doc y42)) ?_
          refine k_iload d_KWriter_comesFirst_55 rfl ?_
          refine k_ldc d_KWriter_comesFirst_57 ks_16_158 rfl ?_
          refine k_cvi [.inl (σ.2 (rfo (Int.toNat (σ.1 17 1)) 8) (Int.toNat a3)), .inr 1170] d_KWriter_comesFirst_59 ml_16_145 rfl rfl ob_13 rfl (s_KBook_says hL (by omega) it_1170 h) (fun v44 σ43 h => ?_)
          refine k_join (S := Unit) (pc' := 94) (st' := fun s47 => []) (lv' := fun s47 => [none, none, none, none, none, none, none, none]) (fun s47 σ48 h => ?_) (fun J45 hJ46 h => ?_) h
          · refine k_iconst d_KWriter_comesFirst_94 cI_0 ?_
            exact k_sb (sb_s (sb_s (sb_s (sb_s (sb_s (sb_s (sb_s (sb_s sb_nil)))))))) (hJ33 0 _ h)
          · refine k_ifne d_KWriter_comesFirst_62 rfl (fun c49 => ?_) (fun c49 => ?_)
            · have h := ineg c49 h
              exact k_sb (sb_n (sb_n (sb_n (sb_n (sb_n (sb_n (sb_n (sb_n sb_nil)))))))) (hJ46 () _ h)
            · have h := ipos c49 h
              refine k_aload_n d_KWriter_comesFirst_65 rfl ?_
              refine k_aload_n d_KWriter_comesFirst_66 rfl ?_
              obtain ⟨y50, h⟩ := h
              refine k_getD (x := (σ43.1 17 1)) d_KWriter_comesFirst_67 fl_16_74 ob_17 rfl rfl (dyD_pos y50) ?_
              refine k_getR d_KWriter_comesFirst_70 fl_16_160 (doc_ob (dyD_doc y50)) (dfr_13 (dyD_doc y50)) ?_
              refine k_iload_n d_KWriter_comesFirst_73 rfl ?_
              obtain ⟨p55, h⟩ := h
              refine k_ild (x := (σ43.2 (rfo (Int.toNat (σ43.1 17 1)) 13) (Int.toNat a2))) d_KWriter_comesFirst_74 (drI_13 (dyD_doc y50)) p55 rfl ?_
              refine k_aload_n d_KWriter_comesFirst_75 rfl ?_
              refine k_getD (x := (σ43.1 17 1)) d_KWriter_comesFirst_76 fl_16_74 ob_17 rfl rfl (dyD_pos y50) ?_
              refine k_getR d_KWriter_comesFirst_79 fl_16_160 (doc_ob (dyD_doc y50)) (dfr_13 (dyD_doc y50)) ?_
              refine k_iload_n d_KWriter_comesFirst_82 rfl ?_
              obtain ⟨p54, h⟩ := h
              refine k_ild (x := (σ43.2 (rfo (Int.toNat (σ43.1 17 1)) 13) (Int.toNat a3))) d_KWriter_comesFirst_83 (drI_13 (dyD_doc y50)) p54 rfl ?_
              refine k_cvi [.inl (σ43.2 (rfo (Int.toNat (σ43.1 17 1)) 13) (Int.toNat a2)), .inl (σ43.2 (rfo (Int.toNat (σ43.1 17 1)) 13) (Int.toNat a3))] d_KWriter_comesFirst_84 ml_16_163 rfl rfl ob_17 rfl (s_KWriter_compareNames hL (by omega)  h) (fun v52 σ51 h => ?_)
              refine k_ifge d_KWriter_comesFirst_87 rfl (fun c53 => ?_) (fun c53 => ?_)
              · have h := ineg c53 h
                exact k_sb (sb_n (sb_n (sb_n (sb_n (sb_n (sb_n (sb_n (sb_n sb_nil)))))))) (hJ46 () _ h)
              · have h := ipos c53 h
                exact k_sb (sb_n (sb_n (sb_n (sb_n (sb_n (sb_n (sb_n (sb_n sb_nil)))))))) (hJ38 () _ h)
theorem d_KWriter_pick_0 : decode b_KWriter_pick 0 = .ok (.iconst 0, 1) := by decide +kernel
theorem d_KWriter_pick_1 : decode b_KWriter_pick 1 = .ok (.istore_n 3, 1) := by decide +kernel
theorem d_KWriter_pick_2 : decode b_KWriter_pick 2 = .ok (.aload_n 0, 1) := by decide +kernel
theorem d_KWriter_pick_3 : decode b_KWriter_pick 3 = .ok (.getfield 74, 3) := by decide +kernel
theorem d_KWriter_pick_6 : decode b_KWriter_pick 6 = .ok (.getfield 172, 3) := by decide +kernel
theorem d_KWriter_pick_9 : decode b_KWriter_pick 9 = .ok (.iload_n 1, 1) := by decide +kernel
theorem d_KWriter_pick_10 : decode b_KWriter_pick 10 = .ok (.iaload, 1) := by decide +kernel
theorem d_KWriter_pick_11 : decode b_KWriter_pick 11 = .ok (.istore 4, 2) := by decide +kernel
theorem d_KWriter_pick_13 : decode b_KWriter_pick 13 = .ok (.aload_n 0, 1) := by decide +kernel
theorem d_KWriter_pick_14 : decode b_KWriter_pick 14 = .ok (.bipush (-2), 2) := by decide +kernel
theorem d_KWriter_pick_16 : decode b_KWriter_pick 16 = .ok (.putfield 140, 3) := by decide +kernel
theorem d_KWriter_pick_19 : decode b_KWriter_pick 19 = .ok (.iload 4, 2) := by decide +kernel
theorem d_KWriter_pick_21 : decode b_KWriter_pick 21 = .ok (.istore 5, 2) := by decide +kernel
theorem d_KWriter_pick_23 : decode b_KWriter_pick 23 = .ok (.iload 5, 2) := by decide +kernel
theorem d_KWriter_pick_25 : decode b_KWriter_pick 25 = .ok (.iload 4, 2) := by decide +kernel
theorem d_KWriter_pick_27 : decode b_KWriter_pick 27 = .ok (.aload_n 0, 1) := by decide +kernel
theorem d_KWriter_pick_28 : decode b_KWriter_pick 28 = .ok (.getfield 74, 3) := by decide +kernel
theorem d_KWriter_pick_31 : decode b_KWriter_pick 31 = .ok (.getfield 175, 3) := by decide +kernel
theorem d_KWriter_pick_34 : decode b_KWriter_pick 34 = .ok (.iload_n 1, 1) := by decide +kernel
theorem d_KWriter_pick_35 : decode b_KWriter_pick 35 = .ok (.iaload, 1) := by decide +kernel
theorem d_KWriter_pick_36 : decode b_KWriter_pick 36 = .ok (.iadd, 1) := by decide +kernel
theorem d_KWriter_pick_37 : decode b_KWriter_pick 37 = .ok (.if_icmp .ge 124, 3) := by decide +kernel
theorem d_KWriter_pick_40 : decode b_KWriter_pick 40 = .ok (.aload_n 0, 1) := by decide +kernel
theorem d_KWriter_pick_41 : decode b_KWriter_pick 41 = .ok (.getfield 74, 3) := by decide +kernel
theorem d_KWriter_pick_44 : decode b_KWriter_pick 44 = .ok (.iload 5, 2) := by decide +kernel
theorem d_KWriter_pick_46 : decode b_KWriter_pick 46 = .ok (.invokevirtual 178, 3) := by decide +kernel
theorem d_KWriter_pick_49 : decode b_KWriter_pick 49 = .ok (.iload_n 2, 1) := by decide +kernel
theorem d_KWriter_pick_50 : decode b_KWriter_pick 50 = .ok (.if_icmp .ne 105, 3) := by decide +kernel
theorem d_KWriter_pick_53 : decode b_KWriter_pick 53 = .ok (.iload_n 2, 1) := by decide +kernel
theorem d_KWriter_pick_54 : decode b_KWriter_pick 54 = .ok (.ifCond .eq 13, 3) := by decide +kernel
theorem d_KWriter_pick_57 : decode b_KWriter_pick 57 = .ok (.aload_n 0, 1) := by decide +kernel
theorem d_KWriter_pick_58 : decode b_KWriter_pick 58 = .ok (.iload_n 1, 1) := by decide +kernel
theorem d_KWriter_pick_59 : decode b_KWriter_pick 59 = .ok (.iload 5, 2) := by decide +kernel
theorem d_KWriter_pick_61 : decode b_KWriter_pick 61 = .ok (.invokevirtual 182, 3) := by decide +kernel
theorem d_KWriter_pick_64 : decode b_KWriter_pick 64 = .ok (.ifCond .eq 91, 3) := by decide +kernel
theorem d_KWriter_pick_67 : decode b_KWriter_pick 67 = .ok (.iload_n 3, 1) := by decide +kernel
theorem d_KWriter_pick_68 : decode b_KWriter_pick 68 = .ok (.istore 6, 2) := by decide +kernel
theorem d_KWriter_pick_70 : decode b_KWriter_pick 70 = .ok (.aload_n 0, 1) := by decide +kernel
theorem d_KWriter_pick_71 : decode b_KWriter_pick 71 = .ok (.getfield 19, 3) := by decide +kernel
theorem d_KWriter_pick_74 : decode b_KWriter_pick 74 = .ok (.iload 5, 2) := by decide +kernel
theorem d_KWriter_pick_76 : decode b_KWriter_pick 76 = .ok (.iload 4, 2) := by decide +kernel
theorem d_KWriter_pick_78 : decode b_KWriter_pick 78 = .ok (.isub, 1) := by decide +kernel
theorem d_KWriter_pick_79 : decode b_KWriter_pick 79 = .ok (.iload_n 2, 1) := by decide +kernel
theorem d_KWriter_pick_80 : decode b_KWriter_pick 80 = .ok (.ifCond .eq 7, 3) := by decide +kernel
theorem d_KWriter_pick_83 : decode b_KWriter_pick 83 = .ok (.iconst 0, 1) := by decide +kernel
theorem d_KWriter_pick_84 : decode b_KWriter_pick 84 = .ok (.goto 10, 3) := by decide +kernel
theorem d_KWriter_pick_87 : decode b_KWriter_pick 87 = .ok (.aload_n 0, 1) := by decide +kernel
theorem d_KWriter_pick_88 : decode b_KWriter_pick 88 = .ok (.iload_n 1, 1) := by decide +kernel
theorem d_KWriter_pick_89 : decode b_KWriter_pick 89 = .ok (.iload 5, 2) := by decide +kernel
theorem d_KWriter_pick_91 : decode b_KWriter_pick 91 = .ok (.invokevirtual 186, 3) := by decide +kernel
theorem d_KWriter_pick_94 : decode b_KWriter_pick 94 = .ok (.iastore, 1) := by decide +kernel
theorem d_KWriter_pick_95 : decode b_KWriter_pick 95 = .ok (.iload 6, 2) := by decide +kernel
theorem d_KWriter_pick_97 : decode b_KWriter_pick 97 = .ok (.ifCond .le 46, 3) := by decide +kernel
theorem d_KWriter_pick_100 : decode b_KWriter_pick 100 = .ok (.aload_n 0, 1) := by decide +kernel
theorem d_KWriter_pick_101 : decode b_KWriter_pick 101 = .ok (.iload 4, 2) := by decide +kernel
theorem d_KWriter_pick_103 : decode b_KWriter_pick 103 = .ok (.iload 5, 2) := by decide +kernel
theorem d_KWriter_pick_105 : decode b_KWriter_pick 105 = .ok (.aload_n 0, 1) := by decide +kernel
theorem d_KWriter_pick_106 : decode b_KWriter_pick 106 = .ok (.getfield 10, 3) := by decide +kernel
theorem d_KWriter_pick_109 : decode b_KWriter_pick 109 = .ok (.iload 6, 2) := by decide +kernel
theorem d_KWriter_pick_111 : decode b_KWriter_pick 111 = .ok (.iconst 1, 1) := by decide +kernel
theorem d_KWriter_pick_112 : decode b_KWriter_pick 112 = .ok (.isub, 1) := by decide +kernel
theorem d_KWriter_pick_113 : decode b_KWriter_pick 113 = .ok (.iaload, 1) := by decide +kernel
theorem d_KWriter_pick_114 : decode b_KWriter_pick 114 = .ok (.iload_n 2, 1) := by decide +kernel
theorem d_KWriter_pick_115 : decode b_KWriter_pick 115 = .ok (.invokevirtual 189, 3) := by decide +kernel
theorem d_KWriter_pick_118 : decode b_KWriter_pick 118 = .ok (.ifCond .eq 25, 3) := by decide +kernel
theorem d_KWriter_pick_121 : decode b_KWriter_pick 121 = .ok (.aload_n 0, 1) := by decide +kernel
theorem d_KWriter_pick_122 : decode b_KWriter_pick 122 = .ok (.getfield 10, 3) := by decide +kernel
theorem d_KWriter_pick_125 : decode b_KWriter_pick 125 = .ok (.iload 6, 2) := by decide +kernel
theorem d_KWriter_pick_127 : decode b_KWriter_pick 127 = .ok (.aload_n 0, 1) := by decide +kernel
theorem d_KWriter_pick_128 : decode b_KWriter_pick 128 = .ok (.getfield 10, 3) := by decide +kernel
theorem d_KWriter_pick_131 : decode b_KWriter_pick 131 = .ok (.iload 6, 2) := by decide +kernel
theorem d_KWriter_pick_133 : decode b_KWriter_pick 133 = .ok (.iconst 1, 1) := by decide +kernel
theorem d_KWriter_pick_134 : decode b_KWriter_pick 134 = .ok (.isub, 1) := by decide +kernel
theorem d_KWriter_pick_135 : decode b_KWriter_pick 135 = .ok (.iaload, 1) := by decide +kernel
theorem d_KWriter_pick_136 : decode b_KWriter_pick 136 = .ok (.iastore, 1) := by decide +kernel
theorem d_KWriter_pick_137 : decode b_KWriter_pick 137 = .ok (.iinc 6 (-1), 3) := by decide +kernel
theorem d_KWriter_pick_140 : decode b_KWriter_pick 140 = .ok (.goto (-45), 3) := by decide +kernel
theorem d_KWriter_pick_143 : decode b_KWriter_pick 143 = .ok (.aload_n 0, 1) := by decide +kernel
theorem d_KWriter_pick_144 : decode b_KWriter_pick 144 = .ok (.getfield 10, 3) := by decide +kernel
theorem d_KWriter_pick_147 : decode b_KWriter_pick 147 = .ok (.iload 6, 2) := by decide +kernel
theorem d_KWriter_pick_149 : decode b_KWriter_pick 149 = .ok (.iload 5, 2) := by decide +kernel
theorem d_KWriter_pick_151 : decode b_KWriter_pick 151 = .ok (.iastore, 1) := by decide +kernel
theorem d_KWriter_pick_152 : decode b_KWriter_pick 152 = .ok (.iinc 3 1, 3) := by decide +kernel
theorem d_KWriter_pick_155 : decode b_KWriter_pick 155 = .ok (.iinc 5 1, 3) := by decide +kernel
theorem d_KWriter_pick_158 : decode b_KWriter_pick 158 = .ok (.goto (-135), 3) := by decide +kernel
theorem d_KWriter_pick_161 : decode b_KWriter_pick 161 = .ok (.iload_n 3, 1) := by decide +kernel
theorem d_KWriter_pick_162 : decode b_KWriter_pick 162 = .ok (.ireturn, 1) := by decide +kernel
/-- KWriter_pick -/
def w_KWriter_pick (L : Nat → Nat) (a1 : Int) (a2 : Int) (Q : Int → IS → Prop) (σ : IS) : Prop := dyD (σ.1 17 1) ∧ inL L (rfo (Int.toNat (σ.1 17 1)) 5) a1 ∧ WL (fun (K2 : Int × Int → IS → Prop) (s4 : Int × Int) (σ5 : IS) => dyD (σ5.1 17 1) ∧ inL L (rfo (Int.toNat (σ5.1 17 1)) 6) a1 ∧ inR ((σ.2 (rfo (Int.toNat (σ.1 17 1)) 5) (Int.toNat a1)) + (σ5.2 (rfo (Int.toNat (σ5.1 17 1)) 6) (Int.toNat a1))) ∧ if s4.2 < ((σ.2 (rfo (Int.toNat (σ.1 17 1)) 5) (Int.toNat a1)) + (σ5.2 (rfo (Int.toNat (σ5.1 17 1)) 6) (Int.toNat a1))) then w_KDoc_isDeclaration L (Int.toNat (σ5.1 17 1)) s4.2 (fun v9 σ8 => WJ (fun (s12 : Int) (σ13 : IS) => inR (s4.2 + 1) ∧ K2 (s12, (s4.2 + 1)) σ13) (fun J10 => if v9 = a2 then WJ (fun (s18 : Unit) (σ19 : IS) => inR (s4.2 - (σ.2 (rfo (Int.toNat (σ.1 17 1)) 5) (Int.toNat a1))) ∧ WJ (fun (s22 : Int) (σ23 : IS) => inL L 247 (s4.2 - (σ.2 (rfo (Int.toNat (σ.1 17 1)) 5) (Int.toNat a1))) ∧ WL (fun (K24 : Int → IS → Prop) (s26 : Int) (σ27 : IS) => WJ (fun (s30 : Unit) (σ31 : IS) => inL L 245 s26 ∧ inR (s4.1 + 1) ∧ J10 (s4.1 + 1) (pr σ31 245 (Int.toNat s26) s4.2)) (fun J28 => if 0 < s26 then inR (s26 - 1) ∧ inL L 245 (s26 - 1) ∧ w_KWriter_comesFirst L (σ.2 (rfo (Int.toNat (σ.1 17 1)) 5) (Int.toNat a1)) s4.2 (σ27.2 245 (Int.toNat (s26 - 1))) a2 (fun v36 σ35 => if v36 = 0 then J28 () σ35 else inR (s26 - 1) ∧ inL L 245 (s26 - 1) ∧ inL L 245 s26 ∧ inR (s26 + (-1)) ∧ K24 (s26 + (-1)) (pr σ35 245 (Int.toNat s26) (σ35.2 245 (Int.toNat (s26 - 1))))) σ27 else J28 () σ27)) s4.1 (pr σ23 247 (Int.toNat (s4.2 - (σ.2 (rfo (Int.toNat (σ.1 17 1)) 5) (Int.toNat a1)))) s22)) (fun J20 => if a2 = 0 then w_KWriter_meaning L a1 s4.2 (fun v47 σ46 => J20 v47 σ46) σ19 else J20 0 σ19)) (fun J16 => if a2 = 0 then J16 () σ8 else w_KWriter_isNews L a1 s4.2 (fun v51 σ50 => if v51 = 0 then J10 s4.1 σ50 else J16 () σ50) σ8) else J10 s4.1 σ8)) σ5 else Q s4.1 σ5) (0, (σ.2 (rfo (Int.toNat (σ.1 17 1)) 5) (Int.toNat a1))) (pf σ 17 10 (-2))
set_option maxHeartbeats 4000000 in
set_option maxRecDepth 20000 in
theorem s_KWriter_pick {L : Nat → Nat} (hL : ∀ r, L r < 2147483648) {d : Nat} (hd : 6 ≤ d) {a1 : Int} {a2 : Int} {Q : Int → IS → Prop} {σ : IS}  (h : w_KWriter_pick L a1 a2 Q σ) : OkI BF L d 16 b_KWriter_pick 7 1 0 [] [some (.inr 17), some (.inl a1), some (.inl a2)] σ (qi Q) := by
  unfold w_KWriter_pick at h
  obtain ⟨d, rfl⟩ : ∃ e, d = e + 1 := ⟨d - 1, by omega⟩
  refine k_sb (lv' := [some (.inr 17), some (.inl a1), some (.inl a2), none, none, none, none]) (sb_s (sb_s (sb_s (sb_e (sb_e (sb_e (sb_e sb_nil))))))) ?_
  refine k_iconst d_KWriter_pick_0 cI_0 ?_
  refine k_istore_n (lv' := [some (.inr 17), some (.inl a1), some (.inl a2), some (.inl 0), none, none, none]) d_KWriter_pick_1 rfl rfl ?_
  refine k_aload_n d_KWriter_pick_2 rfl ?_
  obtain ⟨y1, h⟩ := h
  refine k_getD (x := (σ.1 17 1)) d_KWriter_pick_3 fl_16_74 ob_17 rfl rfl (dyD_pos y1) ?_
  refine k_getR d_KWriter_pick_6 fl_16_172 (doc_ob (dyD_doc y1)) (dfr_5 (dyD_doc y1)) ?_
  refine k_iload_n d_KWriter_pick_9 rfl ?_
  obtain ⟨p55, h⟩ := h
  refine k_ild (x := (σ.2 (rfo (Int.toNat (σ.1 17 1)) 5) (Int.toNat a1))) d_KWriter_pick_10 (drI_5 (dyD_doc y1)) p55 rfl ?_
  refine k_istore (lv' := [some (.inr 17), some (.inl a1), some (.inl a2), some (.inl 0), some (.inl (σ.2 (rfo (Int.toNat (σ.1 17 1)) 5) (Int.toNat a1))), none, none]) d_KWriter_pick_11 rfl rfl ?_
  refine k_aload_n d_KWriter_pick_13 rfl ?_
  refine k_bipush d_KWriter_pick_14 cB_m2 ?_
  refine k_putI d_KWriter_pick_16 fl_16_140 ob_17 rfl ?_
  refine k_iload d_KWriter_pick_19 rfl ?_
  refine k_istore (lv' := [some (.inr 17), some (.inl a1), some (.inl a2), some (.inl 0), some (.inl (σ.2 (rfo (Int.toNat (σ.1 17 1)) 5) (Int.toNat a1))), some (.inl (σ.2 (rfo (Int.toNat (σ.1 17 1)) 5) (Int.toNat a1))), none]) d_KWriter_pick_21 rfl rfl ?_
  refine k_sb (lv' := [some (.inr 17), some (.inl a1), some (.inl a2), some (.inl 0), some (.inl (σ.2 (rfo (Int.toNat (σ.1 17 1)) 5) (Int.toNat a1))), some (.inl (σ.2 (rfo (Int.toNat (σ.1 17 1)) 5) (Int.toNat a1))), none]) (sb_s (sb_s (sb_s (sb_s (sb_s (sb_s (sb_s sb_nil))))))) ?_
  refine k_loop (S := Int × Int) (st := fun _ => []) (lv := fun s4 => [some (.inr 17), some (.inl a1), some (.inl a2), some (.inl s4.1), some (.inl (σ.2 (rfo (Int.toNat (σ.1 17 1)) 5) (Int.toNat a1))), some (.inl s4.2), none]) (fun K2 hK3 s4 σ5 h => ?_) (0, (σ.2 (rfo (Int.toNat (σ.1 17 1)) 5) (Int.toNat a1))) _ h
  refine k_iload d_KWriter_pick_23 rfl ?_
  refine k_iload d_KWriter_pick_25 rfl ?_
  refine k_aload_n d_KWriter_pick_27 rfl ?_
  obtain ⟨y6, h⟩ := h
  refine k_getD (x := (σ5.1 17 1)) d_KWriter_pick_28 fl_16_74 ob_17 rfl rfl (dyD_pos y6) ?_
  refine k_getR d_KWriter_pick_31 fl_16_175 (doc_ob (dyD_doc y6)) (dfr_6 (dyD_doc y6)) ?_
  refine k_iload_n d_KWriter_pick_34 rfl ?_
  obtain ⟨p54, h⟩ := h
  refine k_ild (x := (σ5.2 (rfo (Int.toNat (σ5.1 17 1)) 6) (Int.toNat a1))) d_KWriter_pick_35 (drI_6 (dyD_doc y6)) p54 rfl ?_
  obtain ⟨p53, h⟩ := h
  refine k_iadd d_KWriter_pick_36 p53 ?_
  refine k_icge d_KWriter_pick_37 rfl (fun c7 => ?_) (fun c7 => ?_)
  · have h := ineg c7 h
    refine k_iload_n d_KWriter_pick_161 rfl ?_
    exact k_iret d_KWriter_pick_162 (Or.inl rfl) h
  · have h := ipos c7 h
    refine k_aload_n d_KWriter_pick_40 rfl ?_
    refine k_getD (x := (σ5.1 17 1)) d_KWriter_pick_41 fl_16_74 ob_17 rfl rfl (dyD_pos y6) ?_
    refine k_iload d_KWriter_pick_44 rfl ?_
    refine k_cvi [.inl s4.2] d_KWriter_pick_46 ml_16_178 rfl rfl (doc_ob (dyD_doc y6)) rfl (s_KDoc_isDeclaration hL (by omega) (dyD_doc y6) h) (fun v9 σ8 h => ?_)
    refine k_iload_n d_KWriter_pick_49 rfl ?_
    refine k_join (S := Int) (pc' := 155) (st' := fun s12 => []) (lv' := fun s12 => [some (.inr 17), some (.inl a1), some (.inl a2), some (.inl s12), some (.inl (σ.2 (rfo (Int.toNat (σ.1 17 1)) 5) (Int.toNat a1))), some (.inl s4.2), none]) (fun s12 σ13 h => ?_) (fun J10 hJ11 h => ?_) h
    · obtain ⟨p14, h⟩ := h
      refine k_iinc (lv' := [some (.inr 17), some (.inl a1), some (.inl a2), some (.inl s12), some (.inl (σ.2 (rfo (Int.toNat (σ.1 17 1)) 5) (Int.toNat a1))), some (.inl (s4.2 + 1)), none]) d_KWriter_pick_155 cI_1 rfl rfl p14 rfl ?_
      refine k_goto d_KWriter_pick_158 rfl ?_
      exact k_sb (sb_s (sb_s (sb_s (sb_s (sb_s (sb_s (sb_s sb_nil))))))) (hK3 (s12, (s4.2 + 1)) _ h)
    · refine k_icne d_KWriter_pick_50 rfl (fun c15 => ?_) (fun c15 => ?_)
      · have h := ineg c15 h
        exact k_sb (sb_s (sb_s (sb_s (sb_s (sb_s (sb_s (sb_s sb_nil))))))) (hJ11 s4.1 _ h)
      · have h := ipos c15 h
        refine k_iload_n d_KWriter_pick_53 rfl ?_
        refine k_join (S := Unit) (pc' := 67) (st' := fun s18 => []) (lv' := fun s18 => [some (.inr 17), some (.inl a1), some (.inl a2), some (.inl s4.1), some (.inl (σ.2 (rfo (Int.toNat (σ.1 17 1)) 5) (Int.toNat a1))), some (.inl s4.2), none]) (fun s18 σ19 h => ?_) (fun J16 hJ17 h => ?_) h
        · refine k_iload_n d_KWriter_pick_67 rfl ?_
          refine k_istore (lv' := [some (.inr 17), some (.inl a1), some (.inl a2), some (.inl s4.1), some (.inl (σ.2 (rfo (Int.toNat (σ.1 17 1)) 5) (Int.toNat a1))), some (.inl s4.2), some (.inl s4.1)]) d_KWriter_pick_68 rfl rfl ?_
          refine k_aload_n d_KWriter_pick_70 rfl ?_
          refine k_getR d_KWriter_pick_71 fl_16_19 ob_17 rfl ?_
          refine k_iload d_KWriter_pick_74 rfl ?_
          refine k_iload d_KWriter_pick_76 rfl ?_
          obtain ⟨p48, h⟩ := h
          refine k_isub d_KWriter_pick_78 p48 ?_
          refine k_iload_n d_KWriter_pick_79 rfl ?_
          refine k_join (S := Int) (pc' := 94) (st' := fun s22 => [.inl s22, .inl (s4.2 - (σ.2 (rfo (Int.toNat (σ.1 17 1)) 5) (Int.toNat a1))), .inr 247]) (lv' := fun s22 => [some (.inr 17), some (.inl a1), some (.inl a2), some (.inl s4.1), some (.inl (σ.2 (rfo (Int.toNat (σ.1 17 1)) 5) (Int.toNat a1))), some (.inl s4.2), some (.inl s4.1)]) (fun s22 σ23 h => ?_) (fun J20 hJ21 h => ?_) h
          · obtain ⟨p44, h⟩ := h
            refine k_ist d_KWriter_pick_94 rI_247 p44 ?_
            refine k_sb (lv' := [some (.inr 17), some (.inl a1), some (.inl a2), some (.inl s4.1), some (.inl (σ.2 (rfo (Int.toNat (σ.1 17 1)) 5) (Int.toNat a1))), some (.inl s4.2), some (.inl s4.1)]) (sb_s (sb_s (sb_s (sb_s (sb_s (sb_s (sb_s sb_nil))))))) ?_
            refine k_loop (S := Int) (st := fun _ => []) (lv := fun s26 => [some (.inr 17), some (.inl a1), some (.inl a2), some (.inl s4.1), some (.inl (σ.2 (rfo (Int.toNat (σ.1 17 1)) 5) (Int.toNat a1))), some (.inl s4.2), some (.inl s26)]) (fun K24 hK25 s26 σ27 h => ?_) s4.1 _ h
            refine k_iload d_KWriter_pick_95 rfl ?_
            refine k_join (S := Unit) (pc' := 143) (st' := fun s30 => []) (lv' := fun s30 => [some (.inr 17), some (.inl a1), some (.inl a2), some (.inl s4.1), some (.inl (σ.2 (rfo (Int.toNat (σ.1 17 1)) 5) (Int.toNat a1))), some (.inl s4.2), some (.inl s26)]) (fun s30 σ31 h => ?_) (fun J28 hJ29 h => ?_) h
            · refine k_aload_n d_KWriter_pick_143 rfl ?_
              refine k_getR d_KWriter_pick_144 fl_16_10 ob_17 rfl ?_
              refine k_iload d_KWriter_pick_147 rfl ?_
              refine k_iload d_KWriter_pick_149 rfl ?_
              obtain ⟨p33, h⟩ := h
              refine k_ist d_KWriter_pick_151 rI_245 p33 ?_
              obtain ⟨p32, h⟩ := h
              refine k_iinc (lv' := [some (.inr 17), some (.inl a1), some (.inl a2), some (.inl (s4.1 + 1)), some (.inl (σ.2 (rfo (Int.toNat (σ.1 17 1)) 5) (Int.toNat a1))), some (.inl s4.2), some (.inl s26)]) d_KWriter_pick_152 cI_1 rfl rfl p32 rfl ?_
              exact k_sb (sb_s (sb_s (sb_s (sb_s (sb_s (sb_s (sb_n sb_nil))))))) (hJ11 (s4.1 + 1) _ h)
            · refine k_ifle d_KWriter_pick_97 rfl (fun c34 => ?_) (fun c34 => ?_)
              · have h := ineg c34 h
                exact k_sb (sb_s (sb_s (sb_s (sb_s (sb_s (sb_s (sb_s sb_nil))))))) (hJ29 () _ h)
              · have h := ipos c34 h
                refine k_aload_n d_KWriter_pick_100 rfl ?_
                refine k_iload d_KWriter_pick_101 rfl ?_
                refine k_iload d_KWriter_pick_103 rfl ?_
                refine k_aload_n d_KWriter_pick_105 rfl ?_
                refine k_getR d_KWriter_pick_106 fl_16_10 ob_17 rfl ?_
                refine k_iload d_KWriter_pick_109 rfl ?_
                refine k_iconst d_KWriter_pick_111 cI_1 ?_
                obtain ⟨p43, h⟩ := h
                refine k_isub d_KWriter_pick_112 p43 ?_
                obtain ⟨p42, h⟩ := h
                refine k_ild (x := (σ27.2 245 (Int.toNat (s26 - 1)))) d_KWriter_pick_113 rI_245 p42 rfl ?_
                refine k_iload_n d_KWriter_pick_114 rfl ?_
                refine k_cvi [.inl (σ.2 (rfo (Int.toNat (σ.1 17 1)) 5) (Int.toNat a1)), .inl s4.2, .inl (σ27.2 245 (Int.toNat (s26 - 1))), .inl a2] d_KWriter_pick_115 ml_16_189 rfl rfl ob_17 rfl (s_KWriter_comesFirst hL (by omega)  h) (fun v36 σ35 h => ?_)
                refine k_ifeq d_KWriter_pick_118 rfl (fun c37 => ?_) (fun c37 => ?_)
                · have h := ipos c37 h
                  exact k_sb (sb_s (sb_s (sb_s (sb_s (sb_s (sb_s (sb_s sb_nil))))))) (hJ29 () _ h)
                · have h := ineg c37 h
                  refine k_aload_n d_KWriter_pick_121 rfl ?_
                  refine k_getR d_KWriter_pick_122 fl_16_10 ob_17 rfl ?_
                  refine k_iload d_KWriter_pick_125 rfl ?_
                  refine k_aload_n d_KWriter_pick_127 rfl ?_
                  refine k_getR d_KWriter_pick_128 fl_16_10 ob_17 rfl ?_
                  refine k_iload d_KWriter_pick_131 rfl ?_
                  refine k_iconst d_KWriter_pick_133 cI_1 ?_
                  obtain ⟨p41, h⟩ := h
                  refine k_isub d_KWriter_pick_134 p41 ?_
                  obtain ⟨p40, h⟩ := h
                  refine k_ild (x := (σ35.2 245 (Int.toNat (s26 - 1)))) d_KWriter_pick_135 rI_245 p40 rfl ?_
                  obtain ⟨p39, h⟩ := h
                  refine k_ist d_KWriter_pick_136 rI_245 p39 ?_
                  obtain ⟨p38, h⟩ := h
                  refine k_iinc (lv' := [some (.inr 17), some (.inl a1), some (.inl a2), some (.inl s4.1), some (.inl (σ.2 (rfo (Int.toNat (σ.1 17 1)) 5) (Int.toNat a1))), some (.inl s4.2), some (.inl (s26 + (-1)))]) d_KWriter_pick_137 cI_m1 rfl rfl p38 rfl ?_
                  refine k_goto d_KWriter_pick_140 rfl ?_
                  exact k_sb (sb_s (sb_s (sb_s (sb_s (sb_s (sb_s (sb_s sb_nil))))))) (hK25 (s26 + (-1)) _ h)
          · refine k_ifeq d_KWriter_pick_80 rfl (fun c45 => ?_) (fun c45 => ?_)
            · have h := ipos c45 h
              refine k_aload_n d_KWriter_pick_87 rfl ?_
              refine k_iload_n d_KWriter_pick_88 rfl ?_
              refine k_iload d_KWriter_pick_89 rfl ?_
              refine k_cvi [.inl a1, .inl s4.2] d_KWriter_pick_91 ml_16_186 rfl rfl ob_17 rfl (s_KWriter_meaning hL (by omega)  h) (fun v47 σ46 h => ?_)
              exact k_sb (sb_s (sb_s (sb_s (sb_s (sb_s (sb_s (sb_s sb_nil))))))) (hJ21 v47 _ h)
            · have h := ineg c45 h
              refine k_iconst d_KWriter_pick_83 cI_0 ?_
              refine k_goto d_KWriter_pick_84 rfl ?_
              exact k_sb (sb_s (sb_s (sb_s (sb_s (sb_s (sb_s (sb_s sb_nil))))))) (hJ21 0 _ h)
        · refine k_ifeq d_KWriter_pick_54 rfl (fun c49 => ?_) (fun c49 => ?_)
          · have h := ipos c49 h
            exact k_sb (sb_s (sb_s (sb_s (sb_s (sb_s (sb_s (sb_s sb_nil))))))) (hJ17 () _ h)
          · have h := ineg c49 h
            refine k_aload_n d_KWriter_pick_57 rfl ?_
            refine k_iload_n d_KWriter_pick_58 rfl ?_
            refine k_iload d_KWriter_pick_59 rfl ?_
            refine k_cvi [.inl a1, .inl s4.2] d_KWriter_pick_61 ml_16_182 rfl rfl ob_17 rfl (s_KWriter_isNews hL (by omega)  h) (fun v51 σ50 h => ?_)
            refine k_ifeq d_KWriter_pick_64 rfl (fun c52 => ?_) (fun c52 => ?_)
            · have h := ipos c52 h
              exact k_sb (sb_s (sb_s (sb_s (sb_s (sb_s (sb_s (sb_s sb_nil))))))) (hJ11 s4.1 _ h)
            · have h := ineg c52 h
              exact k_sb (sb_s (sb_s (sb_s (sb_s (sb_s (sb_s (sb_s sb_nil))))))) (hJ17 () _ h)
theorem d_KWriter_escape_0 : decode b_KWriter_escape 0 = .ok (.iload_n 1, 1) := by decide +kernel
theorem d_KWriter_escape_1 : decode b_KWriter_escape 1 = .ok (.lookupswitch 166 #[(9, 130), (10, 148), (13, 85), (34, 112), (38, 67), (60, 76), (62, 94)], 67) := by decide +kernel
theorem d_KWriter_escape_68 : decode b_KWriter_escape 68 = .ok (.aload_n 0, 1) := by decide +kernel
theorem d_KWriter_escape_69 : decode b_KWriter_escape 69 = .ok (.ldc 91, 2) := by decide +kernel
theorem d_KWriter_escape_71 : decode b_KWriter_escape 71 = .ok (.invokevirtual 93, 3) := by decide +kernel
theorem d_KWriter_escape_74 : decode b_KWriter_escape 74 = .ok (.goto 98, 3) := by decide +kernel
theorem d_KWriter_escape_77 : decode b_KWriter_escape 77 = .ok (.aload_n 0, 1) := by decide +kernel
theorem d_KWriter_escape_78 : decode b_KWriter_escape 78 = .ok (.ldc 97, 2) := by decide +kernel
theorem d_KWriter_escape_80 : decode b_KWriter_escape 80 = .ok (.invokevirtual 93, 3) := by decide +kernel
theorem d_KWriter_escape_83 : decode b_KWriter_escape 83 = .ok (.goto 89, 3) := by decide +kernel
theorem d_KWriter_escape_86 : decode b_KWriter_escape 86 = .ok (.aload_n 0, 1) := by decide +kernel
theorem d_KWriter_escape_87 : decode b_KWriter_escape 87 = .ok (.ldc 99, 2) := by decide +kernel
theorem d_KWriter_escape_89 : decode b_KWriter_escape 89 = .ok (.invokevirtual 93, 3) := by decide +kernel
theorem d_KWriter_escape_92 : decode b_KWriter_escape 92 = .ok (.goto 80, 3) := by decide +kernel
theorem d_KWriter_escape_95 : decode b_KWriter_escape 95 = .ok (.aload_n 0, 1) := by decide +kernel
theorem d_KWriter_escape_96 : decode b_KWriter_escape 96 = .ok (.iload_n 2, 1) := by decide +kernel
theorem d_KWriter_escape_97 : decode b_KWriter_escape 97 = .ok (.ifCond .eq 8, 3) := by decide +kernel
theorem d_KWriter_escape_100 : decode b_KWriter_escape 100 = .ok (.ldc 101, 2) := by decide +kernel
theorem d_KWriter_escape_102 : decode b_KWriter_escape 102 = .ok (.goto 5, 3) := by decide +kernel
theorem d_KWriter_escape_105 : decode b_KWriter_escape 105 = .ok (.ldc 103, 2) := by decide +kernel
theorem d_KWriter_escape_107 : decode b_KWriter_escape 107 = .ok (.invokevirtual 93, 3) := by decide +kernel
theorem d_KWriter_escape_110 : decode b_KWriter_escape 110 = .ok (.goto 62, 3) := by decide +kernel
theorem d_KWriter_escape_113 : decode b_KWriter_escape 113 = .ok (.aload_n 0, 1) := by decide +kernel
theorem d_KWriter_escape_114 : decode b_KWriter_escape 114 = .ok (.iload_n 2, 1) := by decide +kernel
theorem d_KWriter_escape_115 : decode b_KWriter_escape 115 = .ok (.ifCond .eq 8, 3) := by decide +kernel
theorem d_KWriter_escape_118 : decode b_KWriter_escape 118 = .ok (.ldc 105, 2) := by decide +kernel
theorem d_KWriter_escape_120 : decode b_KWriter_escape 120 = .ok (.goto 5, 3) := by decide +kernel
theorem d_KWriter_escape_123 : decode b_KWriter_escape 123 = .ok (.ldc 107, 2) := by decide +kernel
theorem d_KWriter_escape_125 : decode b_KWriter_escape 125 = .ok (.invokevirtual 93, 3) := by decide +kernel
theorem d_KWriter_escape_128 : decode b_KWriter_escape 128 = .ok (.goto 44, 3) := by decide +kernel
theorem d_KWriter_escape_131 : decode b_KWriter_escape 131 = .ok (.aload_n 0, 1) := by decide +kernel
theorem d_KWriter_escape_132 : decode b_KWriter_escape 132 = .ok (.iload_n 2, 1) := by decide +kernel
theorem d_KWriter_escape_133 : decode b_KWriter_escape 133 = .ok (.ifCond .eq 8, 3) := by decide +kernel
theorem d_KWriter_escape_136 : decode b_KWriter_escape 136 = .ok (.ldc 109, 2) := by decide +kernel
theorem d_KWriter_escape_138 : decode b_KWriter_escape 138 = .ok (.goto 5, 3) := by decide +kernel
theorem d_KWriter_escape_141 : decode b_KWriter_escape 141 = .ok (.ldc 111, 2) := by decide +kernel
theorem d_KWriter_escape_143 : decode b_KWriter_escape 143 = .ok (.invokevirtual 93, 3) := by decide +kernel
theorem d_KWriter_escape_146 : decode b_KWriter_escape 146 = .ok (.goto 26, 3) := by decide +kernel
theorem d_KWriter_escape_149 : decode b_KWriter_escape 149 = .ok (.aload_n 0, 1) := by decide +kernel
theorem d_KWriter_escape_150 : decode b_KWriter_escape 150 = .ok (.iload_n 2, 1) := by decide +kernel
theorem d_KWriter_escape_151 : decode b_KWriter_escape 151 = .ok (.ifCond .eq 8, 3) := by decide +kernel
theorem d_KWriter_escape_154 : decode b_KWriter_escape 154 = .ok (.ldc 113, 2) := by decide +kernel
theorem d_KWriter_escape_156 : decode b_KWriter_escape 156 = .ok (.goto 5, 3) := by decide +kernel
theorem d_KWriter_escape_159 : decode b_KWriter_escape 159 = .ok (.ldc 115, 2) := by decide +kernel
theorem d_KWriter_escape_161 : decode b_KWriter_escape 161 = .ok (.invokevirtual 93, 3) := by decide +kernel
theorem d_KWriter_escape_164 : decode b_KWriter_escape 164 = .ok (.goto 8, 3) := by decide +kernel
theorem d_KWriter_escape_167 : decode b_KWriter_escape 167 = .ok (.aload_n 0, 1) := by decide +kernel
theorem d_KWriter_escape_168 : decode b_KWriter_escape 168 = .ok (.iload_n 1, 1) := by decide +kernel
theorem d_KWriter_escape_169 : decode b_KWriter_escape 169 = .ok (.invokevirtual 71, 3) := by decide +kernel
theorem d_KWriter_escape_172 : decode b_KWriter_escape 172 = .ok (.return_, 1) := by decide +kernel
/-- KWriter_escape -/
def w_KWriter_escape (L : Nat → Nat) (a1 : Int) (a2 : Int) (Q : IS → Prop) (σ : IS) : Prop := WJ (fun (s3 : Unit) (σ4 : IS) => Q σ4) (fun J1 => if a1 = 9 then w_KWriter_say L (if a2 = 0 then 1164 else 1163) (fun σ6 => J1 () σ6) σ else if a1 = 10 then w_KWriter_say L (if a2 = 0 then 1166 else 1165) (fun σ13 => J1 () σ13) σ else if a1 = 13 then w_KWriter_say L 1158 (fun σ20 => J1 () σ20) σ else if a1 = 34 then w_KWriter_say L (if a2 = 0 then 1162 else 1161) (fun σ23 => J1 () σ23) σ else if a1 = 38 then w_KWriter_say L 1156 (fun σ30 => J1 () σ30) σ else if a1 = 60 then w_KWriter_say L 1157 (fun σ33 => J1 () σ33) σ else if a1 = 62 then w_KWriter_say L (if a2 = 0 then 1160 else 1159) (fun σ36 => J1 () σ36) σ else w_KWriter_put L a1 (fun σ42 => J1 () σ42) σ)
set_option maxHeartbeats 4000000 in
set_option maxRecDepth 20000 in
theorem s_KWriter_escape {L : Nat → Nat} (hL : ∀ r, L r < 2147483648) {d : Nat} (hd : 3 ≤ d) {a1 : Int} {a2 : Int} {Q : IS → Prop} {σ : IS}  (h : w_KWriter_escape L a1 a2 Q σ) : OkI BF L d 16 b_KWriter_escape 3 0 0 [] [some (.inr 17), some (.inl a1), some (.inl a2)] σ (qv Q) := by
  unfold w_KWriter_escape at h
  obtain ⟨d, rfl⟩ : ∃ e, d = e + 1 := ⟨d - 1, by omega⟩
  refine k_sb (lv' := [some (.inr 17), some (.inl a1), some (.inl a2)]) (sb_s (sb_s (sb_s sb_nil))) ?_
  refine k_iload_n d_KWriter_escape_0 rfl ?_
  refine k_join (S := Unit) (pc' := 172) (st' := fun s3 => []) (lv' := fun s3 => [none, none, none]) (fun s3 σ4 h => ?_) (fun J1 hJ2 h => ?_) h
  · exact k_ret d_KWriter_escape_172 h
  · rcases Classical.em (a1 = 9) with c5 | c5
    · have h := ipos c5 h
      refine k_lsw (t := 131) (k := 9) d_KWriter_escape_1 c5 rfl ?_
      refine k_aload_n d_KWriter_escape_131 rfl ?_
      refine k_iload_n d_KWriter_escape_132 rfl ?_
      have hV8 : OkI BF L (d + 1) 16 b_KWriter_escape 3 0 143 [.inr (if a2 = 0 then 1164 else 1163), .inr 17] [some (.inr 17), some (.inl a1), some (.inl a2)] σ (qv Q) := by
        refine k_cvv [.inr (if a2 = 0 then 1164 else 1163)] d_KWriter_escape_143 ml_16_93 rfl rfl ob_17 rfl (s_KWriter_say hL (by omega) (it_if it_1164 it_1163) h) (fun σ6 h => ?_)
        refine k_goto d_KWriter_escape_146 rfl ?_
        exact k_sb (sb_n (sb_n (sb_n sb_nil))) (hJ2 () _ h)
      refine k_ifeq d_KWriter_escape_133 rfl (fun c9 => ?_) (fun c9 => ?_)
      · have hV10 := k_eqR (if_pos c9) hV8
        refine k_ldc d_KWriter_escape_141 ks_16_111 rfl ?_
        exact hV10
      · have hV11 := k_eqR (if_neg c9) hV8
        refine k_ldc d_KWriter_escape_136 ks_16_109 rfl ?_
        refine k_goto d_KWriter_escape_138 rfl ?_
        exact hV11
    · have h := ineg c5 h
      rcases Classical.em (a1 = 10) with c12 | c12
      · have h := ipos c12 h
        refine k_lsw (t := 149) (k := 10) d_KWriter_escape_1 c12 rfl ?_
        refine k_aload_n d_KWriter_escape_149 rfl ?_
        refine k_iload_n d_KWriter_escape_150 rfl ?_
        have hV15 : OkI BF L (d + 1) 16 b_KWriter_escape 3 0 161 [.inr (if a2 = 0 then 1166 else 1165), .inr 17] [some (.inr 17), some (.inl a1), some (.inl a2)] σ (qv Q) := by
          refine k_cvv [.inr (if a2 = 0 then 1166 else 1165)] d_KWriter_escape_161 ml_16_93 rfl rfl ob_17 rfl (s_KWriter_say hL (by omega) (it_if it_1166 it_1165) h) (fun σ13 h => ?_)
          refine k_goto d_KWriter_escape_164 rfl ?_
          exact k_sb (sb_n (sb_n (sb_n sb_nil))) (hJ2 () _ h)
        refine k_ifeq d_KWriter_escape_151 rfl (fun c16 => ?_) (fun c16 => ?_)
        · have hV17 := k_eqR (if_pos c16) hV15
          refine k_ldc d_KWriter_escape_159 ks_16_115 rfl ?_
          exact hV17
        · have hV18 := k_eqR (if_neg c16) hV15
          refine k_ldc d_KWriter_escape_154 ks_16_113 rfl ?_
          refine k_goto d_KWriter_escape_156 rfl ?_
          exact hV18
      · have h := ineg c12 h
        rcases Classical.em (a1 = 13) with c19 | c19
        · have h := ipos c19 h
          refine k_lsw (t := 86) (k := 13) d_KWriter_escape_1 c19 rfl ?_
          refine k_aload_n d_KWriter_escape_86 rfl ?_
          refine k_ldc d_KWriter_escape_87 ks_16_99 rfl ?_
          refine k_cvv [.inr 1158] d_KWriter_escape_89 ml_16_93 rfl rfl ob_17 rfl (s_KWriter_say hL (by omega) it_1158 h) (fun σ20 h => ?_)
          refine k_goto d_KWriter_escape_92 rfl ?_
          exact k_sb (sb_n (sb_n (sb_n sb_nil))) (hJ2 () _ h)
        · have h := ineg c19 h
          rcases Classical.em (a1 = 34) with c22 | c22
          · have h := ipos c22 h
            refine k_lsw (t := 113) (k := 34) d_KWriter_escape_1 c22 rfl ?_
            refine k_aload_n d_KWriter_escape_113 rfl ?_
            refine k_iload_n d_KWriter_escape_114 rfl ?_
            have hV25 : OkI BF L (d + 1) 16 b_KWriter_escape 3 0 125 [.inr (if a2 = 0 then 1162 else 1161), .inr 17] [some (.inr 17), some (.inl a1), some (.inl a2)] σ (qv Q) := by
              refine k_cvv [.inr (if a2 = 0 then 1162 else 1161)] d_KWriter_escape_125 ml_16_93 rfl rfl ob_17 rfl (s_KWriter_say hL (by omega) (it_if it_1162 it_1161) h) (fun σ23 h => ?_)
              refine k_goto d_KWriter_escape_128 rfl ?_
              exact k_sb (sb_n (sb_n (sb_n sb_nil))) (hJ2 () _ h)
            refine k_ifeq d_KWriter_escape_115 rfl (fun c26 => ?_) (fun c26 => ?_)
            · have hV27 := k_eqR (if_pos c26) hV25
              refine k_ldc d_KWriter_escape_123 ks_16_107 rfl ?_
              exact hV27
            · have hV28 := k_eqR (if_neg c26) hV25
              refine k_ldc d_KWriter_escape_118 ks_16_105 rfl ?_
              refine k_goto d_KWriter_escape_120 rfl ?_
              exact hV28
          · have h := ineg c22 h
            rcases Classical.em (a1 = 38) with c29 | c29
            · have h := ipos c29 h
              refine k_lsw (t := 68) (k := 38) d_KWriter_escape_1 c29 rfl ?_
              refine k_aload_n d_KWriter_escape_68 rfl ?_
              refine k_ldc d_KWriter_escape_69 ks_16_91 rfl ?_
              refine k_cvv [.inr 1156] d_KWriter_escape_71 ml_16_93 rfl rfl ob_17 rfl (s_KWriter_say hL (by omega) it_1156 h) (fun σ30 h => ?_)
              refine k_goto d_KWriter_escape_74 rfl ?_
              exact k_sb (sb_n (sb_n (sb_n sb_nil))) (hJ2 () _ h)
            · have h := ineg c29 h
              rcases Classical.em (a1 = 60) with c32 | c32
              · have h := ipos c32 h
                refine k_lsw (t := 77) (k := 60) d_KWriter_escape_1 c32 rfl ?_
                refine k_aload_n d_KWriter_escape_77 rfl ?_
                refine k_ldc d_KWriter_escape_78 ks_16_97 rfl ?_
                refine k_cvv [.inr 1157] d_KWriter_escape_80 ml_16_93 rfl rfl ob_17 rfl (s_KWriter_say hL (by omega) it_1157 h) (fun σ33 h => ?_)
                refine k_goto d_KWriter_escape_83 rfl ?_
                exact k_sb (sb_n (sb_n (sb_n sb_nil))) (hJ2 () _ h)
              · have h := ineg c32 h
                rcases Classical.em (a1 = 62) with c35 | c35
                · have h := ipos c35 h
                  refine k_lsw (t := 95) (k := 62) d_KWriter_escape_1 c35 rfl ?_
                  refine k_aload_n d_KWriter_escape_95 rfl ?_
                  refine k_iload_n d_KWriter_escape_96 rfl ?_
                  have hV38 : OkI BF L (d + 1) 16 b_KWriter_escape 3 0 107 [.inr (if a2 = 0 then 1160 else 1159), .inr 17] [some (.inr 17), some (.inl a1), some (.inl a2)] σ (qv Q) := by
                    refine k_cvv [.inr (if a2 = 0 then 1160 else 1159)] d_KWriter_escape_107 ml_16_93 rfl rfl ob_17 rfl (s_KWriter_say hL (by omega) (it_if it_1160 it_1159) h) (fun σ36 h => ?_)
                    refine k_goto d_KWriter_escape_110 rfl ?_
                    exact k_sb (sb_n (sb_n (sb_n sb_nil))) (hJ2 () _ h)
                  refine k_ifeq d_KWriter_escape_97 rfl (fun c39 => ?_) (fun c39 => ?_)
                  · have hV40 := k_eqR (if_pos c39) hV38
                    refine k_ldc d_KWriter_escape_105 ks_16_103 rfl ?_
                    exact hV40
                  · have hV41 := k_eqR (if_neg c39) hV38
                    refine k_ldc d_KWriter_escape_100 ks_16_101 rfl ?_
                    refine k_goto d_KWriter_escape_102 rfl ?_
                    exact hV41
                · have h := ineg c35 h
                  refine k_lswd (t := 167) d_KWriter_escape_1 (show ∀ q ∈ ([(9, 130), (10, 148), (13, 85), (34, 112), (38, 67), (60, 76), (62, 94)] : List (Int × Int)), q.1 ≠ a1 from by intro q hq; simp only [List.mem_cons, List.not_mem_nil, or_false] at hq; rcases hq with rfl | rfl | rfl | rfl | rfl | rfl | rfl <;> (dsimp only; omega)) rfl ?_
                  refine k_aload_n d_KWriter_escape_167 rfl ?_
                  refine k_iload_n d_KWriter_escape_168 rfl ?_
                  refine k_cvv [.inl a1] d_KWriter_escape_169 ml_16_71 rfl rfl ob_17 rfl (s_KWriter_put hL (by omega)  h) (fun σ42 h => ?_)
                  exact k_sb (sb_n (sb_n (sb_n sb_nil))) (hJ2 () _ h)
theorem d_KWriter_value_0 : decode b_KWriter_value 0 = .ok (.aload_n 0, 1) := by decide +kernel
theorem d_KWriter_value_1 : decode b_KWriter_value 1 = .ok (.ldc 117, 2) := by decide +kernel
theorem d_KWriter_value_3 : decode b_KWriter_value 3 = .ok (.invokevirtual 93, 3) := by decide +kernel
theorem d_KWriter_value_6 : decode b_KWriter_value 6 = .ok (.iconst 0, 1) := by decide +kernel
theorem d_KWriter_value_7 : decode b_KWriter_value 7 = .ok (.istore_n 2, 1) := by decide +kernel
theorem d_KWriter_value_8 : decode b_KWriter_value 8 = .ok (.iload_n 2, 1) := by decide +kernel
theorem d_KWriter_value_9 : decode b_KWriter_value 9 = .ok (.aload_n 0, 1) := by decide +kernel
theorem d_KWriter_value_10 : decode b_KWriter_value 10 = .ok (.getfield 74, 3) := by decide +kernel
theorem d_KWriter_value_13 : decode b_KWriter_value 13 = .ok (.getfield 119, 3) := by decide +kernel
theorem d_KWriter_value_16 : decode b_KWriter_value 16 = .ok (.iload_n 1, 1) := by decide +kernel
theorem d_KWriter_value_17 : decode b_KWriter_value 17 = .ok (.iaload, 1) := by decide +kernel
theorem d_KWriter_value_18 : decode b_KWriter_value 18 = .ok (.if_icmp .ge 33, 3) := by decide +kernel
theorem d_KWriter_value_21 : decode b_KWriter_value 21 = .ok (.aload_n 0, 1) := by decide +kernel
theorem d_KWriter_value_22 : decode b_KWriter_value 22 = .ok (.aload_n 0, 1) := by decide +kernel
theorem d_KWriter_value_23 : decode b_KWriter_value 23 = .ok (.getfield 74, 3) := by decide +kernel
theorem d_KWriter_value_26 : decode b_KWriter_value 26 = .ok (.getfield 122, 3) := by decide +kernel
theorem d_KWriter_value_29 : decode b_KWriter_value 29 = .ok (.aload_n 0, 1) := by decide +kernel
theorem d_KWriter_value_30 : decode b_KWriter_value 30 = .ok (.getfield 74, 3) := by decide +kernel
theorem d_KWriter_value_33 : decode b_KWriter_value 33 = .ok (.getfield 125, 3) := by decide +kernel
theorem d_KWriter_value_36 : decode b_KWriter_value 36 = .ok (.iload_n 1, 1) := by decide +kernel
theorem d_KWriter_value_37 : decode b_KWriter_value 37 = .ok (.iaload, 1) := by decide +kernel
theorem d_KWriter_value_38 : decode b_KWriter_value 38 = .ok (.iload_n 2, 1) := by decide +kernel
theorem d_KWriter_value_39 : decode b_KWriter_value 39 = .ok (.iadd, 1) := by decide +kernel
theorem d_KWriter_value_40 : decode b_KWriter_value 40 = .ok (.iaload, 1) := by decide +kernel
theorem d_KWriter_value_41 : decode b_KWriter_value 41 = .ok (.iconst 1, 1) := by decide +kernel
theorem d_KWriter_value_42 : decode b_KWriter_value 42 = .ok (.invokevirtual 128, 3) := by decide +kernel
theorem d_KWriter_value_45 : decode b_KWriter_value 45 = .ok (.iinc 2 1, 3) := by decide +kernel
theorem d_KWriter_value_48 : decode b_KWriter_value 48 = .ok (.goto (-40), 3) := by decide +kernel
theorem d_KWriter_value_51 : decode b_KWriter_value 51 = .ok (.aload_n 0, 1) := by decide +kernel
theorem d_KWriter_value_52 : decode b_KWriter_value 52 = .ok (.ldc 107, 2) := by decide +kernel
theorem d_KWriter_value_54 : decode b_KWriter_value 54 = .ok (.invokevirtual 93, 3) := by decide +kernel
theorem d_KWriter_value_57 : decode b_KWriter_value 57 = .ok (.return_, 1) := by decide +kernel
/-- KWriter_value -/
def w_KWriter_value (L : Nat → Nat) (a1 : Int) (Q : IS → Prop) (σ : IS) : Prop := w_KWriter_say L 1167 (fun σ1 => WL (fun (K3 : Int → IS → Prop) (s5 : Int) (σ6 : IS) => dyD (σ6.1 17 1) ∧ inL L (rfo (Int.toNat (σ6.1 17 1)) 10) a1 ∧ if s5 < (σ6.2 (rfo (Int.toNat (σ6.1 17 1)) 10) (Int.toNat a1)) then inL L (rfo (Int.toNat (σ6.1 17 1)) 9) a1 ∧ inR ((σ6.2 (rfo (Int.toNat (σ6.1 17 1)) 9) (Int.toNat a1)) + s5) ∧ inL L (rfo (Int.toNat (σ6.1 17 1)) 1) ((σ6.2 (rfo (Int.toNat (σ6.1 17 1)) 9) (Int.toNat a1)) + s5) ∧ w_KWriter_escape L (σ6.2 (rfo (Int.toNat (σ6.1 17 1)) 1) (Int.toNat ((σ6.2 (rfo (Int.toNat (σ6.1 17 1)) 9) (Int.toNat a1)) + s5))) 1 (fun σ11 => inR (s5 + 1) ∧ K3 (s5 + 1) σ11) σ6 else w_KWriter_say L 1162 (fun σ9 => Q σ9) σ6) 0 σ1) σ
set_option maxHeartbeats 4000000 in
set_option maxRecDepth 20000 in
theorem s_KWriter_value {L : Nat → Nat} (hL : ∀ r, L r < 2147483648) {d : Nat} (hd : 4 ≤ d) {a1 : Int} {Q : IS → Prop} {σ : IS}  (h : w_KWriter_value L a1 Q σ) : OkI BF L d 16 b_KWriter_value 3 0 0 [] [some (.inr 17), some (.inl a1)] σ (qv Q) := by
  unfold w_KWriter_value at h
  obtain ⟨d, rfl⟩ : ∃ e, d = e + 1 := ⟨d - 1, by omega⟩
  refine k_sb (lv' := [some (.inr 17), some (.inl a1), none]) (sb_s (sb_s (sb_e sb_nil))) ?_
  refine k_aload_n d_KWriter_value_0 rfl ?_
  refine k_ldc d_KWriter_value_1 ks_16_117 rfl ?_
  refine k_cvv [.inr 1167] d_KWriter_value_3 ml_16_93 rfl rfl ob_17 rfl (s_KWriter_say hL (by omega) it_1167 h) (fun σ1 h => ?_)
  refine k_iconst d_KWriter_value_6 cI_0 ?_
  refine k_istore_n (lv' := [some (.inr 17), some (.inl a1), some (.inl 0)]) d_KWriter_value_7 rfl rfl ?_
  refine k_sb (lv' := [some (.inr 17), some (.inl a1), some (.inl 0)]) (sb_s (sb_s (sb_s sb_nil))) ?_
  refine k_loop (S := Int) (st := fun _ => []) (lv := fun s5 => [some (.inr 17), some (.inl a1), some (.inl s5)]) (fun K3 hK4 s5 σ6 h => ?_) 0 _ h
  refine k_iload_n d_KWriter_value_8 rfl ?_
  refine k_aload_n d_KWriter_value_9 rfl ?_
  obtain ⟨y7, h⟩ := h
  refine k_getD (x := (σ6.1 17 1)) d_KWriter_value_10 fl_16_74 ob_17 rfl rfl (dyD_pos y7) ?_
  refine k_getR d_KWriter_value_13 fl_16_119 (doc_ob (dyD_doc y7)) (dfr_10 (dyD_doc y7)) ?_
  refine k_iload_n d_KWriter_value_16 rfl ?_
  obtain ⟨p17, h⟩ := h
  refine k_ild (x := (σ6.2 (rfo (Int.toNat (σ6.1 17 1)) 10) (Int.toNat a1))) d_KWriter_value_17 (drI_10 (dyD_doc y7)) p17 rfl ?_
  refine k_icge d_KWriter_value_18 rfl (fun c8 => ?_) (fun c8 => ?_)
  · have h := ineg c8 h
    refine k_aload_n d_KWriter_value_51 rfl ?_
    refine k_ldc d_KWriter_value_52 ks_16_107 rfl ?_
    refine k_cvv [.inr 1162] d_KWriter_value_54 ml_16_93 rfl rfl ob_17 rfl (s_KWriter_say hL (by omega) it_1162 h) (fun σ9 h => ?_)
    exact k_ret d_KWriter_value_57 h
  · have h := ipos c8 h
    refine k_aload_n d_KWriter_value_21 rfl ?_
    refine k_aload_n d_KWriter_value_22 rfl ?_
    refine k_getD (x := (σ6.1 17 1)) d_KWriter_value_23 fl_16_74 ob_17 rfl rfl (dyD_pos y7) ?_
    refine k_getR d_KWriter_value_26 fl_16_122 (doc_ob (dyD_doc y7)) (dfr_1 (dyD_doc y7)) ?_
    refine k_aload_n d_KWriter_value_29 rfl ?_
    refine k_getD (x := (σ6.1 17 1)) d_KWriter_value_30 fl_16_74 ob_17 rfl rfl (dyD_pos y7) ?_
    refine k_getR d_KWriter_value_33 fl_16_125 (doc_ob (dyD_doc y7)) (dfr_9 (dyD_doc y7)) ?_
    refine k_iload_n d_KWriter_value_36 rfl ?_
    obtain ⟨p16, h⟩ := h
    refine k_ild (x := (σ6.2 (rfo (Int.toNat (σ6.1 17 1)) 9) (Int.toNat a1))) d_KWriter_value_37 (drI_9 (dyD_doc y7)) p16 rfl ?_
    refine k_iload_n d_KWriter_value_38 rfl ?_
    obtain ⟨p15, h⟩ := h
    refine k_iadd d_KWriter_value_39 p15 ?_
    obtain ⟨p14, h⟩ := h
    refine k_ild (x := (σ6.2 (rfo (Int.toNat (σ6.1 17 1)) 1) (Int.toNat ((σ6.2 (rfo (Int.toNat (σ6.1 17 1)) 9) (Int.toNat a1)) + s5)))) d_KWriter_value_40 (drI_1 (dyD_doc y7)) p14 rfl ?_
    refine k_iconst d_KWriter_value_41 cI_1 ?_
    refine k_cvv [.inl (σ6.2 (rfo (Int.toNat (σ6.1 17 1)) 1) (Int.toNat ((σ6.2 (rfo (Int.toNat (σ6.1 17 1)) 9) (Int.toNat a1)) + s5))), .inl 1] d_KWriter_value_42 ml_16_128 rfl rfl ob_17 rfl (s_KWriter_escape hL (by omega)  h) (fun σ11 h => ?_)
    obtain ⟨p13, h⟩ := h
    refine k_iinc (lv' := [some (.inr 17), some (.inl a1), some (.inl (s5 + 1))]) d_KWriter_value_45 cI_1 rfl rfl p13 rfl ?_
    refine k_goto d_KWriter_value_48 rfl ?_
    exact k_sb (sb_s (sb_s (sb_s sb_nil))) (hK4 (s5 + 1) _ h)
theorem d_KWriter_start_0 : decode b_KWriter_start 0 = .ok (.aload_n 0, 1) := by decide +kernel
theorem d_KWriter_start_1 : decode b_KWriter_start 1 = .ok (.ldc 193, 2) := by decide +kernel
theorem d_KWriter_start_3 : decode b_KWriter_start 3 = .ok (.invokevirtual 93, 3) := by decide +kernel
theorem d_KWriter_start_6 : decode b_KWriter_start 6 = .ok (.aload_n 0, 1) := by decide +kernel
theorem d_KWriter_start_7 : decode b_KWriter_start 7 = .ok (.aload_n 0, 1) := by decide +kernel
theorem d_KWriter_start_8 : decode b_KWriter_start 8 = .ok (.getfield 74, 3) := by decide +kernel
theorem d_KWriter_start_11 : decode b_KWriter_start 11 = .ok (.getfield 195, 3) := by decide +kernel
theorem d_KWriter_start_14 : decode b_KWriter_start 14 = .ok (.iload_n 1, 1) := by decide +kernel
theorem d_KWriter_start_15 : decode b_KWriter_start 15 = .ok (.iaload, 1) := by decide +kernel
theorem d_KWriter_start_16 : decode b_KWriter_start 16 = .ok (.invokevirtual 198, 3) := by decide +kernel
theorem d_KWriter_start_19 : decode b_KWriter_start 19 = .ok (.iconst 0, 1) := by decide +kernel
theorem d_KWriter_start_20 : decode b_KWriter_start 20 = .ok (.istore_n 2, 1) := by decide +kernel
theorem d_KWriter_start_21 : decode b_KWriter_start 21 = .ok (.iload_n 2, 1) := by decide +kernel
theorem d_KWriter_start_22 : decode b_KWriter_start 22 = .ok (.iconst 2, 1) := by decide +kernel
theorem d_KWriter_start_23 : decode b_KWriter_start 23 = .ok (.if_icmp .ge 75, 3) := by decide +kernel
theorem d_KWriter_start_26 : decode b_KWriter_start 26 = .ok (.aload_n 0, 1) := by decide +kernel
theorem d_KWriter_start_27 : decode b_KWriter_start 27 = .ok (.iload_n 1, 1) := by decide +kernel
theorem d_KWriter_start_28 : decode b_KWriter_start 28 = .ok (.iload_n 2, 1) := by decide +kernel
theorem d_KWriter_start_29 : decode b_KWriter_start 29 = .ok (.ifCond .ne 7, 3) := by decide +kernel
theorem d_KWriter_start_32 : decode b_KWriter_start 32 = .ok (.iconst 1, 1) := by decide +kernel
theorem d_KWriter_start_33 : decode b_KWriter_start 33 = .ok (.goto 4, 3) := by decide +kernel
theorem d_KWriter_start_36 : decode b_KWriter_start 36 = .ok (.iconst 0, 1) := by decide +kernel
theorem d_KWriter_start_37 : decode b_KWriter_start 37 = .ok (.invokevirtual 201, 3) := by decide +kernel
theorem d_KWriter_start_40 : decode b_KWriter_start 40 = .ok (.istore_n 3, 1) := by decide +kernel
theorem d_KWriter_start_41 : decode b_KWriter_start 41 = .ok (.iconst 0, 1) := by decide +kernel
theorem d_KWriter_start_42 : decode b_KWriter_start 42 = .ok (.istore 4, 2) := by decide +kernel
theorem d_KWriter_start_44 : decode b_KWriter_start 44 = .ok (.iload 4, 2) := by decide +kernel
theorem d_KWriter_start_46 : decode b_KWriter_start 46 = .ok (.iload_n 3, 1) := by decide +kernel
theorem d_KWriter_start_47 : decode b_KWriter_start 47 = .ok (.if_icmp .ge 45, 3) := by decide +kernel
theorem d_KWriter_start_50 : decode b_KWriter_start 50 = .ok (.aload_n 0, 1) := by decide +kernel
theorem d_KWriter_start_51 : decode b_KWriter_start 51 = .ok (.ldc 205, 2) := by decide +kernel
theorem d_KWriter_start_53 : decode b_KWriter_start 53 = .ok (.invokevirtual 93, 3) := by decide +kernel
theorem d_KWriter_start_56 : decode b_KWriter_start 56 = .ok (.aload_n 0, 1) := by decide +kernel
theorem d_KWriter_start_57 : decode b_KWriter_start 57 = .ok (.aload_n 0, 1) := by decide +kernel
theorem d_KWriter_start_58 : decode b_KWriter_start 58 = .ok (.getfield 74, 3) := by decide +kernel
theorem d_KWriter_start_61 : decode b_KWriter_start 61 = .ok (.getfield 155, 3) := by decide +kernel
theorem d_KWriter_start_64 : decode b_KWriter_start 64 = .ok (.aload_n 0, 1) := by decide +kernel
theorem d_KWriter_start_65 : decode b_KWriter_start 65 = .ok (.getfield 10, 3) := by decide +kernel
theorem d_KWriter_start_68 : decode b_KWriter_start 68 = .ok (.iload 4, 2) := by decide +kernel
theorem d_KWriter_start_70 : decode b_KWriter_start 70 = .ok (.iaload, 1) := by decide +kernel
theorem d_KWriter_start_71 : decode b_KWriter_start 71 = .ok (.iaload, 1) := by decide +kernel
theorem d_KWriter_start_72 : decode b_KWriter_start 72 = .ok (.invokevirtual 198, 3) := by decide +kernel
theorem d_KWriter_start_75 : decode b_KWriter_start 75 = .ok (.aload_n 0, 1) := by decide +kernel
theorem d_KWriter_start_76 : decode b_KWriter_start 76 = .ok (.aload_n 0, 1) := by decide +kernel
theorem d_KWriter_start_77 : decode b_KWriter_start 77 = .ok (.getfield 10, 3) := by decide +kernel
theorem d_KWriter_start_80 : decode b_KWriter_start 80 = .ok (.iload 4, 2) := by decide +kernel
theorem d_KWriter_start_82 : decode b_KWriter_start 82 = .ok (.iaload, 1) := by decide +kernel
theorem d_KWriter_start_83 : decode b_KWriter_start 83 = .ok (.invokevirtual 207, 3) := by decide +kernel
theorem d_KWriter_start_86 : decode b_KWriter_start 86 = .ok (.iinc 4 1, 3) := by decide +kernel
theorem d_KWriter_start_89 : decode b_KWriter_start 89 = .ok (.goto (-45), 3) := by decide +kernel
theorem d_KWriter_start_92 : decode b_KWriter_start 92 = .ok (.iinc 2 1, 3) := by decide +kernel
theorem d_KWriter_start_95 : decode b_KWriter_start 95 = .ok (.goto (-74), 3) := by decide +kernel
theorem d_KWriter_start_98 : decode b_KWriter_start 98 = .ok (.aload_n 0, 1) := by decide +kernel
theorem d_KWriter_start_99 : decode b_KWriter_start 99 = .ok (.ldc 101, 2) := by decide +kernel
theorem d_KWriter_start_101 : decode b_KWriter_start 101 = .ok (.invokevirtual 93, 3) := by decide +kernel
theorem d_KWriter_start_104 : decode b_KWriter_start 104 = .ok (.aload_n 0, 1) := by decide +kernel
theorem d_KWriter_start_105 : decode b_KWriter_start 105 = .ok (.getfield 16, 3) := by decide +kernel
theorem d_KWriter_start_108 : decode b_KWriter_start 108 = .ok (.aload_n 0, 1) := by decide +kernel
theorem d_KWriter_start_109 : decode b_KWriter_start 109 = .ok (.getfield 210, 3) := by decide +kernel
theorem d_KWriter_start_112 : decode b_KWriter_start 112 = .ok (.iload_n 1, 1) := by decide +kernel
theorem d_KWriter_start_113 : decode b_KWriter_start 113 = .ok (.iastore, 1) := by decide +kernel
theorem d_KWriter_start_114 : decode b_KWriter_start 114 = .ok (.aload_n 0, 1) := by decide +kernel
theorem d_KWriter_start_115 : decode b_KWriter_start 115 = .ok (.dup, 1) := by decide +kernel
theorem d_KWriter_start_116 : decode b_KWriter_start 116 = .ok (.getfield 210, 3) := by decide +kernel
theorem d_KWriter_start_119 : decode b_KWriter_start 119 = .ok (.iconst 1, 1) := by decide +kernel
theorem d_KWriter_start_120 : decode b_KWriter_start 120 = .ok (.iadd, 1) := by decide +kernel
theorem d_KWriter_start_121 : decode b_KWriter_start 121 = .ok (.putfield 210, 3) := by decide +kernel
theorem d_KWriter_start_124 : decode b_KWriter_start 124 = .ok (.return_, 1) := by decide +kernel
/-- KWriter_start -/
def w_KWriter_start (L : Nat → Nat) (a1 : Int) (Q : IS → Prop) (σ : IS) : Prop := w_KWriter_say L 1171 (fun σ1 => dyD (σ1.1 17 1) ∧ inL L (rfo (Int.toNat (σ1.1 17 1)) 3) a1 ∧ w_KWriter_name L (σ1.2 (rfo (Int.toNat (σ1.1 17 1)) 3) (Int.toNat a1)) (fun σ4 => WL (fun (K6 : Int → IS → Prop) (s8 : Int) (σ9 : IS) => if s8 < 2 then w_KWriter_pick L a1 (if s8 = 0 then (1 : Int) else (0 : Int)) (fun v16 σ15 => WL (fun (K17 : Int → IS → Prop) (s19 : Int) (σ20 : IS) => if s19 < v16 then w_KWriter_say L 1172 (fun σ23 => dyD (σ23.1 17 1) ∧ inL L 245 s19 ∧ inL L (rfo (Int.toNat (σ23.1 17 1)) 8) (σ23.2 245 (Int.toNat s19)) ∧ w_KWriter_name L (σ23.2 (rfo (Int.toNat (σ23.1 17 1)) 8) (Int.toNat (σ23.2 245 (Int.toNat s19)))) (fun σ26 => inL L 245 s19 ∧ w_KWriter_value L (σ26.2 245 (Int.toNat s19)) (fun σ28 => inR (s19 + 1) ∧ K17 (s19 + 1) σ28) σ26) σ23) σ20 else inR (s8 + 1) ∧ K6 (s8 + 1) σ20) 0 σ15) σ9 else w_KWriter_say L 1159 (fun σ11 => inL L 246 (σ11.1 17 8) ∧ inR ((σ11.1 17 8) + 1) ∧ Q (pf (pr σ11 246 (Int.toNat (σ11.1 17 8)) a1) 17 8 ((σ11.1 17 8) + 1))) σ9) 0 σ4) σ1) σ
set_option maxHeartbeats 4000000 in
set_option maxRecDepth 20000 in
theorem s_KWriter_start {L : Nat → Nat} (hL : ∀ r, L r < 2147483648) {d : Nat} (hd : 7 ≤ d) {a1 : Int} {Q : IS → Prop} {σ : IS}  (h : w_KWriter_start L a1 Q σ) : OkI BF L d 16 b_KWriter_start 5 0 0 [] [some (.inr 17), some (.inl a1)] σ (qv Q) := by
  unfold w_KWriter_start at h
  obtain ⟨d, rfl⟩ : ∃ e, d = e + 1 := ⟨d - 1, by omega⟩
  refine k_sb (lv' := [some (.inr 17), some (.inl a1), none, none, none]) (sb_s (sb_s (sb_e (sb_e (sb_e sb_nil))))) ?_
  refine k_aload_n d_KWriter_start_0 rfl ?_
  refine k_ldc d_KWriter_start_1 ks_16_193 rfl ?_
  refine k_cvv [.inr 1171] d_KWriter_start_3 ml_16_93 rfl rfl ob_17 rfl (s_KWriter_say hL (by omega) it_1171 h) (fun σ1 h => ?_)
  refine k_aload_n d_KWriter_start_6 rfl ?_
  refine k_aload_n d_KWriter_start_7 rfl ?_
  obtain ⟨y3, h⟩ := h
  refine k_getD (x := (σ1.1 17 1)) d_KWriter_start_8 fl_16_74 ob_17 rfl rfl (dyD_pos y3) ?_
  refine k_getR d_KWriter_start_11 fl_16_195 (doc_ob (dyD_doc y3)) (dfr_3 (dyD_doc y3)) ?_
  refine k_iload_n d_KWriter_start_14 rfl ?_
  obtain ⟨p38, h⟩ := h
  refine k_ild (x := (σ1.2 (rfo (Int.toNat (σ1.1 17 1)) 3) (Int.toNat a1))) d_KWriter_start_15 (drI_3 (dyD_doc y3)) p38 rfl ?_
  refine k_cvv [.inl (σ1.2 (rfo (Int.toNat (σ1.1 17 1)) 3) (Int.toNat a1))] d_KWriter_start_16 ml_16_198 rfl rfl ob_17 rfl (s_KWriter_name hL (by omega)  h) (fun σ4 h => ?_)
  refine k_iconst d_KWriter_start_19 cI_0 ?_
  refine k_istore_n (lv' := [some (.inr 17), some (.inl a1), some (.inl 0), none, none]) d_KWriter_start_20 rfl rfl ?_
  refine k_sb (lv' := [some (.inr 17), some (.inl a1), some (.inl 0), none, none]) (sb_s (sb_s (sb_s (sb_s (sb_s sb_nil))))) ?_
  refine k_loop (S := Int) (st := fun _ => []) (lv := fun s8 => [some (.inr 17), some (.inl a1), some (.inl s8), none, none]) (fun K6 hK7 s8 σ9 h => ?_) 0 _ h
  refine k_iload_n d_KWriter_start_21 rfl ?_
  refine k_iconst d_KWriter_start_22 cI_2 ?_
  refine k_icge d_KWriter_start_23 rfl (fun c10 => ?_) (fun c10 => ?_)
  · have h := ineg c10 h
    refine k_aload_n d_KWriter_start_98 rfl ?_
    refine k_ldc d_KWriter_start_99 ks_16_101 rfl ?_
    refine k_cvv [.inr 1159] d_KWriter_start_101 ml_16_93 rfl rfl ob_17 rfl (s_KWriter_say hL (by omega) it_1159 h) (fun σ11 h => ?_)
    refine k_aload_n d_KWriter_start_104 rfl ?_
    refine k_getR d_KWriter_start_105 fl_16_16 ob_17 rfl ?_
    refine k_aload_n d_KWriter_start_108 rfl ?_
    refine k_getI (x := (σ11.1 17 8)) d_KWriter_start_109 fl_16_210 ob_17 rfl rfl ?_
    refine k_iload_n d_KWriter_start_112 rfl ?_
    obtain ⟨p14, h⟩ := h
    refine k_ist d_KWriter_start_113 rI_246 p14 ?_
    refine k_aload_n d_KWriter_start_114 rfl ?_
    refine k_dup d_KWriter_start_115 ?_
    refine k_getI (x := (σ11.1 17 8)) d_KWriter_start_116 fl_16_210 ob_17 rfl rfl ?_
    refine k_iconst d_KWriter_start_119 cI_1 ?_
    obtain ⟨p13, h⟩ := h
    refine k_iadd d_KWriter_start_120 p13 ?_
    refine k_putI d_KWriter_start_121 fl_16_210 ob_17 rfl ?_
    exact k_ret d_KWriter_start_124 h
  · have h := ipos c10 h
    refine k_aload_n d_KWriter_start_26 rfl ?_
    refine k_iload_n d_KWriter_start_27 rfl ?_
    refine k_iload_n d_KWriter_start_28 rfl ?_
    have hV34 : OkI BF L (d + 1) 16 b_KWriter_start 5 0 37 [.inl (if s8 = 0 then (1 : Int) else (0 : Int)), .inl a1, .inr 17] [some (.inr 17), some (.inl a1), some (.inl s8), none, none] σ9 (qv Q) := by
      refine k_cvi [.inl a1, .inl (if s8 = 0 then (1 : Int) else (0 : Int))] d_KWriter_start_37 ml_16_201 rfl rfl ob_17 rfl (s_KWriter_pick hL (by omega)  h) (fun v16 σ15 h => ?_)
      refine k_istore_n (lv' := [some (.inr 17), some (.inl a1), some (.inl s8), some (.inl v16), none]) d_KWriter_start_40 rfl rfl ?_
      refine k_iconst d_KWriter_start_41 cI_0 ?_
      refine k_istore (lv' := [some (.inr 17), some (.inl a1), some (.inl s8), some (.inl v16), some (.inl 0)]) d_KWriter_start_42 rfl rfl ?_
      refine k_sb (lv' := [some (.inr 17), some (.inl a1), some (.inl s8), some (.inl v16), some (.inl 0)]) (sb_s (sb_s (sb_s (sb_s (sb_s sb_nil))))) ?_
      refine k_loop (S := Int) (st := fun _ => []) (lv := fun s19 => [some (.inr 17), some (.inl a1), some (.inl s8), some (.inl v16), some (.inl s19)]) (fun K17 hK18 s19 σ20 h => ?_) 0 _ h
      refine k_iload d_KWriter_start_44 rfl ?_
      refine k_iload_n d_KWriter_start_46 rfl ?_
      refine k_icge d_KWriter_start_47 rfl (fun c21 => ?_) (fun c21 => ?_)
      · have h := ineg c21 h
        obtain ⟨p22, h⟩ := h
        refine k_iinc (lv' := [some (.inr 17), some (.inl a1), some (.inl (s8 + 1)), some (.inl v16), some (.inl s19)]) d_KWriter_start_92 cI_1 rfl rfl p22 rfl ?_
        refine k_goto d_KWriter_start_95 rfl ?_
        exact k_sb (sb_s (sb_s (sb_s (sb_n (sb_n sb_nil))))) (hK7 (s8 + 1) _ h)
      · have h := ipos c21 h
        refine k_aload_n d_KWriter_start_50 rfl ?_
        refine k_ldc d_KWriter_start_51 ks_16_205 rfl ?_
        refine k_cvv [.inr 1172] d_KWriter_start_53 ml_16_93 rfl rfl ob_17 rfl (s_KWriter_say hL (by omega) it_1172 h) (fun σ23 h => ?_)
        refine k_aload_n d_KWriter_start_56 rfl ?_
        refine k_aload_n d_KWriter_start_57 rfl ?_
        obtain ⟨y25, h⟩ := h
        refine k_getD (x := (σ23.1 17 1)) d_KWriter_start_58 fl_16_74 ob_17 rfl rfl (dyD_pos y25) ?_
        refine k_getR d_KWriter_start_61 fl_16_155 (doc_ob (dyD_doc y25)) (dfr_8 (dyD_doc y25)) ?_
        refine k_aload_n d_KWriter_start_64 rfl ?_
        refine k_getR d_KWriter_start_65 fl_16_10 ob_17 rfl ?_
        refine k_iload d_KWriter_start_68 rfl ?_
        obtain ⟨p33, h⟩ := h
        refine k_ild (x := (σ23.2 245 (Int.toNat s19))) d_KWriter_start_70 rI_245 p33 rfl ?_
        obtain ⟨p32, h⟩ := h
        refine k_ild (x := (σ23.2 (rfo (Int.toNat (σ23.1 17 1)) 8) (Int.toNat (σ23.2 245 (Int.toNat s19))))) d_KWriter_start_71 (drI_8 (dyD_doc y25)) p32 rfl ?_
        refine k_cvv [.inl (σ23.2 (rfo (Int.toNat (σ23.1 17 1)) 8) (Int.toNat (σ23.2 245 (Int.toNat s19))))] d_KWriter_start_72 ml_16_198 rfl rfl ob_17 rfl (s_KWriter_name hL (by omega)  h) (fun σ26 h => ?_)
        refine k_aload_n d_KWriter_start_75 rfl ?_
        refine k_aload_n d_KWriter_start_76 rfl ?_
        refine k_getR d_KWriter_start_77 fl_16_10 ob_17 rfl ?_
        refine k_iload d_KWriter_start_80 rfl ?_
        obtain ⟨p31, h⟩ := h
        refine k_ild (x := (σ26.2 245 (Int.toNat s19))) d_KWriter_start_82 rI_245 p31 rfl ?_
        refine k_cvv [.inl (σ26.2 245 (Int.toNat s19))] d_KWriter_start_83 ml_16_207 rfl rfl ob_17 rfl (s_KWriter_value hL (by omega)  h) (fun σ28 h => ?_)
        obtain ⟨p30, h⟩ := h
        refine k_iinc (lv' := [some (.inr 17), some (.inl a1), some (.inl s8), some (.inl v16), some (.inl (s19 + 1))]) d_KWriter_start_86 cI_1 rfl rfl p30 rfl ?_
        refine k_goto d_KWriter_start_89 rfl ?_
        exact k_sb (sb_s (sb_s (sb_s (sb_s (sb_s sb_nil))))) (hK18 (s19 + 1) _ h)
    refine k_ifne d_KWriter_start_29 rfl (fun c35 => ?_) (fun c35 => ?_)
    · have hV37 := k_eqI (if_neg c35) hV34
      refine k_iconst d_KWriter_start_36 cI_0 ?_
      exact hV37
    · have hV36 := k_eqI (if_pos c35) hV34
      refine k_iconst d_KWriter_start_32 cI_1 ?_
      refine k_goto d_KWriter_start_33 rfl ?_
      exact hV36
