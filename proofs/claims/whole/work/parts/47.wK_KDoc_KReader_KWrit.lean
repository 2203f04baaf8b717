theorem d_KDoc_isValue_0 : decode b_KDoc_isValue 0 = .ok (.aload_n 0, 1) := by decide +kernel
theorem d_KDoc_isValue_1 : decode b_KDoc_isValue 1 = .ok (.getfield 51, 3) := by decide +kernel
theorem d_KDoc_isValue_4 : decode b_KDoc_isValue 4 = .ok (.iload_n 1, 1) := by decide +kernel
theorem d_KDoc_isValue_5 : decode b_KDoc_isValue 5 = .ok (.iaload, 1) := by decide +kernel
theorem d_KDoc_isValue_6 : decode b_KDoc_isValue 6 = .ok (.aload_n 2, 1) := by decide +kernel
theorem d_KDoc_isValue_7 : decode b_KDoc_isValue 7 = .ok (.invokevirtual 138, 3) := by decide +kernel
theorem d_KDoc_isValue_10 : decode b_KDoc_isValue 10 = .ok (.if_icmp .eq 5, 3) := by decide +kernel
theorem d_KDoc_isValue_13 : decode b_KDoc_isValue 13 = .ok (.iconst 0, 1) := by decide +kernel
theorem d_KDoc_isValue_14 : decode b_KDoc_isValue 14 = .ok (.ireturn, 1) := by decide +kernel
theorem d_KDoc_isValue_15 : decode b_KDoc_isValue 15 = .ok (.iconst 0, 1) := by decide +kernel
theorem d_KDoc_isValue_16 : decode b_KDoc_isValue 16 = .ok (.istore_n 3, 1) := by decide +kernel
theorem d_KDoc_isValue_17 : decode b_KDoc_isValue 17 = .ok (.iload_n 3, 1) := by decide +kernel
theorem d_KDoc_isValue_18 : decode b_KDoc_isValue 18 = .ok (.aload_n 0, 1) := by decide +kernel
theorem d_KDoc_isValue_19 : decode b_KDoc_isValue 19 = .ok (.getfield 51, 3) := by decide +kernel
theorem d_KDoc_isValue_22 : decode b_KDoc_isValue 22 = .ok (.iload_n 1, 1) := by decide +kernel
theorem d_KDoc_isValue_23 : decode b_KDoc_isValue 23 = .ok (.iaload, 1) := by decide +kernel
theorem d_KDoc_isValue_24 : decode b_KDoc_isValue 24 = .ok (.if_icmp .ge 30, 3) := by decide +kernel
theorem d_KDoc_isValue_27 : decode b_KDoc_isValue 27 = .ok (.aload_n 0, 1) := by decide +kernel
theorem d_KDoc_isValue_28 : decode b_KDoc_isValue 28 = .ok (.getfield 42, 3) := by decide +kernel
theorem d_KDoc_isValue_31 : decode b_KDoc_isValue 31 = .ok (.aload_n 0, 1) := by decide +kernel
theorem d_KDoc_isValue_32 : decode b_KDoc_isValue 32 = .ok (.getfield 48, 3) := by decide +kernel
theorem d_KDoc_isValue_35 : decode b_KDoc_isValue 35 = .ok (.iload_n 1, 1) := by decide +kernel
theorem d_KDoc_isValue_36 : decode b_KDoc_isValue 36 = .ok (.iaload, 1) := by decide +kernel
theorem d_KDoc_isValue_37 : decode b_KDoc_isValue 37 = .ok (.iload_n 3, 1) := by decide +kernel
theorem d_KDoc_isValue_38 : decode b_KDoc_isValue 38 = .ok (.iadd, 1) := by decide +kernel
theorem d_KDoc_isValue_39 : decode b_KDoc_isValue 39 = .ok (.iaload, 1) := by decide +kernel
theorem d_KDoc_isValue_40 : decode b_KDoc_isValue 40 = .ok (.aload_n 2, 1) := by decide +kernel
theorem d_KDoc_isValue_41 : decode b_KDoc_isValue 41 = .ok (.iload_n 3, 1) := by decide +kernel
theorem d_KDoc_isValue_42 : decode b_KDoc_isValue 42 = .ok (.invokevirtual 143, 3) := by decide +kernel
theorem d_KDoc_isValue_45 : decode b_KDoc_isValue 45 = .ok (.if_icmp .ne 9, 3) := by decide +kernel
theorem d_KDoc_isValue_48 : decode b_KDoc_isValue 48 = .ok (.iinc 3 1, 3) := by decide +kernel
theorem d_KDoc_isValue_51 : decode b_KDoc_isValue 51 = .ok (.goto (-34), 3) := by decide +kernel
theorem d_KDoc_isValue_54 : decode b_KDoc_isValue 54 = .ok (.iload_n 3, 1) := by decide +kernel
theorem d_KDoc_isValue_55 : decode b_KDoc_isValue 55 = .ok (.aload_n 0, 1) := by decide +kernel
theorem d_KDoc_isValue_56 : decode b_KDoc_isValue 56 = .ok (.getfield 51, 3) := by decide +kernel
theorem d_KDoc_isValue_59 : decode b_KDoc_isValue 59 = .ok (.iload_n 1, 1) := by decide +kernel
theorem d_KDoc_isValue_60 : decode b_KDoc_isValue 60 = .ok (.iaload, 1) := by decide +kernel
theorem d_KDoc_isValue_61 : decode b_KDoc_isValue 61 = .ok (.if_icmp .ne 7, 3) := by decide +kernel
theorem d_KDoc_isValue_64 : decode b_KDoc_isValue 64 = .ok (.iconst 1, 1) := by decide +kernel
theorem d_KDoc_isValue_65 : decode b_KDoc_isValue 65 = .ok (.goto 4, 3) := by decide +kernel
theorem d_KDoc_isValue_68 : decode b_KDoc_isValue 68 = .ok (.iconst 0, 1) := by decide +kernel
theorem d_KDoc_isValue_69 : decode b_KDoc_isValue 69 = .ok (.ireturn, 1) := by decide +kernel
/-- KDoc_isValue -/
def w_KDoc_isValue (L : Nat → Nat) (o : Nat) (a1 : Int) (a2 : Nat) (Q : Int → IS → Prop) (σ : IS) : Prop := inL L (rfo o 10) a1 ∧ if (σ.2 (rfo o 10) (Int.toNat a1)) = (tN a2) then WL (fun (K2 : Int → IS → Prop) (s4 : Int) (σ5 : IS) => inL L (rfo o 10) a1 ∧ ((s4 < (σ5.2 (rfo o 10) (Int.toNat a1)) → (inL L (rfo o 9) a1 ∧ inR ((σ5.2 (rfo o 9) (Int.toNat a1)) + s4) ∧ inL L (rfo o 1) ((σ5.2 (rfo o 9) (Int.toNat a1)) + s4) ∧ ((0 : Int) ≤ s4 ∧ s4 < tN a2)))) ∧ if s4 < (σ5.2 (rfo o 10) (Int.toNat a1)) ∧ ((σ5.2 (rfo o 1) (Int.toNat ((σ5.2 (rfo o 9) (Int.toNat a1)) + s4))) = (tC a2 s4)) then inR (s4 + 1) ∧ K2 (s4 + 1) σ5 else inL L (rfo o 10) a1 ∧ Q (if s4 = (σ5.2 (rfo o 10) (Int.toNat a1)) then (1 : Int) else (0 : Int)) σ5) 0 σ else Q 0 σ
set_option maxHeartbeats 4000000 in
set_option maxRecDepth 20000 in
theorem s_KDoc_isValue {L : Nat → Nat} (hL : ∀ r, L r < 2147483648) {d : Nat} (hd : 0 ≤ d) {o : Nat} {a1 : Int} {a2 : Nat} {Q : Int → IS → Prop} {σ : IS} (ho : isDoc o) (ha2 : isT a2) (h : w_KDoc_isValue L o a1 a2 Q σ) : OkI BF L d 14 b_KDoc_isValue 4 2 0 [] [some (.inr o), some (.inl a1), some (.inr a2)] σ (qi Q) := by
  unfold w_KDoc_isValue at h
  refine k_sb (lv' := [some (.inr o), some (.inl a1), some (.inr a2), none]) (sb_s (sb_s (sb_s (sb_e sb_nil)))) ?_
  refine k_aload_n d_KDoc_isValue_0 rfl ?_
  refine k_getR d_KDoc_isValue_1 fl_14_51 (doc_ob ho) (dfr_10 ho) ?_
  refine k_iload_n d_KDoc_isValue_4 rfl ?_
  obtain ⟨p24, h⟩ := h
  refine k_ild (x := (σ.2 (rfo o 10) (Int.toNat a1))) d_KDoc_isValue_5 (drI_10 ho) p24 rfl ?_
  refine k_aload_n d_KDoc_isValue_6 rfl ?_
  refine k_tlen d_KDoc_isValue_7 ml_14_138 ha2 rfl ?_
  refine k_iceq d_KDoc_isValue_10 rfl (fun c1 => ?_) (fun c1 => ?_)
  · have h := ipos c1 h
    refine k_iconst d_KDoc_isValue_15 cI_0 ?_
    refine k_istore_n (lv' := [some (.inr o), some (.inl a1), some (.inr a2), some (.inl 0)]) d_KDoc_isValue_16 rfl rfl ?_
    refine k_sb (lv' := [some (.inr o), some (.inl a1), some (.inr a2), some (.inl 0)]) (sb_s (sb_s (sb_s (sb_s sb_nil)))) ?_
    refine k_loop (S := Int) (st := fun _ => []) (lv := fun s4 => [some (.inr o), some (.inl a1), some (.inr a2), some (.inl s4)]) (fun K2 hK3 s4 σ5 h => ?_) 0 _ h
    refine k_iload_n d_KDoc_isValue_17 rfl ?_
    refine k_aload_n d_KDoc_isValue_18 rfl ?_
    refine k_getR d_KDoc_isValue_19 fl_14_51 (doc_ob ho) (dfr_10 ho) ?_
    refine k_iload_n d_KDoc_isValue_22 rfl ?_
    obtain ⟨p23, h⟩ := h
    refine k_ild (x := (σ5.2 (rfo o 10) (Int.toNat a1))) d_KDoc_isValue_23 (drI_10 ho) p23 rfl ?_
    obtain ⟨pt19, h⟩ := h
    have hX16 : (s4 < (σ5.2 (rfo o 10) (Int.toNat a1)) ∧ ((σ5.2 (rfo o 1) (Int.toNat ((σ5.2 (rfo o 9) (Int.toNat a1)) + s4))) = (tC a2 s4))) → OkI BF L d 14 b_KDoc_isValue 4 2 48 [] [some (.inr o), some (.inl a1), some (.inr a2), some (.inl s4)] σ5 (qi Q) := fun e18 => by
      have h := ipos e18 h
      obtain ⟨p10, h⟩ := h
      refine k_iinc (lv' := [some (.inr o), some (.inl a1), some (.inr a2), some (.inl (s4 + 1))]) d_KDoc_isValue_48 cI_1 rfl rfl p10 rfl ?_
      refine k_goto d_KDoc_isValue_51 rfl ?_
      exact k_sb (sb_s (sb_s (sb_s (sb_s sb_nil)))) (hK3 (s4 + 1) _ h)
    have hY17 : ¬ (s4 < (σ5.2 (rfo o 10) (Int.toNat a1)) ∧ ((σ5.2 (rfo o 1) (Int.toNat ((σ5.2 (rfo o 9) (Int.toNat a1)) + s4))) = (tC a2 s4))) → OkI BF L d 14 b_KDoc_isValue 4 2 54 [] [some (.inr o), some (.inl a1), some (.inr a2), some (.inl s4)] σ5 (qi Q) := fun e18 => by
      have h := ineg e18 h
      refine k_iload_n d_KDoc_isValue_54 rfl ?_
      refine k_aload_n d_KDoc_isValue_55 rfl ?_
      refine k_getR d_KDoc_isValue_56 fl_14_51 (doc_ob ho) (dfr_10 ho) ?_
      refine k_iload_n d_KDoc_isValue_59 rfl ?_
      obtain ⟨p15, h⟩ := h
      refine k_ild (x := (σ5.2 (rfo o 10) (Int.toNat a1))) d_KDoc_isValue_60 (drI_10 ho) p15 rfl ?_
      have hV11 : OkI BF L d 14 b_KDoc_isValue 4 2 69 [.inl (if s4 = (σ5.2 (rfo o 10) (Int.toNat a1)) then (1 : Int) else (0 : Int))] [some (.inr o), some (.inl a1), some (.inr a2), some (.inl s4)] σ5 (qi Q) := by
        exact k_iret d_KDoc_isValue_69 (Or.inr ⟨rfl, it01 (Or.inr rfl) (Or.inl rfl)⟩) h
      refine k_icne d_KDoc_isValue_61 rfl (fun c12 => ?_) (fun c12 => ?_)
      · have hV14 := k_eqI (if_neg c12) hV11
        refine k_iconst d_KDoc_isValue_68 cI_0 ?_
        exact hV14
      · have hV13 := k_eqI (if_pos c12) hV11
        refine k_iconst d_KDoc_isValue_64 cI_1 ?_
        refine k_goto d_KDoc_isValue_65 rfl ?_
        exact hV13
    have pa20 := pt19
    refine k_icge d_KDoc_isValue_24 rfl (fun c21 => ?_) (fun c21 => ?_)
    · exact hY17 (fun z => c21 z.1)
    · have pa20 := pa20 c21
      obtain ⟨p6, p7, p8, p9⟩ := pa20
      refine k_aload_n d_KDoc_isValue_27 rfl ?_
      refine k_getR d_KDoc_isValue_28 fl_14_42 (doc_ob ho) (dfr_1 ho) ?_
      refine k_aload_n d_KDoc_isValue_31 rfl ?_
      refine k_getR d_KDoc_isValue_32 fl_14_48 (doc_ob ho) (dfr_9 ho) ?_
      refine k_iload_n d_KDoc_isValue_35 rfl ?_
      refine k_ild (x := (σ5.2 (rfo o 9) (Int.toNat a1))) d_KDoc_isValue_36 (drI_9 ho) p6 rfl ?_
      refine k_iload_n d_KDoc_isValue_37 rfl ?_
      refine k_iadd d_KDoc_isValue_38 p7 ?_
      refine k_ild (x := (σ5.2 (rfo o 1) (Int.toNat ((σ5.2 (rfo o 9) (Int.toNat a1)) + s4)))) d_KDoc_isValue_39 (drI_1 ho) p8 rfl ?_
      refine k_aload_n d_KDoc_isValue_40 rfl ?_
      refine k_iload_n d_KDoc_isValue_41 rfl ?_
      refine k_tchr d_KDoc_isValue_42 ml_14_143 ha2 p9 rfl ?_
      refine k_icne d_KDoc_isValue_45 rfl (fun c22 => ?_) (fun c22 => ?_)
      · exact hY17 (fun z => (c22) z.2)
      · exact hX16 (⟨c21, c22⟩)
  · have h := ineg c1 h
    refine k_iconst d_KDoc_isValue_13 cI_0 ?_
    exact k_iret d_KDoc_isValue_14 (Or.inr ⟨rfl, Or.inl rfl⟩) h
theorem d_KReader_isWrong_0 : decode b_KReader_isWrong 0 = .ok (.aload_n 0, 1) := by decide +kernel
theorem d_KReader_isWrong_1 : decode b_KReader_isWrong 1 = .ok (.getfield 150, 3) := by decide +kernel
theorem d_KReader_isWrong_4 : decode b_KReader_isWrong 4 = .ok (.getfield 766, 3) := by decide +kernel
theorem d_KReader_isWrong_7 : decode b_KReader_isWrong 7 = .ok (.iload_n 1, 1) := by decide +kernel
theorem d_KReader_isWrong_8 : decode b_KReader_isWrong 8 = .ok (.iaload, 1) := by decide +kernel
theorem d_KReader_isWrong_9 : decode b_KReader_isWrong 9 = .ok (.istore_n 2, 1) := by decide +kernel
theorem d_KReader_isWrong_10 : decode b_KReader_isWrong 10 = .ok (.aload_n 0, 1) := by decide +kernel
theorem d_KReader_isWrong_11 : decode b_KReader_isWrong 11 = .ok (.getfield 150, 3) := by decide +kernel
theorem d_KReader_isWrong_14 : decode b_KReader_isWrong 14 = .ok (.getfield 227, 3) := by decide +kernel
theorem d_KReader_isWrong_17 : decode b_KReader_isWrong 17 = .ok (.iload_n 2, 1) := by decide +kernel
theorem d_KReader_isWrong_18 : decode b_KReader_isWrong 18 = .ok (.ldc_w 829, 3) := by decide +kernel
theorem d_KReader_isWrong_21 : decode b_KReader_isWrong 21 = .ok (.invokevirtual 828, 3) := by decide +kernel
theorem d_KReader_isWrong_24 : decode b_KReader_isWrong 24 = .ok (.istore_n 3, 1) := by decide +kernel
theorem d_KReader_isWrong_25 : decode b_KReader_isWrong 25 = .ok (.aload_n 0, 1) := by decide +kernel
theorem d_KReader_isWrong_26 : decode b_KReader_isWrong 26 = .ok (.getfield 150, 3) := by decide +kernel
theorem d_KReader_isWrong_29 : decode b_KReader_isWrong 29 = .ok (.getfield 790, 3) := by decide +kernel
theorem d_KReader_isWrong_32 : decode b_KReader_isWrong 32 = .ok (.iload_n 1, 1) := by decide +kernel
theorem d_KReader_isWrong_33 : decode b_KReader_isWrong 33 = .ok (.iaload, 1) := by decide +kernel
theorem d_KReader_isWrong_34 : decode b_KReader_isWrong 34 = .ok (.istore 4, 2) := by decide +kernel
theorem d_KReader_isWrong_36 : decode b_KReader_isWrong 36 = .ok (.iload_n 3, 1) := by decide +kernel
theorem d_KReader_isWrong_37 : decode b_KReader_isWrong 37 = .ok (.ifCond .ne 25, 3) := by decide +kernel
theorem d_KReader_isWrong_40 : decode b_KReader_isWrong 40 = .ok (.aload_n 0, 1) := by decide +kernel
theorem d_KReader_isWrong_41 : decode b_KReader_isWrong 41 = .ok (.getfield 150, 3) := by decide +kernel
theorem d_KReader_isWrong_44 : decode b_KReader_isWrong 44 = .ok (.getfield 227, 3) := by decide +kernel
theorem d_KReader_isWrong_47 : decode b_KReader_isWrong 47 = .ok (.iload 4, 2) := by decide +kernel
theorem d_KReader_isWrong_49 : decode b_KReader_isWrong 49 = .ok (.ldc_w 468, 3) := by decide +kernel
theorem d_KReader_isWrong_52 : decode b_KReader_isWrong 52 = .ok (.invokevirtual 828, 3) := by decide +kernel
theorem d_KReader_isWrong_55 : decode b_KReader_isWrong 55 = .ok (.ifCond .eq 7, 3) := by decide +kernel
theorem d_KReader_isWrong_58 : decode b_KReader_isWrong 58 = .ok (.iconst 1, 1) := by decide +kernel
theorem d_KReader_isWrong_59 : decode b_KReader_isWrong 59 = .ok (.goto 4, 3) := by decide +kernel
theorem d_KReader_isWrong_62 : decode b_KReader_isWrong 62 = .ok (.iconst 0, 1) := by decide +kernel
theorem d_KReader_isWrong_63 : decode b_KReader_isWrong 63 = .ok (.istore 5, 2) := by decide +kernel
theorem d_KReader_isWrong_65 : decode b_KReader_isWrong 65 = .ok (.aload_n 0, 1) := by decide +kernel
theorem d_KReader_isWrong_66 : decode b_KReader_isWrong 66 = .ok (.getfield 150, 3) := by decide +kernel
theorem d_KReader_isWrong_69 : decode b_KReader_isWrong 69 = .ok (.iload_n 1, 1) := by decide +kernel
theorem d_KReader_isWrong_70 : decode b_KReader_isWrong 70 = .ok (.ldc_w 834, 3) := by decide +kernel
theorem d_KReader_isWrong_73 : decode b_KReader_isWrong 73 = .ok (.invokevirtual 836, 3) := by decide +kernel
theorem d_KReader_isWrong_76 : decode b_KReader_isWrong 76 = .ok (.istore 6, 2) := by decide +kernel
theorem d_KReader_isWrong_78 : decode b_KReader_isWrong 78 = .ok (.iload_n 3, 1) := by decide +kernel
theorem d_KReader_isWrong_79 : decode b_KReader_isWrong 79 = .ok (.ifCond .ne 21, 3) := by decide +kernel
theorem d_KReader_isWrong_82 : decode b_KReader_isWrong 82 = .ok (.aload_n 0, 1) := by decide +kernel
theorem d_KReader_isWrong_83 : decode b_KReader_isWrong 83 = .ok (.getfield 150, 3) := by decide +kernel
theorem d_KReader_isWrong_86 : decode b_KReader_isWrong 86 = .ok (.getfield 227, 3) := by decide +kernel
theorem d_KReader_isWrong_89 : decode b_KReader_isWrong 89 = .ok (.iload 4, 2) := by decide +kernel
theorem d_KReader_isWrong_91 : decode b_KReader_isWrong 91 = .ok (.ldc_w 829, 3) := by decide +kernel
theorem d_KReader_isWrong_94 : decode b_KReader_isWrong 94 = .ok (.invokevirtual 828, 3) := by decide +kernel
theorem d_KReader_isWrong_97 : decode b_KReader_isWrong 97 = .ok (.ifCond .ne 10, 3) := by decide +kernel
theorem d_KReader_isWrong_100 : decode b_KReader_isWrong 100 = .ok (.iload 5, 2) := by decide +kernel
theorem d_KReader_isWrong_102 : decode b_KReader_isWrong 102 = .ok (.iload 6, 2) := by decide +kernel
theorem d_KReader_isWrong_104 : decode b_KReader_isWrong 104 = .ok (.if_icmp .eq 5, 3) := by decide +kernel
theorem d_KReader_isWrong_107 : decode b_KReader_isWrong 107 = .ok (.iconst 1, 1) := by decide +kernel
theorem d_KReader_isWrong_108 : decode b_KReader_isWrong 108 = .ok (.ireturn, 1) := by decide +kernel
theorem d_KReader_isWrong_109 : decode b_KReader_isWrong 109 = .ok (.aload_n 0, 1) := by decide +kernel
theorem d_KReader_isWrong_110 : decode b_KReader_isWrong 110 = .ok (.getfield 150, 3) := by decide +kernel
theorem d_KReader_isWrong_113 : decode b_KReader_isWrong 113 = .ok (.iload_n 1, 1) := by decide +kernel
theorem d_KReader_isWrong_114 : decode b_KReader_isWrong 114 = .ok (.ldc_w 860, 3) := by decide +kernel
theorem d_KReader_isWrong_117 : decode b_KReader_isWrong 117 = .ok (.invokevirtual 836, 3) := by decide +kernel
theorem d_KReader_isWrong_120 : decode b_KReader_isWrong 120 = .ok (.ifCond .ne 19, 3) := by decide +kernel
theorem d_KReader_isWrong_123 : decode b_KReader_isWrong 123 = .ok (.iload_n 3, 1) := by decide +kernel
theorem d_KReader_isWrong_124 : decode b_KReader_isWrong 124 = .ok (.ifCond .ne 19, 3) := by decide +kernel
theorem d_KReader_isWrong_127 : decode b_KReader_isWrong 127 = .ok (.aload_n 0, 1) := by decide +kernel
theorem d_KReader_isWrong_128 : decode b_KReader_isWrong 128 = .ok (.getfield 150, 3) := by decide +kernel
theorem d_KReader_isWrong_131 : decode b_KReader_isWrong 131 = .ok (.getfield 778, 3) := by decide +kernel
theorem d_KReader_isWrong_134 : decode b_KReader_isWrong 134 = .ok (.iload_n 1, 1) := by decide +kernel
theorem d_KReader_isWrong_135 : decode b_KReader_isWrong 135 = .ok (.iaload, 1) := by decide +kernel
theorem d_KReader_isWrong_136 : decode b_KReader_isWrong 136 = .ok (.ifCond .ne 7, 3) := by decide +kernel
theorem d_KReader_isWrong_139 : decode b_KReader_isWrong 139 = .ok (.iconst 1, 1) := by decide +kernel
theorem d_KReader_isWrong_140 : decode b_KReader_isWrong 140 = .ok (.goto 4, 3) := by decide +kernel
theorem d_KReader_isWrong_143 : decode b_KReader_isWrong 143 = .ok (.iconst 0, 1) := by decide +kernel
theorem d_KReader_isWrong_144 : decode b_KReader_isWrong 144 = .ok (.ireturn, 1) := by decide +kernel
/-- KReader_isWrong -/
def w_KReader_isWrong (L : Nat → Nat) (a1 : Int) (Q : Int → IS → Prop) (σ : IS) : Prop := dyD (σ.1 16 2) ∧ inL L (rfo (Int.toNat (σ.1 16 2)) 8) a1 ∧ w_KBook_says L (σ.2 (rfo (Int.toNat (σ.1 16 2)) 8) (Int.toNat a1)) 1153 (fun v3 σ2 => dyD (σ2.1 16 2) ∧ inL L (rfo (Int.toNat (σ2.1 16 2)) 13) a1 ∧ WJ (fun (s7 : Int) (σ8 : IS) => dyD (σ8.1 16 2) ∧ w_KDoc_isValue L (Int.toNat (σ8.1 16 2)) a1 1154 (fun v11 σ10 => WJ (fun (s14 : Unit) (σ15 : IS) => Q 1 σ15) (fun J12 => WJ (fun (s18 : Unit) (σ19 : IS) => if s7 = v11 then dyD (σ19.1 16 2) ∧ w_KDoc_isValue L (Int.toNat (σ19.1 16 2)) a1 1155 (fun v23 σ22 => ((v23 = 0 → (v3 = 0 → (dyD (σ22.1 16 2) ∧ inL L (rfo (Int.toNat (σ22.1 16 2)) 10) a1)))) ∧ Q (if v23 = 0 then (if v3 = 0 then (if (σ22.2 (rfo (Int.toNat (σ22.1 16 2)) 10) (Int.toNat a1)) = 0 then (1 : Int) else (0 : Int)) else (0 : Int)) else (1 : Int)) σ22) σ19 else J12 () σ19) (fun J16 => if v3 = 0 then dyD (σ10.1 16 2) ∧ w_KBook_says L (σ2.2 (rfo (Int.toNat (σ2.1 16 2)) 13) (Int.toNat a1)) 1153 (fun v42 σ41 => if v42 = 0 then J16 () σ41 else J12 () σ41) σ10 else J16 () σ10))) σ8) (fun J5 => WJ (fun (s46 : Unit) (σ47 : IS) => J5 0 σ47) (fun J44 => if v3 = 0 then w_KBook_says L (σ2.2 (rfo (Int.toNat (σ2.1 16 2)) 13) (Int.toNat a1)) 1119 (fun v50 σ49 => if v50 = 0 then J44 () σ49 else J5 1 σ49) σ2 else J44 () σ2))) σ
set_option maxHeartbeats 4000000 in
set_option maxRecDepth 20000 in
theorem s_KReader_isWrong {L : Nat → Nat} (hL : ∀ r, L r < 2147483648) {d : Nat} (hd : 2 ≤ d) {a1 : Int} {Q : Int → IS → Prop} {σ : IS}  (h : w_KReader_isWrong L a1 Q σ) : OkI BF L d 15 b_KReader_isWrong 7 2 0 [] [some (.inr 16), some (.inl a1)] σ (qi Q) := by
  unfold w_KReader_isWrong at h
  obtain ⟨d, rfl⟩ : ∃ e, d = e + 1 := ⟨d - 1, by omega⟩
  refine k_sb (lv' := [some (.inr 16), some (.inl a1), none, none, none, none, none]) (sb_s (sb_s (sb_e (sb_e (sb_e (sb_e (sb_e sb_nil))))))) ?_
  refine k_aload_n d_KReader_isWrong_0 rfl ?_
  obtain ⟨y1, h⟩ := h
  refine k_getD (x := (σ.1 16 2)) d_KReader_isWrong_1 fl_15_150 ob_16 rfl rfl (dyD_pos y1) ?_
  refine k_getR d_KReader_isWrong_4 fl_15_766 (doc_ob (dyD_doc y1)) (dfr_8 (dyD_doc y1)) ?_
  refine k_iload_n d_KReader_isWrong_7 rfl ?_
  obtain ⟨p53, h⟩ := h
  refine k_ild (x := (σ.2 (rfo (Int.toNat (σ.1 16 2)) 8) (Int.toNat a1))) d_KReader_isWrong_8 (drI_8 (dyD_doc y1)) p53 rfl ?_
  refine k_istore_n (lv' := [some (.inr 16), some (.inl a1), some (.inl (σ.2 (rfo (Int.toNat (σ.1 16 2)) 8) (Int.toNat a1))), none, none, none, none]) d_KReader_isWrong_9 rfl rfl ?_
  refine k_aload_n d_KReader_isWrong_10 rfl ?_
  refine k_getD (x := (σ.1 16 2)) d_KReader_isWrong_11 fl_15_150 ob_16 rfl rfl (dyD_pos y1) ?_
  refine k_getR d_KReader_isWrong_14 fl_15_227 (doc_ob (dyD_doc y1)) (dfr_0 (dyD_doc y1)) ?_
  refine k_iload_n d_KReader_isWrong_17 rfl ?_
  refine k_ldcw d_KReader_isWrong_18 ks_15_829 rfl ?_
  refine k_cvi [.inl (σ.2 (rfo (Int.toNat (σ.1 16 2)) 8) (Int.toNat a1)), .inr 1153] d_KReader_isWrong_21 ml_15_828 rfl rfl ob_13 rfl (s_KBook_says hL (by omega) it_1153 h) (fun v3 σ2 h => ?_)
  refine k_istore_n (lv' := [some (.inr 16), some (.inl a1), some (.inl (σ.2 (rfo (Int.toNat (σ.1 16 2)) 8) (Int.toNat a1))), some (.inl v3), none, none, none]) d_KReader_isWrong_24 rfl rfl ?_
  refine k_aload_n d_KReader_isWrong_25 rfl ?_
  obtain ⟨y4, h⟩ := h
  refine k_getD (x := (σ2.1 16 2)) d_KReader_isWrong_26 fl_15_150 ob_16 rfl rfl (dyD_pos y4) ?_
  refine k_getR d_KReader_isWrong_29 fl_15_790 (doc_ob (dyD_doc y4)) (dfr_13 (dyD_doc y4)) ?_
  refine k_iload_n d_KReader_isWrong_32 rfl ?_
  obtain ⟨p52, h⟩ := h
  refine k_ild (x := (σ2.2 (rfo (Int.toNat (σ2.1 16 2)) 13) (Int.toNat a1))) d_KReader_isWrong_33 (drI_13 (dyD_doc y4)) p52 rfl ?_
  refine k_istore (lv' := [some (.inr 16), some (.inl a1), some (.inl (σ.2 (rfo (Int.toNat (σ.1 16 2)) 8) (Int.toNat a1))), some (.inl v3), some (.inl (σ2.2 (rfo (Int.toNat (σ2.1 16 2)) 13) (Int.toNat a1))), none, none]) d_KReader_isWrong_34 rfl rfl ?_
  refine k_iload_n d_KReader_isWrong_36 rfl ?_
  refine k_join (S := Int) (pc' := 63) (st' := fun s7 => [.inl s7]) (lv' := fun s7 => [some (.inr 16), some (.inl a1), none, some (.inl v3), some (.inl (σ2.2 (rfo (Int.toNat (σ2.1 16 2)) 13) (Int.toNat a1))), none, none]) (fun s7 σ8 h => ?_) (fun J5 hJ6 h => ?_) h
  · refine k_istore (lv' := [some (.inr 16), some (.inl a1), none, some (.inl v3), some (.inl (σ2.2 (rfo (Int.toNat (σ2.1 16 2)) 13) (Int.toNat a1))), some (.inl s7), none]) d_KReader_isWrong_63 rfl rfl ?_
    refine k_aload_n d_KReader_isWrong_65 rfl ?_
    obtain ⟨y9, h⟩ := h
    refine k_getD (x := (σ8.1 16 2)) d_KReader_isWrong_66 fl_15_150 ob_16 rfl rfl (dyD_pos y9) ?_
    refine k_iload_n d_KReader_isWrong_69 rfl ?_
    refine k_ldcw d_KReader_isWrong_70 ks_15_834 rfl ?_
    refine k_cvi [.inl a1, .inr 1154] d_KReader_isWrong_73 ml_15_836 rfl rfl (doc_ob (dyD_doc y9)) rfl (s_KDoc_isValue hL (by omega) (dyD_doc y9) it_1154 h) (fun v11 σ10 h => ?_)
    refine k_istore (lv' := [some (.inr 16), some (.inl a1), none, some (.inl v3), some (.inl (σ2.2 (rfo (Int.toNat (σ2.1 16 2)) 13) (Int.toNat a1))), some (.inl s7), some (.inl v11)]) d_KReader_isWrong_76 rfl rfl ?_
    refine k_iload_n d_KReader_isWrong_78 rfl ?_
    refine k_join (S := Unit) (pc' := 107) (st' := fun s14 => []) (lv' := fun s14 => [none, none, none, none, none, none, none]) (fun s14 σ15 h => ?_) (fun J12 hJ13 h => ?_) h
    · refine k_iconst d_KReader_isWrong_107 cI_1 ?_
      exact k_iret d_KReader_isWrong_108 (Or.inr ⟨rfl, Or.inr rfl⟩) h
    · refine k_join (S := Unit) (pc' := 100) (st' := fun s18 => []) (lv' := fun s18 => [some (.inr 16), some (.inl a1), none, some (.inl v3), none, some (.inl s7), some (.inl v11)]) (fun s18 σ19 h => ?_) (fun J16 hJ17 h => ?_) h
      · refine k_iload d_KReader_isWrong_100 rfl ?_
        refine k_iload d_KReader_isWrong_102 rfl ?_
        refine k_iceq d_KReader_isWrong_104 rfl (fun c20 => ?_) (fun c20 => ?_)
        · have h := ipos c20 h
          refine k_aload_n d_KReader_isWrong_109 rfl ?_
          obtain ⟨y21, h⟩ := h
          refine k_getD (x := (σ19.1 16 2)) d_KReader_isWrong_110 fl_15_150 ob_16 rfl rfl (dyD_pos y21) ?_
          refine k_iload_n d_KReader_isWrong_113 rfl ?_
          refine k_ldcw d_KReader_isWrong_114 ks_15_860 rfl ?_
          refine k_cvi [.inl a1, .inr 1155] d_KReader_isWrong_117 ml_15_836 rfl rfl (doc_ob (dyD_doc y21)) rfl (s_KDoc_isValue hL (by omega) (dyD_doc y21) it_1155 h) (fun v23 σ22 h => ?_)
          obtain ⟨pt27, h⟩ := h
          have hV26 : OkI BF L (d + 1) 15 b_KReader_isWrong 7 2 144 [.inl (if v23 = 0 then (if v3 = 0 then (if (σ22.2 (rfo (Int.toNat (σ22.1 16 2)) 10) (Int.toNat a1)) = 0 then (1 : Int) else (0 : Int)) else (0 : Int)) else (1 : Int))] [some (.inr 16), some (.inl a1), none, some (.inl v3), none, some (.inl s7), some (.inl v11)] σ22 (qi Q) := by
            exact k_iret d_KReader_isWrong_144 (Or.inr ⟨rfl, it01 (it01 (it01 (Or.inr rfl) (Or.inl rfl)) (Or.inl rfl)) (Or.inr rfl)⟩) h
          have pa28 := pt27
          refine k_ifne d_KReader_isWrong_120 rfl (fun c29 => ?_) (fun c29 => ?_)
          · have hV38 := k_eqI (if_neg c29) hV26
            refine k_iconst d_KReader_isWrong_139 cI_1 ?_
            refine k_goto d_KReader_isWrong_140 rfl ?_
            exact hV38
          · have pa28 := pa28 c29
            have hV30 := k_eqI (if_pos c29) hV26
            have pa31 := pa28
            refine k_iload_n d_KReader_isWrong_123 rfl ?_
            refine k_ifne d_KReader_isWrong_124 rfl (fun c32 => ?_) (fun c32 => ?_)
            · have hV37 := k_eqI (if_neg c32) hV30
              refine k_iconst d_KReader_isWrong_143 cI_0 ?_
              exact hV37
            · have pa31 := pa31 c32
              have hV33 := k_eqI (if_pos c32) hV30
              obtain ⟨y24, p25⟩ := pa31
              refine k_aload_n d_KReader_isWrong_127 rfl ?_
              refine k_getD (x := (σ22.1 16 2)) d_KReader_isWrong_128 fl_15_150 ob_16 rfl rfl (dyD_pos y24) ?_
              refine k_getR d_KReader_isWrong_131 fl_15_778 (doc_ob (dyD_doc y24)) (dfr_10 (dyD_doc y24)) ?_
              refine k_iload_n d_KReader_isWrong_134 rfl ?_
              refine k_ild (x := (σ22.2 (rfo (Int.toNat (σ22.1 16 2)) 10) (Int.toNat a1))) d_KReader_isWrong_135 (drI_10 (dyD_doc y24)) p25 rfl ?_
              refine k_ifne d_KReader_isWrong_136 rfl (fun c34 => ?_) (fun c34 => ?_)
              · have hV36 := k_eqI (if_neg c34) hV33
                refine k_iconst d_KReader_isWrong_143 cI_0 ?_
                exact hV36
              · have hV35 := k_eqI (if_pos c34) hV33
                refine k_iconst d_KReader_isWrong_139 cI_1 ?_
                refine k_goto d_KReader_isWrong_140 rfl ?_
                exact hV35
        · have h := ineg c20 h
          exact k_sb (sb_n (sb_n (sb_s (sb_n (sb_s (sb_n (sb_n sb_nil))))))) (hJ13 () _ h)
      · refine k_ifne d_KReader_isWrong_79 rfl (fun c39 => ?_) (fun c39 => ?_)
        · have h := ineg c39 h
          exact k_sb (sb_s (sb_s (sb_s (sb_s (sb_n (sb_s (sb_s sb_nil))))))) (hJ17 () _ h)
        · have h := ipos c39 h
          refine k_aload_n d_KReader_isWrong_82 rfl ?_
          obtain ⟨y40, h⟩ := h
          refine k_getD (x := (σ10.1 16 2)) d_KReader_isWrong_83 fl_15_150 ob_16 rfl rfl (dyD_pos y40) ?_
          refine k_getR d_KReader_isWrong_86 fl_15_227 (doc_ob (dyD_doc y40)) (dfr_0 (dyD_doc y40)) ?_
          refine k_iload d_KReader_isWrong_89 rfl ?_
          refine k_ldcw d_KReader_isWrong_91 ks_15_829 rfl ?_
          refine k_cvi [.inl (σ2.2 (rfo (Int.toNat (σ2.1 16 2)) 13) (Int.toNat a1)), .inr 1153] d_KReader_isWrong_94 ml_15_828 rfl rfl ob_13 rfl (s_KBook_says hL (by omega) it_1153 h) (fun v42 σ41 h => ?_)
          refine k_ifne d_KReader_isWrong_97 rfl (fun c43 => ?_) (fun c43 => ?_)
          · have h := ineg c43 h
            exact k_sb (sb_n (sb_n (sb_s (sb_n (sb_n (sb_n (sb_n sb_nil))))))) (hJ13 () _ h)
          · have h := ipos c43 h
            exact k_sb (sb_s (sb_s (sb_s (sb_s (sb_n (sb_s (sb_s sb_nil))))))) (hJ17 () _ h)
  · refine k_join (S := Unit) (pc' := 62) (st' := fun s46 => []) (lv' := fun s46 => [some (.inr 16), some (.inl a1), none, some (.inl v3), some (.inl (σ2.2 (rfo (Int.toNat (σ2.1 16 2)) 13) (Int.toNat a1))), none, none]) (fun s46 σ47 h => ?_) (fun J44 hJ45 h => ?_) h
    · refine k_iconst d_KReader_isWrong_62 cI_0 ?_
      exact k_sb (sb_s (sb_s (sb_s (sb_s (sb_s (sb_s (sb_s sb_nil))))))) (hJ6 0 _ h)
    · refine k_ifne d_KReader_isWrong_37 rfl (fun c48 => ?_) (fun c48 => ?_)
      · have h := ineg c48 h
        exact k_sb (sb_s (sb_s (sb_n (sb_s (sb_s (sb_s (sb_s sb_nil))))))) (hJ45 () _ h)
      · have h := ipos c48 h
        refine k_aload_n d_KReader_isWrong_40 rfl ?_
        refine k_getD (x := (σ2.1 16 2)) d_KReader_isWrong_41 fl_15_150 ob_16 rfl rfl (dyD_pos y4) ?_
        refine k_getR d_KReader_isWrong_44 fl_15_227 (doc_ob (dyD_doc y4)) (dfr_0 (dyD_doc y4)) ?_
        refine k_iload d_KReader_isWrong_47 rfl ?_
        refine k_ldcw d_KReader_isWrong_49 ks_15_468 rfl ?_
        refine k_cvi [.inl (σ2.2 (rfo (Int.toNat (σ2.1 16 2)) 13) (Int.toNat a1)), .inr 1119] d_KReader_isWrong_52 ml_15_828 rfl rfl ob_13 rfl (s_KBook_says hL (by omega) it_1119 h) (fun v50 σ49 h => ?_)
        refine k_ifeq d_KReader_isWrong_55 rfl (fun c51 => ?_) (fun c51 => ?_)
        · have h := ipos c51 h
          exact k_sb (sb_s (sb_s (sb_n (sb_s (sb_s (sb_s (sb_s sb_nil))))))) (hJ45 () _ h)
        · have h := ineg c51 h
          refine k_iconst d_KReader_isWrong_58 cI_1 ?_
          refine k_goto d_KReader_isWrong_59 rfl ?_
          exact k_sb (sb_s (sb_s (sb_n (sb_s (sb_s (sb_s (sb_s sb_nil))))))) (hJ6 1 _ h)
theorem d_KDoc_sameValue_0 : decode b_KDoc_sameValue 0 = .ok (.aload_n 0, 1) := by decide +kernel
theorem d_KDoc_sameValue_1 : decode b_KDoc_sameValue 1 = .ok (.aload_n 0, 1) := by decide +kernel
theorem d_KDoc_sameValue_2 : decode b_KDoc_sameValue 2 = .ok (.getfield 48, 3) := by decide +kernel
theorem d_KDoc_sameValue_5 : decode b_KDoc_sameValue 5 = .ok (.iload_n 1, 1) := by decide +kernel
theorem d_KDoc_sameValue_6 : decode b_KDoc_sameValue 6 = .ok (.iaload, 1) := by decide +kernel
theorem d_KDoc_sameValue_7 : decode b_KDoc_sameValue 7 = .ok (.aload_n 0, 1) := by decide +kernel
theorem d_KDoc_sameValue_8 : decode b_KDoc_sameValue 8 = .ok (.getfield 51, 3) := by decide +kernel
theorem d_KDoc_sameValue_11 : decode b_KDoc_sameValue 11 = .ok (.iload_n 1, 1) := by decide +kernel
theorem d_KDoc_sameValue_12 : decode b_KDoc_sameValue 12 = .ok (.iaload, 1) := by decide +kernel
theorem d_KDoc_sameValue_13 : decode b_KDoc_sameValue 13 = .ok (.aload_n 0, 1) := by decide +kernel
theorem d_KDoc_sameValue_14 : decode b_KDoc_sameValue 14 = .ok (.getfield 48, 3) := by decide +kernel
theorem d_KDoc_sameValue_17 : decode b_KDoc_sameValue 17 = .ok (.iload_n 2, 1) := by decide +kernel
theorem d_KDoc_sameValue_18 : decode b_KDoc_sameValue 18 = .ok (.iaload, 1) := by decide +kernel
theorem d_KDoc_sameValue_19 : decode b_KDoc_sameValue 19 = .ok (.aload_n 0, 1) := by decide +kernel
theorem d_KDoc_sameValue_20 : decode b_KDoc_sameValue 20 = .ok (.getfield 51, 3) := by decide +kernel
theorem d_KDoc_sameValue_23 : decode b_KDoc_sameValue 23 = .ok (.iload_n 2, 1) := by decide +kernel
theorem d_KDoc_sameValue_24 : decode b_KDoc_sameValue 24 = .ok (.iaload, 1) := by decide +kernel
theorem d_KDoc_sameValue_25 : decode b_KDoc_sameValue 25 = .ok (.invokevirtual 98, 3) := by decide +kernel
theorem d_KDoc_sameValue_28 : decode b_KDoc_sameValue 28 = .ok (.ireturn, 1) := by decide +kernel
/-- KDoc_sameValue -/
def w_KDoc_sameValue (L : Nat → Nat) (o : Nat) (a1 : Int) (a2 : Int) (Q : Int → IS → Prop) (σ : IS) : Prop := inL L (rfo o 9) a1 ∧ inL L (rfo o 10) a1 ∧ inL L (rfo o 9) a2 ∧ inL L (rfo o 10) a2 ∧ w_KDoc_same L o (σ.2 (rfo o 9) (Int.toNat a1)) (σ.2 (rfo o 10) (Int.toNat a1)) (σ.2 (rfo o 9) (Int.toNat a2)) (σ.2 (rfo o 10) (Int.toNat a2)) (fun v2 σ1 => is01 v2 ∧ Q v2 σ1) σ
set_option maxHeartbeats 4000000 in
set_option maxRecDepth 20000 in
theorem s_KDoc_sameValue {L : Nat → Nat} (hL : ∀ r, L r < 2147483648) {d : Nat} (hd : 1 ≤ d) {o : Nat} {a1 : Int} {a2 : Int} {Q : Int → IS → Prop} {σ : IS} (ho : isDoc o) (h : w_KDoc_sameValue L o a1 a2 Q σ) : OkI BF L d 14 b_KDoc_sameValue 3 2 0 [] [some (.inr o), some (.inl a1), some (.inl a2)] σ (qi Q) := by
  unfold w_KDoc_sameValue at h
  obtain ⟨d, rfl⟩ : ∃ e, d = e + 1 := ⟨d - 1, by omega⟩
  refine k_sb (lv' := [some (.inr o), some (.inl a1), some (.inl a2)]) (sb_s (sb_s (sb_s sb_nil))) ?_
  refine k_aload_n d_KDoc_sameValue_0 rfl ?_
  refine k_aload_n d_KDoc_sameValue_1 rfl ?_
  refine k_getR d_KDoc_sameValue_2 fl_14_48 (doc_ob ho) (dfr_9 ho) ?_
  refine k_iload_n d_KDoc_sameValue_5 rfl ?_
  obtain ⟨p7, h⟩ := h
  refine k_ild (x := (σ.2 (rfo o 9) (Int.toNat a1))) d_KDoc_sameValue_6 (drI_9 ho) p7 rfl ?_
  refine k_aload_n d_KDoc_sameValue_7 rfl ?_
  refine k_getR d_KDoc_sameValue_8 fl_14_51 (doc_ob ho) (dfr_10 ho) ?_
  refine k_iload_n d_KDoc_sameValue_11 rfl ?_
  obtain ⟨p6, h⟩ := h
  refine k_ild (x := (σ.2 (rfo o 10) (Int.toNat a1))) d_KDoc_sameValue_12 (drI_10 ho) p6 rfl ?_
  refine k_aload_n d_KDoc_sameValue_13 rfl ?_
  refine k_getR d_KDoc_sameValue_14 fl_14_48 (doc_ob ho) (dfr_9 ho) ?_
  refine k_iload_n d_KDoc_sameValue_17 rfl ?_
  obtain ⟨p5, h⟩ := h
  refine k_ild (x := (σ.2 (rfo o 9) (Int.toNat a2))) d_KDoc_sameValue_18 (drI_9 ho) p5 rfl ?_
  refine k_aload_n d_KDoc_sameValue_19 rfl ?_
  refine k_getR d_KDoc_sameValue_20 fl_14_51 (doc_ob ho) (dfr_10 ho) ?_
  refine k_iload_n d_KDoc_sameValue_23 rfl ?_
  obtain ⟨p4, h⟩ := h
  refine k_ild (x := (σ.2 (rfo o 10) (Int.toNat a2))) d_KDoc_sameValue_24 (drI_10 ho) p4 rfl ?_
  refine k_cvi [.inl (σ.2 (rfo o 9) (Int.toNat a1)), .inl (σ.2 (rfo o 10) (Int.toNat a1)), .inl (σ.2 (rfo o 9) (Int.toNat a2)), .inl (σ.2 (rfo o 10) (Int.toNat a2))] d_KDoc_sameValue_25 ml_14_98 rfl rfl (doc_ob ho) rfl (s_KDoc_same hL (by omega) ho h) (fun v2 σ1 h => ?_)
  obtain ⟨p3, h⟩ := h
  exact k_iret d_KDoc_sameValue_28 (Or.inr ⟨rfl, p3⟩) h
theorem d_KReader_meanSame_0 : decode b_KReader_meanSame 0 = .ok (.iload_n 2, 1) := by decide +kernel
theorem d_KReader_meanSame_1 : decode b_KReader_meanSame 1 = .ok (.iload_n 3, 1) := by decide +kernel
theorem d_KReader_meanSame_2 : decode b_KReader_meanSame 2 = .ok (.if_icmp .ne 5, 3) := by decide +kernel
theorem d_KReader_meanSame_5 : decode b_KReader_meanSame 5 = .ok (.iconst 1, 1) := by decide +kernel
theorem d_KReader_meanSame_6 : decode b_KReader_meanSame 6 = .ok (.ireturn, 1) := by decide +kernel
theorem d_KReader_meanSame_7 : decode b_KReader_meanSame 7 = .ok (.aload_n 0, 1) := by decide +kernel
theorem d_KReader_meanSame_8 : decode b_KReader_meanSame 8 = .ok (.getfield 150, 3) := by decide +kernel
theorem d_KReader_meanSame_11 : decode b_KReader_meanSame 11 = .ok (.getfield 227, 3) := by decide +kernel
theorem d_KReader_meanSame_14 : decode b_KReader_meanSame 14 = .ok (.iload_n 2, 1) := by decide +kernel
theorem d_KReader_meanSame_15 : decode b_KReader_meanSame 15 = .ok (.ldc_w 468, 3) := by decide +kernel
theorem d_KReader_meanSame_18 : decode b_KReader_meanSame 18 = .ok (.invokevirtual 828, 3) := by decide +kernel
theorem d_KReader_meanSame_21 : decode b_KReader_meanSame 21 = .ok (.istore 4, 2) := by decide +kernel
theorem d_KReader_meanSame_23 : decode b_KReader_meanSame 23 = .ok (.iload 4, 2) := by decide +kernel
theorem d_KReader_meanSame_25 : decode b_KReader_meanSame 25 = .ok (.ifCond .ne 20, 3) := by decide +kernel
theorem d_KReader_meanSame_28 : decode b_KReader_meanSame 28 = .ok (.aload_n 0, 1) := by decide +kernel
theorem d_KReader_meanSame_29 : decode b_KReader_meanSame 29 = .ok (.getfield 150, 3) := by decide +kernel
theorem d_KReader_meanSame_32 : decode b_KReader_meanSame 32 = .ok (.getfield 227, 3) := by decide +kernel
theorem d_KReader_meanSame_35 : decode b_KReader_meanSame 35 = .ok (.iload_n 3, 1) := by decide +kernel
theorem d_KReader_meanSame_36 : decode b_KReader_meanSame 36 = .ok (.ldc_w 468, 3) := by decide +kernel
theorem d_KReader_meanSame_39 : decode b_KReader_meanSame 39 = .ok (.invokevirtual 828, 3) := by decide +kernel
theorem d_KReader_meanSame_42 : decode b_KReader_meanSame 42 = .ok (.ifCond .eq 36, 3) := by decide +kernel
theorem d_KReader_meanSame_45 : decode b_KReader_meanSame 45 = .ok (.aload_n 0, 1) := by decide +kernel
theorem d_KReader_meanSame_46 : decode b_KReader_meanSame 46 = .ok (.getfield 150, 3) := by decide +kernel
theorem d_KReader_meanSame_49 : decode b_KReader_meanSame 49 = .ok (.iload_n 1, 1) := by decide +kernel
theorem d_KReader_meanSame_50 : decode b_KReader_meanSame 50 = .ok (.iload 4, 2) := by decide +kernel
theorem d_KReader_meanSame_52 : decode b_KReader_meanSame 52 = .ok (.ifCond .eq 7, 3) := by decide +kernel
theorem d_KReader_meanSame_55 : decode b_KReader_meanSame 55 = .ok (.iload_n 3, 1) := by decide +kernel
theorem d_KReader_meanSame_56 : decode b_KReader_meanSame 56 = .ok (.goto 4, 3) := by decide +kernel
theorem d_KReader_meanSame_59 : decode b_KReader_meanSame 59 = .ok (.iload_n 2, 1) := by decide +kernel
theorem d_KReader_meanSame_60 : decode b_KReader_meanSame 60 = .ok (.invokevirtual 831, 3) := by decide +kernel
theorem d_KReader_meanSame_63 : decode b_KReader_meanSame 63 = .ok (.istore 5, 2) := by decide +kernel
theorem d_KReader_meanSame_65 : decode b_KReader_meanSame 65 = .ok (.aload_n 0, 1) := by decide +kernel
theorem d_KReader_meanSame_66 : decode b_KReader_meanSame 66 = .ok (.getfield 150, 3) := by decide +kernel
theorem d_KReader_meanSame_69 : decode b_KReader_meanSame 69 = .ok (.iload 5, 2) := by decide +kernel
theorem d_KReader_meanSame_71 : decode b_KReader_meanSame 71 = .ok (.ldc_w 834, 3) := by decide +kernel
theorem d_KReader_meanSame_74 : decode b_KReader_meanSame 74 = .ok (.invokevirtual 836, 3) := by decide +kernel
theorem d_KReader_meanSame_77 : decode b_KReader_meanSame 77 = .ok (.ireturn, 1) := by decide +kernel
theorem d_KReader_meanSame_78 : decode b_KReader_meanSame 78 = .ok (.aload_n 0, 1) := by decide +kernel
theorem d_KReader_meanSame_79 : decode b_KReader_meanSame 79 = .ok (.getfield 150, 3) := by decide +kernel
theorem d_KReader_meanSame_82 : decode b_KReader_meanSame 82 = .ok (.aload_n 0, 1) := by decide +kernel
theorem d_KReader_meanSame_83 : decode b_KReader_meanSame 83 = .ok (.getfield 150, 3) := by decide +kernel
theorem d_KReader_meanSame_86 : decode b_KReader_meanSame 86 = .ok (.iload_n 1, 1) := by decide +kernel
theorem d_KReader_meanSame_87 : decode b_KReader_meanSame 87 = .ok (.iload_n 2, 1) := by decide +kernel
theorem d_KReader_meanSame_88 : decode b_KReader_meanSame 88 = .ok (.invokevirtual 831, 3) := by decide +kernel
theorem d_KReader_meanSame_91 : decode b_KReader_meanSame 91 = .ok (.aload_n 0, 1) := by decide +kernel
theorem d_KReader_meanSame_92 : decode b_KReader_meanSame 92 = .ok (.getfield 150, 3) := by decide +kernel
theorem d_KReader_meanSame_95 : decode b_KReader_meanSame 95 = .ok (.iload_n 1, 1) := by decide +kernel
theorem d_KReader_meanSame_96 : decode b_KReader_meanSame 96 = .ok (.iload_n 3, 1) := by decide +kernel
theorem d_KReader_meanSame_97 : decode b_KReader_meanSame 97 = .ok (.invokevirtual 831, 3) := by decide +kernel
theorem d_KReader_meanSame_100 : decode b_KReader_meanSame 100 = .ok (.invokevirtual 839, 3) := by decide +kernel
theorem d_KReader_meanSame_103 : decode b_KReader_meanSame 103 = .ok (.ireturn, 1) := by decide +kernel
/-- KReader_meanSame -/
def w_KReader_meanSame (L : Nat → Nat) (a1 : Int) (a2 : Int) (a3 : Int) (Q : Int → IS → Prop) (σ : IS) : Prop := if a2 = a3 then Q 1 σ else dyD (σ.1 16 2) ∧ w_KBook_says L a2 1119 (fun v4 σ3 => WJ (fun (s7 : Unit) (σ8 : IS) => dyD (σ8.1 16 2) ∧ w_KDoc_saying L (Int.toNat (σ8.1 16 2)) a1 (if v4 = 0 then a2 else a3) (fun v11 σ10 => dyD (σ10.1 16 2) ∧ w_KDoc_isValue L (Int.toNat (σ10.1 16 2)) v11 1154 (fun v14 σ13 => is01 v14 ∧ Q v14 σ13) σ10) σ8) (fun J5 => if v4 = 0 then dyD (σ3.1 16 2) ∧ w_KBook_says L a3 1119 (fun v23 σ22 => if v23 = 0 then dyD (σ22.1 16 2) ∧ w_KDoc_saying L (Int.toNat (σ22.1 16 2)) a1 a2 (fun v27 σ26 => dyD (σ26.1 16 2) ∧ w_KDoc_saying L (Int.toNat (σ26.1 16 2)) a1 a3 (fun v30 σ29 => w_KDoc_sameValue L (Int.toNat (σ22.1 16 2)) v27 v30 (fun v32 σ31 => is01 v32 ∧ Q v32 σ31) σ29) σ26) σ22 else J5 () σ22) σ3 else J5 () σ3)) σ
set_option maxHeartbeats 4000000 in
set_option maxRecDepth 20000 in
theorem s_KReader_meanSame {L : Nat → Nat} (hL : ∀ r, L r < 2147483648) {d : Nat} (hd : 5 ≤ d) {a1 : Int} {a2 : Int} {a3 : Int} {Q : Int → IS → Prop} {σ : IS}  (h : w_KReader_meanSame L a1 a2 a3 Q σ) : OkI BF L d 15 b_KReader_meanSame 6 2 0 [] [some (.inr 16), some (.inl a1), some (.inl a2), some (.inl a3)] σ (qi Q) := by
  unfold w_KReader_meanSame at h
  obtain ⟨d, rfl⟩ : ∃ e, d = e + 1 := ⟨d - 1, by omega⟩
  refine k_sb (lv' := [some (.inr 16), some (.inl a1), some (.inl a2), some (.inl a3), none, none]) (sb_s (sb_s (sb_s (sb_s (sb_e (sb_e sb_nil)))))) ?_
  refine k_iload_n d_KReader_meanSame_0 rfl ?_
  refine k_iload_n d_KReader_meanSame_1 rfl ?_
  refine k_icne d_KReader_meanSame_2 rfl (fun c1 => ?_) (fun c1 => ?_)
  · have h := ineg c1 h
    refine k_aload_n d_KReader_meanSame_7 rfl ?_
    obtain ⟨y2, h⟩ := h
    refine k_getD (x := (σ.1 16 2)) d_KReader_meanSame_8 fl_15_150 ob_16 rfl rfl (dyD_pos y2) ?_
    refine k_getR d_KReader_meanSame_11 fl_15_227 (doc_ob (dyD_doc y2)) (dfr_0 (dyD_doc y2)) ?_
    refine k_iload_n d_KReader_meanSame_14 rfl ?_
    refine k_ldcw d_KReader_meanSame_15 ks_15_468 rfl ?_
    refine k_cvi [.inl a2, .inr 1119] d_KReader_meanSame_18 ml_15_828 rfl rfl ob_13 rfl (s_KBook_says hL (by omega) it_1119 h) (fun v4 σ3 h => ?_)
    refine k_istore (lv' := [some (.inr 16), some (.inl a1), some (.inl a2), some (.inl a3), some (.inl v4), none]) d_KReader_meanSame_21 rfl rfl ?_
    refine k_iload d_KReader_meanSame_23 rfl ?_
    refine k_join (S := Unit) (pc' := 45) (st' := fun s7 => []) (lv' := fun s7 => [some (.inr 16), some (.inl a1), some (.inl a2), some (.inl a3), some (.inl v4), none]) (fun s7 σ8 h => ?_) (fun J5 hJ6 h => ?_) h
    · refine k_aload_n d_KReader_meanSame_45 rfl ?_
      obtain ⟨y9, h⟩ := h
      refine k_getD (x := (σ8.1 16 2)) d_KReader_meanSame_46 fl_15_150 ob_16 rfl rfl (dyD_pos y9) ?_
      refine k_iload_n d_KReader_meanSame_49 rfl ?_
      refine k_iload d_KReader_meanSame_50 rfl ?_
      have hV16 : OkI BF L (d + 1) 15 b_KReader_meanSame 6 2 60 [.inl (if v4 = 0 then a2 else a3), .inl a1, .inr (Int.toNat (σ8.1 16 2))] [some (.inr 16), some (.inl a1), some (.inl a2), some (.inl a3), some (.inl v4), none] σ8 (qi Q) := by
        refine k_cvi [.inl a1, .inl (if v4 = 0 then a2 else a3)] d_KReader_meanSame_60 ml_15_831 rfl rfl (doc_ob (dyD_doc y9)) rfl (s_KDoc_saying hL (by omega) (dyD_doc y9) h) (fun v11 σ10 h => ?_)
        refine k_istore (lv' := [some (.inr 16), some (.inl a1), some (.inl a2), some (.inl a3), some (.inl v4), some (.inl v11)]) d_KReader_meanSame_63 rfl rfl ?_
        refine k_aload_n d_KReader_meanSame_65 rfl ?_
        obtain ⟨y12, h⟩ := h
        refine k_getD (x := (σ10.1 16 2)) d_KReader_meanSame_66 fl_15_150 ob_16 rfl rfl (dyD_pos y12) ?_
        refine k_iload d_KReader_meanSame_69 rfl ?_
        refine k_ldcw d_KReader_meanSame_71 ks_15_834 rfl ?_
        refine k_cvi [.inl v11, .inr 1154] d_KReader_meanSame_74 ml_15_836 rfl rfl (doc_ob (dyD_doc y12)) rfl (s_KDoc_isValue hL (by omega) (dyD_doc y12) it_1154 h) (fun v14 σ13 h => ?_)
        obtain ⟨p15, h⟩ := h
        exact k_iret d_KReader_meanSame_77 (Or.inr ⟨rfl, p15⟩) h
      refine k_ifeq d_KReader_meanSame_52 rfl (fun c17 => ?_) (fun c17 => ?_)
      · have hV18 := k_eqI (if_pos c17) hV16
        refine k_iload_n d_KReader_meanSame_59 rfl ?_
        exact hV18
      · have hV19 := k_eqI (if_neg c17) hV16
        refine k_iload_n d_KReader_meanSame_55 rfl ?_
        refine k_goto d_KReader_meanSame_56 rfl ?_
        exact hV19
    · refine k_ifne d_KReader_meanSame_25 rfl (fun c20 => ?_) (fun c20 => ?_)
      · have h := ineg c20 h
        exact k_sb (sb_s (sb_s (sb_s (sb_s (sb_s (sb_s sb_nil)))))) (hJ6 () _ h)
      · have h := ipos c20 h
        refine k_aload_n d_KReader_meanSame_28 rfl ?_
        obtain ⟨y21, h⟩ := h
        refine k_getD (x := (σ3.1 16 2)) d_KReader_meanSame_29 fl_15_150 ob_16 rfl rfl (dyD_pos y21) ?_
        refine k_getR d_KReader_meanSame_32 fl_15_227 (doc_ob (dyD_doc y21)) (dfr_0 (dyD_doc y21)) ?_
        refine k_iload_n d_KReader_meanSame_35 rfl ?_
        refine k_ldcw d_KReader_meanSame_36 ks_15_468 rfl ?_
        refine k_cvi [.inl a3, .inr 1119] d_KReader_meanSame_39 ml_15_828 rfl rfl ob_13 rfl (s_KBook_says hL (by omega) it_1119 h) (fun v23 σ22 h => ?_)
        refine k_ifeq d_KReader_meanSame_42 rfl (fun c24 => ?_) (fun c24 => ?_)
        · have h := ipos c24 h
          refine k_aload_n d_KReader_meanSame_78 rfl ?_
          obtain ⟨y25, h⟩ := h
          refine k_getD (x := (σ22.1 16 2)) d_KReader_meanSame_79 fl_15_150 ob_16 rfl rfl (dyD_pos y25) ?_
          refine k_aload_n d_KReader_meanSame_82 rfl ?_
          refine k_getD (x := (σ22.1 16 2)) d_KReader_meanSame_83 fl_15_150 ob_16 rfl rfl (dyD_pos y25) ?_
          refine k_iload_n d_KReader_meanSame_86 rfl ?_
          refine k_iload_n d_KReader_meanSame_87 rfl ?_
          refine k_cvi [.inl a1, .inl a2] d_KReader_meanSame_88 ml_15_831 rfl rfl (doc_ob (dyD_doc y25)) rfl (s_KDoc_saying hL (by omega) (dyD_doc y25) h) (fun v27 σ26 h => ?_)
          refine k_aload_n d_KReader_meanSame_91 rfl ?_
          obtain ⟨y28, h⟩ := h
          refine k_getD (x := (σ26.1 16 2)) d_KReader_meanSame_92 fl_15_150 ob_16 rfl rfl (dyD_pos y28) ?_
          refine k_iload_n d_KReader_meanSame_95 rfl ?_
          refine k_iload_n d_KReader_meanSame_96 rfl ?_
          refine k_cvi [.inl a1, .inl a3] d_KReader_meanSame_97 ml_15_831 rfl rfl (doc_ob (dyD_doc y28)) rfl (s_KDoc_saying hL (by omega) (dyD_doc y28) h) (fun v30 σ29 h => ?_)
          refine k_cvi [.inl v27, .inl v30] d_KReader_meanSame_100 ml_15_839 rfl rfl (doc_ob (dyD_doc y25)) rfl (s_KDoc_sameValue hL (by omega) (dyD_doc y25) h) (fun v32 σ31 h => ?_)
          obtain ⟨p33, h⟩ := h
          exact k_iret d_KReader_meanSame_103 (Or.inr ⟨rfl, p33⟩) h
        · have h := ineg c24 h
          exact k_sb (sb_s (sb_s (sb_s (sb_s (sb_s (sb_s sb_nil)))))) (hJ6 () _ h)
  · have h := ipos c1 h
    refine k_iconst d_KReader_meanSame_5 cI_1 ?_
    exact k_iret d_KReader_meanSame_6 (Or.inr ⟨rfl, Or.inr rfl⟩) h
theorem d_KReader_hasTwin_0 : decode b_KReader_hasTwin 0 = .ok (.aload_n 0, 1) := by decide +kernel
theorem d_KReader_hasTwin_1 : decode b_KReader_hasTwin 1 = .ok (.getfield 150, 3) := by decide +kernel
theorem d_KReader_hasTwin_4 : decode b_KReader_hasTwin 4 = .ok (.getfield 790, 3) := by decide +kernel
theorem d_KReader_hasTwin_7 : decode b_KReader_hasTwin 7 = .ok (.iload_n 3, 1) := by decide +kernel
theorem d_KReader_hasTwin_8 : decode b_KReader_hasTwin 8 = .ok (.iaload, 1) := by decide +kernel
theorem d_KReader_hasTwin_9 : decode b_KReader_hasTwin 9 = .ok (.istore 5, 2) := by decide +kernel
theorem d_KReader_hasTwin_11 : decode b_KReader_hasTwin 11 = .ok (.iload_n 2, 1) := by decide +kernel
theorem d_KReader_hasTwin_12 : decode b_KReader_hasTwin 12 = .ok (.istore 6, 2) := by decide +kernel
theorem d_KReader_hasTwin_14 : decode b_KReader_hasTwin 14 = .ok (.iload 6, 2) := by decide +kernel
theorem d_KReader_hasTwin_16 : decode b_KReader_hasTwin 16 = .ok (.iload_n 3, 1) := by decide +kernel
theorem d_KReader_hasTwin_17 : decode b_KReader_hasTwin 17 = .ok (.if_icmp .ge 77, 3) := by decide +kernel
theorem d_KReader_hasTwin_20 : decode b_KReader_hasTwin 20 = .ok (.aload_n 0, 1) := by decide +kernel
theorem d_KReader_hasTwin_21 : decode b_KReader_hasTwin 21 = .ok (.getfield 150, 3) := by decide +kernel
theorem d_KReader_hasTwin_24 : decode b_KReader_hasTwin 24 = .ok (.getfield 790, 3) := by decide +kernel
theorem d_KReader_hasTwin_27 : decode b_KReader_hasTwin 27 = .ok (.iload 6, 2) := by decide +kernel
theorem d_KReader_hasTwin_29 : decode b_KReader_hasTwin 29 = .ok (.iaload, 1) := by decide +kernel
theorem d_KReader_hasTwin_30 : decode b_KReader_hasTwin 30 = .ok (.iload 5, 2) := by decide +kernel
theorem d_KReader_hasTwin_32 : decode b_KReader_hasTwin 32 = .ok (.if_icmp .ne 56, 3) := by decide +kernel
theorem d_KReader_hasTwin_35 : decode b_KReader_hasTwin 35 = .ok (.aload_n 0, 1) := by decide +kernel
theorem d_KReader_hasTwin_36 : decode b_KReader_hasTwin 36 = .ok (.getfield 150, 3) := by decide +kernel
theorem d_KReader_hasTwin_39 : decode b_KReader_hasTwin 39 = .ok (.iload 6, 2) := by decide +kernel
theorem d_KReader_hasTwin_41 : decode b_KReader_hasTwin 41 = .ok (.invokevirtual 848, 3) := by decide +kernel
theorem d_KReader_hasTwin_44 : decode b_KReader_hasTwin 44 = .ok (.ifCond .ne 44, 3) := by decide +kernel
theorem d_KReader_hasTwin_47 : decode b_KReader_hasTwin 47 = .ok (.aload_n 0, 1) := by decide +kernel
theorem d_KReader_hasTwin_48 : decode b_KReader_hasTwin 48 = .ok (.getfield 150, 3) := by decide +kernel
theorem d_KReader_hasTwin_51 : decode b_KReader_hasTwin 51 = .ok (.getfield 784, 3) := by decide +kernel
theorem d_KReader_hasTwin_54 : decode b_KReader_hasTwin 54 = .ok (.iload 6, 2) := by decide +kernel
theorem d_KReader_hasTwin_56 : decode b_KReader_hasTwin 56 = .ok (.iaload, 1) := by decide +kernel
theorem d_KReader_hasTwin_57 : decode b_KReader_hasTwin 57 = .ok (.istore 7, 2) := by decide +kernel
theorem d_KReader_hasTwin_59 : decode b_KReader_hasTwin 59 = .ok (.iload 7, 2) := by decide +kernel
theorem d_KReader_hasTwin_61 : decode b_KReader_hasTwin 61 = .ok (.ifCond .lt 27, 3) := by decide +kernel
theorem d_KReader_hasTwin_64 : decode b_KReader_hasTwin 64 = .ok (.aload_n 0, 1) := by decide +kernel
theorem d_KReader_hasTwin_65 : decode b_KReader_hasTwin 65 = .ok (.iload_n 1, 1) := by decide +kernel
theorem d_KReader_hasTwin_66 : decode b_KReader_hasTwin 66 = .ok (.iload 7, 2) := by decide +kernel
theorem d_KReader_hasTwin_68 : decode b_KReader_hasTwin 68 = .ok (.invokevirtual 845, 3) := by decide +kernel
theorem d_KReader_hasTwin_71 : decode b_KReader_hasTwin 71 = .ok (.ifCond .eq 17, 3) := by decide +kernel
theorem d_KReader_hasTwin_74 : decode b_KReader_hasTwin 74 = .ok (.aload_n 0, 1) := by decide +kernel
theorem d_KReader_hasTwin_75 : decode b_KReader_hasTwin 75 = .ok (.iload_n 1, 1) := by decide +kernel
theorem d_KReader_hasTwin_76 : decode b_KReader_hasTwin 76 = .ok (.iload 4, 2) := by decide +kernel
theorem d_KReader_hasTwin_78 : decode b_KReader_hasTwin 78 = .ok (.iload 7, 2) := by decide +kernel
theorem d_KReader_hasTwin_80 : decode b_KReader_hasTwin 80 = .ok (.invokevirtual 857, 3) := by decide +kernel
theorem d_KReader_hasTwin_83 : decode b_KReader_hasTwin 83 = .ok (.ifCond .eq 5, 3) := by decide +kernel
theorem d_KReader_hasTwin_86 : decode b_KReader_hasTwin 86 = .ok (.iconst 1, 1) := by decide +kernel
theorem d_KReader_hasTwin_87 : decode b_KReader_hasTwin 87 = .ok (.ireturn, 1) := by decide +kernel
theorem d_KReader_hasTwin_88 : decode b_KReader_hasTwin 88 = .ok (.iinc 6 1, 3) := by decide +kernel
theorem d_KReader_hasTwin_91 : decode b_KReader_hasTwin 91 = .ok (.goto (-77), 3) := by decide +kernel
theorem d_KReader_hasTwin_94 : decode b_KReader_hasTwin 94 = .ok (.iconst 0, 1) := by decide +kernel
theorem d_KReader_hasTwin_95 : decode b_KReader_hasTwin 95 = .ok (.ireturn, 1) := by decide +kernel
/-- KReader_hasTwin -/
def w_KReader_hasTwin (L : Nat → Nat) (a1 : Int) (a2 : Int) (a3 : Int) (a4 : Int) (Q : Int → IS → Prop) (σ : IS) : Prop := dyD (σ.1 16 2) ∧ inL L (rfo (Int.toNat (σ.1 16 2)) 13) a3 ∧ WL (fun (K2 : Int → IS → Prop) (s4 : Int) (σ5 : IS) => if s4 < a3 then dyD (σ5.1 16 2) ∧ inL L (rfo (Int.toNat (σ5.1 16 2)) 13) s4 ∧ WJ (fun (s10 : Unit) (σ11 : IS) => inR (s4 + 1) ∧ K2 (s4 + 1) σ11) (fun J8 => if (σ5.2 (rfo (Int.toNat (σ5.1 16 2)) 13) (Int.toNat s4)) = (σ.2 (rfo (Int.toNat (σ.1 16 2)) 13) (Int.toNat a3)) then w_KDoc_isDeclaration L (Int.toNat (σ5.1 16 2)) s4 (fun v15 σ14 => if v15 = 0 then dyD (σ14.1 16 2) ∧ inL L (rfo (Int.toNat (σ14.1 16 2)) 12) s4 ∧ if (σ14.2 (rfo (Int.toNat (σ14.1 16 2)) 12) (Int.toNat s4)) < 0 then J8 () σ14 else w_KReader_means L a1 (σ14.2 (rfo (Int.toNat (σ14.1 16 2)) 12) (Int.toNat s4)) (fun v20 σ19 => if v20 = 0 then J8 () σ19 else w_KReader_meanSame L a1 a4 (σ14.2 (rfo (Int.toNat (σ14.1 16 2)) 12) (Int.toNat s4)) (fun v23 σ22 => if v23 = 0 then J8 () σ22 else Q 1 σ22) σ19) σ14 else J8 () σ14) σ5 else J8 () σ5) else Q 0 σ5) a2 σ
set_option maxHeartbeats 4000000 in
set_option maxRecDepth 20000 in
theorem s_KReader_hasTwin {L : Nat → Nat} (hL : ∀ r, L r < 2147483648) {d : Nat} (hd : 6 ≤ d) {a1 : Int} {a2 : Int} {a3 : Int} {a4 : Int} {Q : Int → IS → Prop} {σ : IS}  (h : w_KReader_hasTwin L a1 a2 a3 a4 Q σ) : OkI BF L d 15 b_KReader_hasTwin 8 2 0 [] [some (.inr 16), some (.inl a1), some (.inl a2), some (.inl a3), some (.inl a4)] σ (qi Q) := by
  unfold w_KReader_hasTwin at h
  obtain ⟨d, rfl⟩ : ∃ e, d = e + 1 := ⟨d - 1, by omega⟩
  refine k_sb (lv' := [some (.inr 16), some (.inl a1), some (.inl a2), some (.inl a3), some (.inl a4), none, none, none]) (sb_s (sb_s (sb_s (sb_s (sb_s (sb_e (sb_e (sb_e sb_nil)))))))) ?_
  refine k_aload_n d_KReader_hasTwin_0 rfl ?_
  obtain ⟨y1, h⟩ := h
  refine k_getD (x := (σ.1 16 2)) d_KReader_hasTwin_1 fl_15_150 ob_16 rfl rfl (dyD_pos y1) ?_
  refine k_getR d_KReader_hasTwin_4 fl_15_790 (doc_ob (dyD_doc y1)) (dfr_13 (dyD_doc y1)) ?_
  refine k_iload_n d_KReader_hasTwin_7 rfl ?_
  obtain ⟨p27, h⟩ := h
  refine k_ild (x := (σ.2 (rfo (Int.toNat (σ.1 16 2)) 13) (Int.toNat a3))) d_KReader_hasTwin_8 (drI_13 (dyD_doc y1)) p27 rfl ?_
  refine k_istore (lv' := [some (.inr 16), some (.inl a1), some (.inl a2), some (.inl a3), some (.inl a4), some (.inl (σ.2 (rfo (Int.toNat (σ.1 16 2)) 13) (Int.toNat a3))), none, none]) d_KReader_hasTwin_9 rfl rfl ?_
  refine k_iload_n d_KReader_hasTwin_11 rfl ?_
  refine k_istore (lv' := [some (.inr 16), some (.inl a1), some (.inl a2), some (.inl a3), some (.inl a4), some (.inl (σ.2 (rfo (Int.toNat (σ.1 16 2)) 13) (Int.toNat a3))), some (.inl a2), none]) d_KReader_hasTwin_12 rfl rfl ?_
  refine k_sb (lv' := [some (.inr 16), some (.inl a1), none, some (.inl a3), some (.inl a4), some (.inl (σ.2 (rfo (Int.toNat (σ.1 16 2)) 13) (Int.toNat a3))), some (.inl a2), none]) (sb_s (sb_s (sb_n (sb_s (sb_s (sb_s (sb_s (sb_s sb_nil)))))))) ?_
  refine k_loop (S := Int) (st := fun _ => []) (lv := fun s4 => [some (.inr 16), some (.inl a1), none, some (.inl a3), some (.inl a4), some (.inl (σ.2 (rfo (Int.toNat (σ.1 16 2)) 13) (Int.toNat a3))), some (.inl s4), none]) (fun K2 hK3 s4 σ5 h => ?_) a2 _ h
  refine k_iload d_KReader_hasTwin_14 rfl ?_
  refine k_iload_n d_KReader_hasTwin_16 rfl ?_
  refine k_icge d_KReader_hasTwin_17 rfl (fun c6 => ?_) (fun c6 => ?_)
  · have h := ineg c6 h
    refine k_iconst d_KReader_hasTwin_94 cI_0 ?_
    exact k_iret d_KReader_hasTwin_95 (Or.inr ⟨rfl, Or.inl rfl⟩) h
  · have h := ipos c6 h
    refine k_aload_n d_KReader_hasTwin_20 rfl ?_
    obtain ⟨y7, h⟩ := h
    refine k_getD (x := (σ5.1 16 2)) d_KReader_hasTwin_21 fl_15_150 ob_16 rfl rfl (dyD_pos y7) ?_
    refine k_getR d_KReader_hasTwin_24 fl_15_790 (doc_ob (dyD_doc y7)) (dfr_13 (dyD_doc y7)) ?_
    refine k_iload d_KReader_hasTwin_27 rfl ?_
    obtain ⟨p26, h⟩ := h
    refine k_ild (x := (σ5.2 (rfo (Int.toNat (σ5.1 16 2)) 13) (Int.toNat s4))) d_KReader_hasTwin_29 (drI_13 (dyD_doc y7)) p26 rfl ?_
    refine k_iload d_KReader_hasTwin_30 rfl ?_
    refine k_join (S := Unit) (pc' := 88) (st' := fun s10 => []) (lv' := fun s10 => [some (.inr 16), some (.inl a1), none, some (.inl a3), some (.inl a4), some (.inl (σ.2 (rfo (Int.toNat (σ.1 16 2)) 13) (Int.toNat a3))), some (.inl s4), none]) (fun s10 σ11 h => ?_) (fun J8 hJ9 h => ?_) h
    · obtain ⟨p12, h⟩ := h
      refine k_iinc (lv' := [some (.inr 16), some (.inl a1), none, some (.inl a3), some (.inl a4), some (.inl (σ.2 (rfo (Int.toNat (σ.1 16 2)) 13) (Int.toNat a3))), some (.inl (s4 + 1)), none]) d_KReader_hasTwin_88 cI_1 rfl rfl p12 rfl ?_
      refine k_goto d_KReader_hasTwin_91 rfl ?_
      exact k_sb (sb_s (sb_s (sb_s (sb_s (sb_s (sb_s (sb_s (sb_s sb_nil)))))))) (hK3 (s4 + 1) _ h)
    · refine k_icne d_KReader_hasTwin_32 rfl (fun c13 => ?_) (fun c13 => ?_)
      · have h := ineg c13 h
        exact k_sb (sb_s (sb_s (sb_s (sb_s (sb_s (sb_s (sb_s (sb_s sb_nil)))))))) (hJ9 () _ h)
      · have h := ipos c13 h
        refine k_aload_n d_KReader_hasTwin_35 rfl ?_
        refine k_getD (x := (σ5.1 16 2)) d_KReader_hasTwin_36 fl_15_150 ob_16 rfl rfl (dyD_pos y7) ?_
        refine k_iload d_KReader_hasTwin_39 rfl ?_
        refine k_cvi [.inl s4] d_KReader_hasTwin_41 ml_15_848 rfl rfl (doc_ob (dyD_doc y7)) rfl (s_KDoc_isDeclaration hL (by omega) (dyD_doc y7) h) (fun v15 σ14 h => ?_)
        refine k_ifne d_KReader_hasTwin_44 rfl (fun c16 => ?_) (fun c16 => ?_)
        · have h := ineg c16 h
          exact k_sb (sb_s (sb_s (sb_s (sb_s (sb_s (sb_s (sb_s (sb_s sb_nil)))))))) (hJ9 () _ h)
        · have h := ipos c16 h
          refine k_aload_n d_KReader_hasTwin_47 rfl ?_
          obtain ⟨y17, h⟩ := h
          refine k_getD (x := (σ14.1 16 2)) d_KReader_hasTwin_48 fl_15_150 ob_16 rfl rfl (dyD_pos y17) ?_
          refine k_getR d_KReader_hasTwin_51 fl_15_784 (doc_ob (dyD_doc y17)) (dfr_12 (dyD_doc y17)) ?_
          refine k_iload d_KReader_hasTwin_54 rfl ?_
          obtain ⟨p25, h⟩ := h
          refine k_ild (x := (σ14.2 (rfo (Int.toNat (σ14.1 16 2)) 12) (Int.toNat s4))) d_KReader_hasTwin_56 (drI_12 (dyD_doc y17)) p25 rfl ?_
          refine k_istore (lv' := [some (.inr 16), some (.inl a1), none, some (.inl a3), some (.inl a4), some (.inl (σ.2 (rfo (Int.toNat (σ.1 16 2)) 13) (Int.toNat a3))), some (.inl s4), some (.inl (σ14.2 (rfo (Int.toNat (σ14.1 16 2)) 12) (Int.toNat s4)))]) d_KReader_hasTwin_57 rfl rfl ?_
          refine k_iload d_KReader_hasTwin_59 rfl ?_
          refine k_iflt d_KReader_hasTwin_61 rfl (fun c18 => ?_) (fun c18 => ?_)
          · have h := ipos c18 h
            exact k_sb (sb_s (sb_s (sb_s (sb_s (sb_s (sb_s (sb_s (sb_n sb_nil)))))))) (hJ9 () _ h)
          · have h := ineg c18 h
            refine k_aload_n d_KReader_hasTwin_64 rfl ?_
            refine k_iload_n d_KReader_hasTwin_65 rfl ?_
            refine k_iload d_KReader_hasTwin_66 rfl ?_
            refine k_cvi [.inl a1, .inl (σ14.2 (rfo (Int.toNat (σ14.1 16 2)) 12) (Int.toNat s4))] d_KReader_hasTwin_68 ml_15_845 rfl rfl ob_16 rfl (s_KReader_means hL (by omega)  h) (fun v20 σ19 h => ?_)
            refine k_ifeq d_KReader_hasTwin_71 rfl (fun c21 => ?_) (fun c21 => ?_)
            · have h := ipos c21 h
              exact k_sb (sb_s (sb_s (sb_s (sb_s (sb_s (sb_s (sb_s (sb_n sb_nil)))))))) (hJ9 () _ h)
            · have h := ineg c21 h
              refine k_aload_n d_KReader_hasTwin_74 rfl ?_
              refine k_iload_n d_KReader_hasTwin_75 rfl ?_
              refine k_iload d_KReader_hasTwin_76 rfl ?_
              refine k_iload d_KReader_hasTwin_78 rfl ?_
              refine k_cvi [.inl a1, .inl a4, .inl (σ14.2 (rfo (Int.toNat (σ14.1 16 2)) 12) (Int.toNat s4))] d_KReader_hasTwin_80 ml_15_857 rfl rfl ob_16 rfl (s_KReader_meanSame hL (by omega)  h) (fun v23 σ22 h => ?_)
              refine k_ifeq d_KReader_hasTwin_83 rfl (fun c24 => ?_) (fun c24 => ?_)
              · have h := ipos c24 h
                exact k_sb (sb_s (sb_s (sb_s (sb_s (sb_s (sb_s (sb_s (sb_n sb_nil)))))))) (hJ9 () _ h)
              · have h := ineg c24 h
                refine k_iconst d_KReader_hasTwin_86 cI_1 ?_
                exact k_iret d_KReader_hasTwin_87 (Or.inr ⟨rfl, Or.inr rfl⟩) h
theorem d_KReader_spacesOf_0 : decode b_KReader_spacesOf 0 = .ok (.aload_n 0, 1) := by decide +kernel
theorem d_KReader_spacesOf_1 : decode b_KReader_spacesOf 1 = .ok (.getfield 150, 3) := by decide +kernel
theorem d_KReader_spacesOf_4 : decode b_KReader_spacesOf 4 = .ok (.getfield 738, 3) := by decide +kernel
theorem d_KReader_spacesOf_7 : decode b_KReader_spacesOf 7 = .ok (.iload_n 1, 1) := by decide +kernel
theorem d_KReader_spacesOf_8 : decode b_KReader_spacesOf 8 = .ok (.iaload, 1) := by decide +kernel
theorem d_KReader_spacesOf_9 : decode b_KReader_spacesOf 9 = .ok (.istore_n 2, 1) := by decide +kernel
theorem d_KReader_spacesOf_10 : decode b_KReader_spacesOf 10 = .ok (.aload_n 0, 1) := by decide +kernel
theorem d_KReader_spacesOf_11 : decode b_KReader_spacesOf 11 = .ok (.getfield 150, 3) := by decide +kernel
theorem d_KReader_spacesOf_14 : decode b_KReader_spacesOf 14 = .ok (.getfield 499, 3) := by decide +kernel
theorem d_KReader_spacesOf_17 : decode b_KReader_spacesOf 17 = .ok (.iconst 0, 1) := by decide +kernel
theorem d_KReader_spacesOf_18 : decode b_KReader_spacesOf 18 = .ok (.dup2, 1) := by decide +kernel
theorem d_KReader_spacesOf_19 : decode b_KReader_spacesOf 19 = .ok (.iaload, 1) := by decide +kernel
theorem d_KReader_spacesOf_20 : decode b_KReader_spacesOf 20 = .ok (.aload_n 0, 1) := by decide +kernel
theorem d_KReader_spacesOf_21 : decode b_KReader_spacesOf 21 = .ok (.getfield 150, 3) := by decide +kernel
theorem d_KReader_spacesOf_24 : decode b_KReader_spacesOf 24 = .ok (.iload_n 2, 1) := by decide +kernel
theorem d_KReader_spacesOf_25 : decode b_KReader_spacesOf 25 = .ok (.invokevirtual 842, 3) := by decide +kernel
theorem d_KReader_spacesOf_28 : decode b_KReader_spacesOf 28 = .ok (.bipush (-2), 2) := by decide +kernel
theorem d_KReader_spacesOf_30 : decode b_KReader_spacesOf 30 = .ok (.if_icmp .ne 7, 3) := by decide +kernel
theorem d_KReader_spacesOf_33 : decode b_KReader_spacesOf 33 = .ok (.iconst 1, 1) := by decide +kernel
theorem d_KReader_spacesOf_34 : decode b_KReader_spacesOf 34 = .ok (.goto 4, 3) := by decide +kernel
theorem d_KReader_spacesOf_37 : decode b_KReader_spacesOf 37 = .ok (.iconst 0, 1) := by decide +kernel
theorem d_KReader_spacesOf_38 : decode b_KReader_spacesOf 38 = .ok (.iadd, 1) := by decide +kernel
theorem d_KReader_spacesOf_39 : decode b_KReader_spacesOf 39 = .ok (.iastore, 1) := by decide +kernel
theorem d_KReader_spacesOf_40 : decode b_KReader_spacesOf 40 = .ok (.aload_n 0, 1) := by decide +kernel
theorem d_KReader_spacesOf_41 : decode b_KReader_spacesOf 41 = .ok (.getfield 150, 3) := by decide +kernel
theorem d_KReader_spacesOf_44 : decode b_KReader_spacesOf 44 = .ok (.iload_n 2, 1) := by decide +kernel
theorem d_KReader_spacesOf_45 : decode b_KReader_spacesOf 45 = .ok (.invokevirtual 787, 3) := by decide +kernel
theorem d_KReader_spacesOf_48 : decode b_KReader_spacesOf 48 = .ok (.istore_n 3, 1) := by decide +kernel
theorem d_KReader_spacesOf_49 : decode b_KReader_spacesOf 49 = .ok (.iload_n 3, 1) := by decide +kernel
theorem d_KReader_spacesOf_50 : decode b_KReader_spacesOf 50 = .ok (.ifCond .lt 24, 3) := by decide +kernel
theorem d_KReader_spacesOf_53 : decode b_KReader_spacesOf 53 = .ok (.aload_n 0, 1) := by decide +kernel
theorem d_KReader_spacesOf_54 : decode b_KReader_spacesOf 54 = .ok (.getfield 150, 3) := by decide +kernel
theorem d_KReader_spacesOf_57 : decode b_KReader_spacesOf 57 = .ok (.getfield 227, 3) := by decide +kernel
theorem d_KReader_spacesOf_60 : decode b_KReader_spacesOf 60 = .ok (.iload_n 3, 1) := by decide +kernel
theorem d_KReader_spacesOf_61 : decode b_KReader_spacesOf 61 = .ok (.ldc_w 829, 3) := by decide +kernel
theorem d_KReader_spacesOf_64 : decode b_KReader_spacesOf 64 = .ok (.invokevirtual 828, 3) := by decide +kernel
theorem d_KReader_spacesOf_67 : decode b_KReader_spacesOf 67 = .ok (.ifCond .eq 7, 3) := by decide +kernel
theorem d_KReader_spacesOf_70 : decode b_KReader_spacesOf 70 = .ok (.iconst 1, 1) := by decide +kernel
theorem d_KReader_spacesOf_71 : decode b_KReader_spacesOf 71 = .ok (.goto 4, 3) := by decide +kernel
theorem d_KReader_spacesOf_74 : decode b_KReader_spacesOf 74 = .ok (.iconst 0, 1) := by decide +kernel
theorem d_KReader_spacesOf_75 : decode b_KReader_spacesOf 75 = .ok (.istore 4, 2) := by decide +kernel
theorem d_KReader_spacesOf_77 : decode b_KReader_spacesOf 77 = .ok (.aload_n 0, 1) := by decide +kernel
theorem d_KReader_spacesOf_78 : decode b_KReader_spacesOf 78 = .ok (.getfield 150, 3) := by decide +kernel
theorem d_KReader_spacesOf_81 : decode b_KReader_spacesOf 81 = .ok (.getfield 499, 3) := by decide +kernel
theorem d_KReader_spacesOf_84 : decode b_KReader_spacesOf 84 = .ok (.iconst 4, 1) := by decide +kernel
theorem d_KReader_spacesOf_85 : decode b_KReader_spacesOf 85 = .ok (.dup2, 1) := by decide +kernel
theorem d_KReader_spacesOf_86 : decode b_KReader_spacesOf 86 = .ok (.iaload, 1) := by decide +kernel
theorem d_KReader_spacesOf_87 : decode b_KReader_spacesOf 87 = .ok (.iload 4, 2) := by decide +kernel
theorem d_KReader_spacesOf_89 : decode b_KReader_spacesOf 89 = .ok (.ifCond .eq 7, 3) := by decide +kernel
theorem d_KReader_spacesOf_92 : decode b_KReader_spacesOf 92 = .ok (.iconst 1, 1) := by decide +kernel
theorem d_KReader_spacesOf_93 : decode b_KReader_spacesOf 93 = .ok (.goto 4, 3) := by decide +kernel
theorem d_KReader_spacesOf_96 : decode b_KReader_spacesOf 96 = .ok (.iconst 0, 1) := by decide +kernel
theorem d_KReader_spacesOf_97 : decode b_KReader_spacesOf 97 = .ok (.iadd, 1) := by decide +kernel
theorem d_KReader_spacesOf_98 : decode b_KReader_spacesOf 98 = .ok (.iastore, 1) := by decide +kernel
theorem d_KReader_spacesOf_99 : decode b_KReader_spacesOf 99 = .ok (.aload_n 0, 1) := by decide +kernel
theorem d_KReader_spacesOf_100 : decode b_KReader_spacesOf 100 = .ok (.getfield 150, 3) := by decide +kernel
theorem d_KReader_spacesOf_103 : decode b_KReader_spacesOf 103 = .ok (.getfield 499, 3) := by decide +kernel
theorem d_KReader_spacesOf_106 : decode b_KReader_spacesOf 106 = .ok (.iconst 1, 1) := by decide +kernel
theorem d_KReader_spacesOf_107 : decode b_KReader_spacesOf 107 = .ok (.dup2, 1) := by decide +kernel
theorem d_KReader_spacesOf_108 : decode b_KReader_spacesOf 108 = .ok (.iaload, 1) := by decide +kernel
theorem d_KReader_spacesOf_109 : decode b_KReader_spacesOf 109 = .ok (.iload_n 3, 1) := by decide +kernel
theorem d_KReader_spacesOf_110 : decode b_KReader_spacesOf 110 = .ok (.ifCond .lt 21, 3) := by decide +kernel
theorem d_KReader_spacesOf_113 : decode b_KReader_spacesOf 113 = .ok (.iload 4, 2) := by decide +kernel
theorem d_KReader_spacesOf_115 : decode b_KReader_spacesOf 115 = .ok (.ifCond .ne 16, 3) := by decide +kernel
theorem d_KReader_spacesOf_118 : decode b_KReader_spacesOf 118 = .ok (.aload_n 0, 1) := by decide +kernel
theorem d_KReader_spacesOf_119 : decode b_KReader_spacesOf 119 = .ok (.iload_n 1, 1) := by decide +kernel
theorem d_KReader_spacesOf_120 : decode b_KReader_spacesOf 120 = .ok (.iload_n 3, 1) := by decide +kernel
theorem d_KReader_spacesOf_121 : decode b_KReader_spacesOf 121 = .ok (.invokevirtual 845, 3) := by decide +kernel
theorem d_KReader_spacesOf_124 : decode b_KReader_spacesOf 124 = .ok (.ifCond .ne 7, 3) := by decide +kernel
theorem d_KReader_spacesOf_127 : decode b_KReader_spacesOf 127 = .ok (.iconst 1, 1) := by decide +kernel
theorem d_KReader_spacesOf_128 : decode b_KReader_spacesOf 128 = .ok (.goto 4, 3) := by decide +kernel
theorem d_KReader_spacesOf_131 : decode b_KReader_spacesOf 131 = .ok (.iconst 0, 1) := by decide +kernel
theorem d_KReader_spacesOf_132 : decode b_KReader_spacesOf 132 = .ok (.iadd, 1) := by decide +kernel
theorem d_KReader_spacesOf_133 : decode b_KReader_spacesOf 133 = .ok (.iastore, 1) := by decide +kernel
theorem d_KReader_spacesOf_134 : decode b_KReader_spacesOf 134 = .ok (.aload_n 0, 1) := by decide +kernel
theorem d_KReader_spacesOf_135 : decode b_KReader_spacesOf 135 = .ok (.getfield 150, 3) := by decide +kernel
theorem d_KReader_spacesOf_138 : decode b_KReader_spacesOf 138 = .ok (.getfield 760, 3) := by decide +kernel
theorem d_KReader_spacesOf_141 : decode b_KReader_spacesOf 141 = .ok (.iload_n 1, 1) := by decide +kernel
theorem d_KReader_spacesOf_142 : decode b_KReader_spacesOf 142 = .ok (.iaload, 1) := by decide +kernel
theorem d_KReader_spacesOf_143 : decode b_KReader_spacesOf 143 = .ok (.istore 5, 2) := by decide +kernel
theorem d_KReader_spacesOf_145 : decode b_KReader_spacesOf 145 = .ok (.iload 5, 2) := by decide +kernel
theorem d_KReader_spacesOf_147 : decode b_KReader_spacesOf 147 = .ok (.istore 6, 2) := by decide +kernel
theorem d_KReader_spacesOf_149 : decode b_KReader_spacesOf 149 = .ok (.iload 6, 2) := by decide +kernel
theorem d_KReader_spacesOf_151 : decode b_KReader_spacesOf 151 = .ok (.iload 5, 2) := by decide +kernel
theorem d_KReader_spacesOf_153 : decode b_KReader_spacesOf 153 = .ok (.aload_n 0, 1) := by decide +kernel
theorem d_KReader_spacesOf_154 : decode b_KReader_spacesOf 154 = .ok (.getfield 150, 3) := by decide +kernel
theorem d_KReader_spacesOf_157 : decode b_KReader_spacesOf 157 = .ok (.getfield 763, 3) := by decide +kernel
theorem d_KReader_spacesOf_160 : decode b_KReader_spacesOf 160 = .ok (.iload_n 1, 1) := by decide +kernel
theorem d_KReader_spacesOf_161 : decode b_KReader_spacesOf 161 = .ok (.iaload, 1) := by decide +kernel
theorem d_KReader_spacesOf_162 : decode b_KReader_spacesOf 162 = .ok (.iadd, 1) := by decide +kernel
theorem d_KReader_spacesOf_163 : decode b_KReader_spacesOf 163 = .ok (.if_icmp .ge 186, 3) := by decide +kernel
theorem d_KReader_spacesOf_166 : decode b_KReader_spacesOf 166 = .ok (.aload_n 0, 1) := by decide +kernel
theorem d_KReader_spacesOf_167 : decode b_KReader_spacesOf 167 = .ok (.getfield 150, 3) := by decide +kernel
theorem d_KReader_spacesOf_170 : decode b_KReader_spacesOf 170 = .ok (.getfield 499, 3) := by decide +kernel
theorem d_KReader_spacesOf_173 : decode b_KReader_spacesOf 173 = .ok (.iconst 0, 1) := by decide +kernel
theorem d_KReader_spacesOf_174 : decode b_KReader_spacesOf 174 = .ok (.dup2, 1) := by decide +kernel
theorem d_KReader_spacesOf_175 : decode b_KReader_spacesOf 175 = .ok (.iaload, 1) := by decide +kernel
theorem d_KReader_spacesOf_176 : decode b_KReader_spacesOf 176 = .ok (.aload_n 0, 1) := by decide +kernel
theorem d_KReader_spacesOf_177 : decode b_KReader_spacesOf 177 = .ok (.getfield 150, 3) := by decide +kernel
theorem d_KReader_spacesOf_180 : decode b_KReader_spacesOf 180 = .ok (.aload_n 0, 1) := by decide +kernel
theorem d_KReader_spacesOf_181 : decode b_KReader_spacesOf 181 = .ok (.getfield 150, 3) := by decide +kernel
theorem d_KReader_spacesOf_184 : decode b_KReader_spacesOf 184 = .ok (.getfield 766, 3) := by decide +kernel
theorem d_KReader_spacesOf_187 : decode b_KReader_spacesOf 187 = .ok (.iload 6, 2) := by decide +kernel
theorem d_KReader_spacesOf_189 : decode b_KReader_spacesOf 189 = .ok (.iaload, 1) := by decide +kernel
theorem d_KReader_spacesOf_190 : decode b_KReader_spacesOf 190 = .ok (.invokevirtual 842, 3) := by decide +kernel
theorem d_KReader_spacesOf_193 : decode b_KReader_spacesOf 193 = .ok (.bipush (-2), 2) := by decide +kernel
theorem d_KReader_spacesOf_195 : decode b_KReader_spacesOf 195 = .ok (.if_icmp .ne 7, 3) := by decide +kernel
theorem d_KReader_spacesOf_198 : decode b_KReader_spacesOf 198 = .ok (.iconst 1, 1) := by decide +kernel
theorem d_KReader_spacesOf_199 : decode b_KReader_spacesOf 199 = .ok (.goto 4, 3) := by decide +kernel
theorem d_KReader_spacesOf_202 : decode b_KReader_spacesOf 202 = .ok (.iconst 0, 1) := by decide +kernel
theorem d_KReader_spacesOf_203 : decode b_KReader_spacesOf 203 = .ok (.iadd, 1) := by decide +kernel
theorem d_KReader_spacesOf_204 : decode b_KReader_spacesOf 204 = .ok (.iastore, 1) := by decide +kernel
theorem d_KReader_spacesOf_205 : decode b_KReader_spacesOf 205 = .ok (.aload_n 0, 1) := by decide +kernel
theorem d_KReader_spacesOf_206 : decode b_KReader_spacesOf 206 = .ok (.getfield 150, 3) := by decide +kernel
theorem d_KReader_spacesOf_209 : decode b_KReader_spacesOf 209 = .ok (.iload 6, 2) := by decide +kernel
theorem d_KReader_spacesOf_211 : decode b_KReader_spacesOf 211 = .ok (.invokevirtual 848, 3) := by decide +kernel
theorem d_KReader_spacesOf_214 : decode b_KReader_spacesOf 214 = .ok (.ifCond .eq 32, 3) := by decide +kernel
theorem d_KReader_spacesOf_217 : decode b_KReader_spacesOf 217 = .ok (.aload_n 0, 1) := by decide +kernel
theorem d_KReader_spacesOf_218 : decode b_KReader_spacesOf 218 = .ok (.getfield 150, 3) := by decide +kernel
theorem d_KReader_spacesOf_221 : decode b_KReader_spacesOf 221 = .ok (.getfield 499, 3) := by decide +kernel
theorem d_KReader_spacesOf_224 : decode b_KReader_spacesOf 224 = .ok (.iconst 3, 1) := by decide +kernel
theorem d_KReader_spacesOf_225 : decode b_KReader_spacesOf 225 = .ok (.dup2, 1) := by decide +kernel
theorem d_KReader_spacesOf_226 : decode b_KReader_spacesOf 226 = .ok (.iaload, 1) := by decide +kernel
theorem d_KReader_spacesOf_227 : decode b_KReader_spacesOf 227 = .ok (.aload_n 0, 1) := by decide +kernel
theorem d_KReader_spacesOf_228 : decode b_KReader_spacesOf 228 = .ok (.iload 6, 2) := by decide +kernel
theorem d_KReader_spacesOf_230 : decode b_KReader_spacesOf 230 = .ok (.invokevirtual 851, 3) := by decide +kernel
theorem d_KReader_spacesOf_233 : decode b_KReader_spacesOf 233 = .ok (.ifCond .eq 7, 3) := by decide +kernel
theorem d_KReader_spacesOf_236 : decode b_KReader_spacesOf 236 = .ok (.iconst 1, 1) := by decide +kernel
theorem d_KReader_spacesOf_237 : decode b_KReader_spacesOf 237 = .ok (.goto 4, 3) := by decide +kernel
theorem d_KReader_spacesOf_240 : decode b_KReader_spacesOf 240 = .ok (.iconst 0, 1) := by decide +kernel
theorem d_KReader_spacesOf_241 : decode b_KReader_spacesOf 241 = .ok (.iadd, 1) := by decide +kernel
theorem d_KReader_spacesOf_242 : decode b_KReader_spacesOf 242 = .ok (.iastore, 1) := by decide +kernel
theorem d_KReader_spacesOf_243 : decode b_KReader_spacesOf 243 = .ok (.goto 100, 3) := by decide +kernel
theorem d_KReader_spacesOf_246 : decode b_KReader_spacesOf 246 = .ok (.aload_n 0, 1) := by decide +kernel
theorem d_KReader_spacesOf_247 : decode b_KReader_spacesOf 247 = .ok (.getfield 150, 3) := by decide +kernel
theorem d_KReader_spacesOf_250 : decode b_KReader_spacesOf 250 = .ok (.getfield 784, 3) := by decide +kernel
theorem d_KReader_spacesOf_253 : decode b_KReader_spacesOf 253 = .ok (.iload 6, 2) := by decide +kernel
theorem d_KReader_spacesOf_255 : decode b_KReader_spacesOf 255 = .ok (.iaload, 1) := by decide +kernel
theorem d_KReader_spacesOf_256 : decode b_KReader_spacesOf 256 = .ok (.istore 7, 2) := by decide +kernel
theorem d_KReader_spacesOf_258 : decode b_KReader_spacesOf 258 = .ok (.iload 7, 2) := by decide +kernel
theorem d_KReader_spacesOf_260 : decode b_KReader_spacesOf 260 = .ok (.ifCond .lt 17, 3) := by decide +kernel
theorem d_KReader_spacesOf_263 : decode b_KReader_spacesOf 263 = .ok (.aload_n 0, 1) := by decide +kernel
theorem d_KReader_spacesOf_264 : decode b_KReader_spacesOf 264 = .ok (.iload_n 1, 1) := by decide +kernel
theorem d_KReader_spacesOf_265 : decode b_KReader_spacesOf 265 = .ok (.iload 7, 2) := by decide +kernel
theorem d_KReader_spacesOf_267 : decode b_KReader_spacesOf 267 = .ok (.invokevirtual 845, 3) := by decide +kernel
theorem d_KReader_spacesOf_270 : decode b_KReader_spacesOf 270 = .ok (.ifCond .eq 7, 3) := by decide +kernel
theorem d_KReader_spacesOf_273 : decode b_KReader_spacesOf 273 = .ok (.iconst 1, 1) := by decide +kernel
theorem d_KReader_spacesOf_274 : decode b_KReader_spacesOf 274 = .ok (.goto 4, 3) := by decide +kernel
theorem d_KReader_spacesOf_277 : decode b_KReader_spacesOf 277 = .ok (.iconst 0, 1) := by decide +kernel
theorem d_KReader_spacesOf_278 : decode b_KReader_spacesOf 278 = .ok (.istore 8, 2) := by decide +kernel
theorem d_KReader_spacesOf_280 : decode b_KReader_spacesOf 280 = .ok (.aload_n 0, 1) := by decide +kernel
theorem d_KReader_spacesOf_281 : decode b_KReader_spacesOf 281 = .ok (.getfield 150, 3) := by decide +kernel
theorem d_KReader_spacesOf_284 : decode b_KReader_spacesOf 284 = .ok (.getfield 499, 3) := by decide +kernel
theorem d_KReader_spacesOf_287 : decode b_KReader_spacesOf 287 = .ok (.iconst 1, 1) := by decide +kernel
theorem d_KReader_spacesOf_288 : decode b_KReader_spacesOf 288 = .ok (.dup2, 1) := by decide +kernel
theorem d_KReader_spacesOf_289 : decode b_KReader_spacesOf 289 = .ok (.iaload, 1) := by decide +kernel
theorem d_KReader_spacesOf_290 : decode b_KReader_spacesOf 290 = .ok (.iload 7, 2) := by decide +kernel
theorem d_KReader_spacesOf_292 : decode b_KReader_spacesOf 292 = .ok (.ifCond .lt 12, 3) := by decide +kernel
theorem d_KReader_spacesOf_295 : decode b_KReader_spacesOf 295 = .ok (.iload 8, 2) := by decide +kernel
theorem d_KReader_spacesOf_297 : decode b_KReader_spacesOf 297 = .ok (.ifCond .ne 7, 3) := by decide +kernel
theorem d_KReader_spacesOf_300 : decode b_KReader_spacesOf 300 = .ok (.iconst 1, 1) := by decide +kernel
theorem d_KReader_spacesOf_301 : decode b_KReader_spacesOf 301 = .ok (.goto 4, 3) := by decide +kernel
theorem d_KReader_spacesOf_304 : decode b_KReader_spacesOf 304 = .ok (.iconst 0, 1) := by decide +kernel
theorem d_KReader_spacesOf_305 : decode b_KReader_spacesOf 305 = .ok (.iadd, 1) := by decide +kernel
theorem d_KReader_spacesOf_306 : decode b_KReader_spacesOf 306 = .ok (.iastore, 1) := by decide +kernel
theorem d_KReader_spacesOf_307 : decode b_KReader_spacesOf 307 = .ok (.aload_n 0, 1) := by decide +kernel
theorem d_KReader_spacesOf_308 : decode b_KReader_spacesOf 308 = .ok (.getfield 150, 3) := by decide +kernel
theorem d_KReader_spacesOf_311 : decode b_KReader_spacesOf 311 = .ok (.getfield 499, 3) := by decide +kernel
theorem d_KReader_spacesOf_314 : decode b_KReader_spacesOf 314 = .ok (.iconst 2, 1) := by decide +kernel
theorem d_KReader_spacesOf_315 : decode b_KReader_spacesOf 315 = .ok (.dup2, 1) := by decide +kernel
theorem d_KReader_spacesOf_316 : decode b_KReader_spacesOf 316 = .ok (.iaload, 1) := by decide +kernel
theorem d_KReader_spacesOf_317 : decode b_KReader_spacesOf 317 = .ok (.iload 8, 2) := by decide +kernel
theorem d_KReader_spacesOf_319 : decode b_KReader_spacesOf 319 = .ok (.ifCond .eq 21, 3) := by decide +kernel
theorem d_KReader_spacesOf_322 : decode b_KReader_spacesOf 322 = .ok (.aload_n 0, 1) := by decide +kernel
theorem d_KReader_spacesOf_323 : decode b_KReader_spacesOf 323 = .ok (.iload_n 1, 1) := by decide +kernel
theorem d_KReader_spacesOf_324 : decode b_KReader_spacesOf 324 = .ok (.iload 5, 2) := by decide +kernel
theorem d_KReader_spacesOf_326 : decode b_KReader_spacesOf 326 = .ok (.iload 6, 2) := by decide +kernel
theorem d_KReader_spacesOf_328 : decode b_KReader_spacesOf 328 = .ok (.iload 7, 2) := by decide +kernel
theorem d_KReader_spacesOf_330 : decode b_KReader_spacesOf 330 = .ok (.invokevirtual 854, 3) := by decide +kernel
theorem d_KReader_spacesOf_333 : decode b_KReader_spacesOf 333 = .ok (.ifCond .eq 7, 3) := by decide +kernel
theorem d_KReader_spacesOf_336 : decode b_KReader_spacesOf 336 = .ok (.iconst 1, 1) := by decide +kernel
theorem d_KReader_spacesOf_337 : decode b_KReader_spacesOf 337 = .ok (.goto 4, 3) := by decide +kernel
theorem d_KReader_spacesOf_340 : decode b_KReader_spacesOf 340 = .ok (.iconst 0, 1) := by decide +kernel
theorem d_KReader_spacesOf_341 : decode b_KReader_spacesOf 341 = .ok (.iadd, 1) := by decide +kernel
theorem d_KReader_spacesOf_342 : decode b_KReader_spacesOf 342 = .ok (.iastore, 1) := by decide +kernel
theorem d_KReader_spacesOf_343 : decode b_KReader_spacesOf 343 = .ok (.iinc 6 1, 3) := by decide +kernel
theorem d_KReader_spacesOf_346 : decode b_KReader_spacesOf 346 = .ok (.goto (-197), 3) := by decide +kernel
theorem d_KReader_spacesOf_349 : decode b_KReader_spacesOf 349 = .ok (.return_, 1) := by decide +kernel
/-- KReader_spacesOf -/
def w_KReader_spacesOf (L : Nat → Nat) (a1 : Int) (Q : IS → Prop) (σ : IS) : Prop := dyD (σ.1 16 2) ∧ inL L (rfo (Int.toNat (σ.1 16 2)) 3) a1 ∧ inL L (rfo (Int.toNat (σ.1 16 2)) 19) 0 ∧ w_KDoc_colon L (Int.toNat (σ.1 16 2)) (σ.2 (rfo (Int.toNat (σ.1 16 2)) 3) (Int.toNat a1)) (fun v3 σ2 => inR ((σ.2 (rfo (Int.toNat (σ.1 16 2)) 19) (Int.toNat 0)) + (if v3 = (-2) then (1 : Int) else (0 : Int))) ∧ inL L (rfo (Int.toNat (σ.1 16 2)) 19) 0 ∧ dyD (σ2.1 16 2) ∧ w_KDoc_prefix L (Int.toNat (σ2.1 16 2)) (σ.2 (rfo (Int.toNat (σ.1 16 2)) 3) (Int.toNat a1)) (fun v6 σ5 => WJ (fun (s9 : Int) (σ10 : IS) => dyD (σ10.1 16 2) ∧ inL L (rfo (Int.toNat (σ10.1 16 2)) 19) 4 ∧ inR ((σ10.2 (rfo (Int.toNat (σ10.1 16 2)) 19) (Int.toNat 4)) + (if s9 = 0 then (0 : Int) else (1 : Int))) ∧ inL L (rfo (Int.toNat (σ10.1 16 2)) 19) 4 ∧ inL L (rfo (Int.toNat (σ10.1 16 2)) 19) 1 ∧ WJ (fun (s14 : Int) (σ15 : IS) => inR (((pr σ10 (rfo (Int.toNat (σ10.1 16 2)) 19) (Int.toNat 4) ((σ10.2 (rfo (Int.toNat (σ10.1 16 2)) 19) (Int.toNat 4)) + (if s9 = 0 then (0 : Int) else (1 : Int)))).2 (rfo (Int.toNat (σ10.1 16 2)) 19) (Int.toNat 1)) + s14) ∧ inL L (rfo (Int.toNat (σ10.1 16 2)) 19) 1 ∧ dyD (σ15.1 16 2) ∧ inL L (rfo (Int.toNat (σ15.1 16 2)) 5) a1 ∧ LETI ((pr σ15 (rfo (Int.toNat (σ10.1 16 2)) 19) (Int.toNat 1) (((pr σ10 (rfo (Int.toNat (σ10.1 16 2)) 19) (Int.toNat 4) ((σ10.2 (rfo (Int.toNat (σ10.1 16 2)) 19) (Int.toNat 4)) + (if s9 = 0 then (0 : Int) else (1 : Int)))).2 (rfo (Int.toNat (σ10.1 16 2)) 19) (Int.toNat 1)) + s14)).2 (rfo (Int.toNat (σ15.1 16 2)) 5) (Int.toNat a1)) (fun t17 => WL (fun (K19 : Int → IS → Prop) (s21 : Int) (σ22 : IS) => dyD (σ22.1 16 2) ∧ inL L (rfo (Int.toNat (σ22.1 16 2)) 6) a1 ∧ inR (t17 + (σ22.2 (rfo (Int.toNat (σ22.1 16 2)) 6) (Int.toNat a1))) ∧ if s21 < (t17 + (σ22.2 (rfo (Int.toNat (σ22.1 16 2)) 6) (Int.toNat a1))) then inL L (rfo (Int.toNat (σ22.1 16 2)) 19) 0 ∧ inL L (rfo (Int.toNat (σ22.1 16 2)) 8) s21 ∧ w_KDoc_colon L (Int.toNat (σ22.1 16 2)) (σ22.2 (rfo (Int.toNat (σ22.1 16 2)) 8) (Int.toNat s21)) (fun v26 σ25 => inR ((σ22.2 (rfo (Int.toNat (σ22.1 16 2)) 19) (Int.toNat 0)) + (if v26 = (-2) then (1 : Int) else (0 : Int))) ∧ inL L (rfo (Int.toNat (σ22.1 16 2)) 19) 0 ∧ dyD (σ25.1 16 2) ∧ w_KDoc_isDeclaration L (Int.toNat (σ25.1 16 2)) s21 (fun v29 σ28 => WJ (fun (s32 : Unit) (σ33 : IS) => inR (s21 + 1) ∧ K19 (s21 + 1) σ33) (fun J30 => if v29 = 0 then dyD (σ28.1 16 2) ∧ inL L (rfo (Int.toNat (σ28.1 16 2)) 12) s21 ∧ WJ (fun (s39 : Int) (σ40 : IS) => dyD (σ40.1 16 2) ∧ inL L (rfo (Int.toNat (σ40.1 16 2)) 19) 1 ∧ inR ((σ40.2 (rfo (Int.toNat (σ40.1 16 2)) 19) (Int.toNat 1)) + (if (σ28.2 (rfo (Int.toNat (σ28.1 16 2)) 12) (Int.toNat s21)) < 0 then (0 : Int) else (if s39 = 0 then (1 : Int) else (0 : Int)))) ∧ inL L (rfo (Int.toNat (σ40.1 16 2)) 19) 1 ∧ inL L (rfo (Int.toNat (σ40.1 16 2)) 19) 2 ∧ WJ (fun (s44 : Int) (σ45 : IS) => inR (((pr σ40 (rfo (Int.toNat (σ40.1 16 2)) 19) (Int.toNat 1) ((σ40.2 (rfo (Int.toNat (σ40.1 16 2)) 19) (Int.toNat 1)) + (if (σ28.2 (rfo (Int.toNat (σ28.1 16 2)) 12) (Int.toNat s21)) < 0 then (0 : Int) else (if s39 = 0 then (1 : Int) else (0 : Int))))).2 (rfo (Int.toNat (σ40.1 16 2)) 19) (Int.toNat 2)) + s44) ∧ inL L (rfo (Int.toNat (σ40.1 16 2)) 19) 2 ∧ J30 () (pr σ45 (rfo (Int.toNat (σ40.1 16 2)) 19) (Int.toNat 2) (((pr σ40 (rfo (Int.toNat (σ40.1 16 2)) 19) (Int.toNat 1) ((σ40.2 (rfo (Int.toNat (σ40.1 16 2)) 19) (Int.toNat 1)) + (if (σ28.2 (rfo (Int.toNat (σ28.1 16 2)) 12) (Int.toNat s21)) < 0 then (0 : Int) else (if s39 = 0 then (1 : Int) else (0 : Int))))).2 (rfo (Int.toNat (σ40.1 16 2)) 19) (Int.toNat 2)) + s44))) (fun J42 => WJ (fun (s50 : Unit) (σ51 : IS) => J42 0 σ51) (fun J48 => if s39 = 0 then J48 () (pr σ40 (rfo (Int.toNat (σ40.1 16 2)) 19) (Int.toNat 1) ((σ40.2 (rfo (Int.toNat (σ40.1 16 2)) 19) (Int.toNat 1)) + (if (σ28.2 (rfo (Int.toNat (σ28.1 16 2)) 12) (Int.toNat s21)) < 0 then (0 : Int) else (if s39 = 0 then (1 : Int) else (0 : Int))))) else w_KReader_hasTwin L a1 t17 s21 (σ28.2 (rfo (Int.toNat (σ28.1 16 2)) 12) (Int.toNat s21)) (fun v54 σ53 => if v54 = 0 then J48 () σ53 else J42 1 σ53) (pr σ40 (rfo (Int.toNat (σ40.1 16 2)) 19) (Int.toNat 1) ((σ40.2 (rfo (Int.toNat (σ40.1 16 2)) 19) (Int.toNat 1)) + (if (σ28.2 (rfo (Int.toNat (σ28.1 16 2)) 12) (Int.toNat s21)) < 0 then (0 : Int) else (if s39 = 0 then (1 : Int) else (0 : Int)))))))) (fun J37 => WJ (fun (s69 : Unit) (σ70 : IS) => J37 0 σ70) (fun J67 => if (σ28.2 (rfo (Int.toNat (σ28.1 16 2)) 12) (Int.toNat s21)) < 0 then J67 () σ28 else w_KReader_means L a1 (σ28.2 (rfo (Int.toNat (σ28.1 16 2)) 12) (Int.toNat s21)) (fun v73 σ72 => if v73 = 0 then J67 () σ72 else J37 1 σ72) σ28)) else dyD (σ28.1 16 2) ∧ inL L (rfo (Int.toNat (σ28.1 16 2)) 19) 3 ∧ w_KReader_isWrong L s21 (fun v78 σ77 => inR ((σ28.2 (rfo (Int.toNat (σ28.1 16 2)) 19) (Int.toNat 3)) + (if v78 = 0 then (0 : Int) else (1 : Int))) ∧ inL L (rfo (Int.toNat (σ28.1 16 2)) 19) 3 ∧ J30 () (pr σ77 (rfo (Int.toNat (σ28.1 16 2)) 19) (Int.toNat 3) ((σ28.2 (rfo (Int.toNat (σ28.1 16 2)) 19) (Int.toNat 3)) + (if v78 = 0 then (0 : Int) else (1 : Int))))) σ28)) (pr σ25 (rfo (Int.toNat (σ22.1 16 2)) 19) (Int.toNat 0) ((σ22.2 (rfo (Int.toNat (σ22.1 16 2)) 19) (Int.toNat 0)) + (if v26 = (-2) then (1 : Int) else (0 : Int))))) σ22 else Q σ22) t17 (pr σ15 (rfo (Int.toNat (σ10.1 16 2)) 19) (Int.toNat 1) (((pr σ10 (rfo (Int.toNat (σ10.1 16 2)) 19) (Int.toNat 4) ((σ10.2 (rfo (Int.toNat (σ10.1 16 2)) 19) (Int.toNat 4)) + (if s9 = 0 then (0 : Int) else (1 : Int)))).2 (rfo (Int.toNat (σ10.1 16 2)) 19) (Int.toNat 1)) + s14)))) (fun J12 => WJ (fun (s101 : Unit) (σ102 : IS) => J12 0 σ102) (fun J99 => if ¬ v6 < 0 ∧ (s9 = 0) then w_KReader_means L a1 v6 (fun v104 σ103 => if v104 = 0 then J12 1 σ103 else J99 () σ103) (pr σ10 (rfo (Int.toNat (σ10.1 16 2)) 19) (Int.toNat 4) ((σ10.2 (rfo (Int.toNat (σ10.1 16 2)) 19) (Int.toNat 4)) + (if s9 = 0 then (0 : Int) else (1 : Int)))) else J99 () (pr σ10 (rfo (Int.toNat (σ10.1 16 2)) 19) (Int.toNat 4) ((σ10.2 (rfo (Int.toNat (σ10.1 16 2)) 19) (Int.toNat 4)) + (if s9 = 0 then (0 : Int) else (1 : Int))))))) (fun J7 => WJ (fun (s121 : Unit) (σ122 : IS) => J7 0 σ122) (fun J119 => if v6 < 0 then J119 () σ5 else dyD (σ5.1 16 2) ∧ w_KBook_says L v6 1153 (fun v126 σ125 => if v126 = 0 then J119 () σ125 else J7 1 σ125) σ5))) (pr σ2 (rfo (Int.toNat (σ.1 16 2)) 19) (Int.toNat 0) ((σ.2 (rfo (Int.toNat (σ.1 16 2)) 19) (Int.toNat 0)) + (if v3 = (-2) then (1 : Int) else (0 : Int))))) σ
set_option maxHeartbeats 4000000 in
set_option maxRecDepth 20000 in
theorem s_KReader_spacesOf {L : Nat → Nat} (hL : ∀ r, L r < 2147483648) {d : Nat} (hd : 7 ≤ d) {a1 : Int} {Q : IS → Prop} {σ : IS}  (h : w_KReader_spacesOf L a1 Q σ) : OkI BF L d 15 b_KReader_spacesOf 9 0 0 [] [some (.inr 16), some (.inl a1)] σ (qv Q) := by
  unfold w_KReader_spacesOf at h
  obtain ⟨d, rfl⟩ : ∃ e, d = e + 1 := ⟨d - 1, by omega⟩
  refine k_sb (lv' := [some (.inr 16), some (.inl a1), none, none, none, none, none, none, none]) (sb_s (sb_s (sb_e (sb_e (sb_e (sb_e (sb_e (sb_e (sb_e sb_nil))))))))) ?_
  refine k_aload_n d_KReader_spacesOf_0 rfl ?_
  obtain ⟨y1, h⟩ := h
  refine k_getD (x := (σ.1 16 2)) d_KReader_spacesOf_1 fl_15_150 ob_16 rfl rfl (dyD_pos y1) ?_
  refine k_getR d_KReader_spacesOf_4 fl_15_738 (doc_ob (dyD_doc y1)) (dfr_3 (dyD_doc y1)) ?_
  refine k_iload_n d_KReader_spacesOf_7 rfl ?_
  obtain ⟨p135, h⟩ := h
  refine k_ild (x := (σ.2 (rfo (Int.toNat (σ.1 16 2)) 3) (Int.toNat a1))) d_KReader_spacesOf_8 (drI_3 (dyD_doc y1)) p135 rfl ?_
  refine k_istore_n (lv' := [some (.inr 16), some (.inl a1), some (.inl (σ.2 (rfo (Int.toNat (σ.1 16 2)) 3) (Int.toNat a1))), none, none, none, none, none, none]) d_KReader_spacesOf_9 rfl rfl ?_
  refine k_aload_n d_KReader_spacesOf_10 rfl ?_
  refine k_getD (x := (σ.1 16 2)) d_KReader_spacesOf_11 fl_15_150 ob_16 rfl rfl (dyD_pos y1) ?_
  refine k_getR d_KReader_spacesOf_14 fl_15_499 (doc_ob (dyD_doc y1)) (dfr_19 (dyD_doc y1)) ?_
  refine k_iconst d_KReader_spacesOf_17 cI_0 ?_
  refine k_dup2 d_KReader_spacesOf_18 ?_
  obtain ⟨p134, h⟩ := h
  refine k_ild (x := (σ.2 (rfo (Int.toNat (σ.1 16 2)) 19) (Int.toNat 0))) d_KReader_spacesOf_19 (drI_19 (dyD_doc y1)) p134 rfl ?_
  refine k_aload_n d_KReader_spacesOf_20 rfl ?_
  refine k_getD (x := (σ.1 16 2)) d_KReader_spacesOf_21 fl_15_150 ob_16 rfl rfl (dyD_pos y1) ?_
  refine k_iload_n d_KReader_spacesOf_24 rfl ?_
  refine k_cvi [.inl (σ.2 (rfo (Int.toNat (σ.1 16 2)) 3) (Int.toNat a1))] d_KReader_spacesOf_25 ml_15_842 rfl rfl (doc_ob (dyD_doc y1)) rfl (s_KDoc_colon hL (by omega) (dyD_doc y1) h) (fun v3 σ2 h => ?_)
  refine k_bipush d_KReader_spacesOf_28 cB_m2 ?_
  have hV130 : OkI BF L (d + 1) 15 b_KReader_spacesOf 9 0 38 [.inl (if v3 = (-2) then (1 : Int) else (0 : Int)), .inl (σ.2 (rfo (Int.toNat (σ.1 16 2)) 19) (Int.toNat 0)), .inl 0, .inr (rfo (Int.toNat (σ.1 16 2)) 19)] [some (.inr 16), some (.inl a1), some (.inl (σ.2 (rfo (Int.toNat (σ.1 16 2)) 3) (Int.toNat a1))), none, none, none, none, none, none] σ2 (qv Q) := by
    obtain ⟨p129, h⟩ := h
    refine k_iadd d_KReader_spacesOf_38 p129 ?_
    obtain ⟨p128, h⟩ := h
    refine k_ist d_KReader_spacesOf_39 (drI_19 (dyD_doc y1)) p128 ?_
    refine k_aload_n d_KReader_spacesOf_40 rfl ?_
    obtain ⟨y4, h⟩ := h
    refine k_getD (x := (σ2.1 16 2)) d_KReader_spacesOf_41 fl_15_150 ob_16 rfl rfl (dyD_pos y4) ?_
    refine k_iload_n d_KReader_spacesOf_44 rfl ?_
    refine k_cvi [.inl (σ.2 (rfo (Int.toNat (σ.1 16 2)) 3) (Int.toNat a1))] d_KReader_spacesOf_45 ml_15_787 rfl rfl (doc_ob (dyD_doc y4)) rfl (s_KDoc_prefix hL (by omega) (dyD_doc y4) h) (fun v6 σ5 h => ?_)
    refine k_istore_n (lv' := [some (.inr 16), some (.inl a1), some (.inl (σ.2 (rfo (Int.toNat (σ.1 16 2)) 3) (Int.toNat a1))), some (.inl v6), none, none, none, none, none]) d_KReader_spacesOf_48 rfl rfl ?_
    refine k_iload_n d_KReader_spacesOf_49 rfl ?_
    refine k_join (S := Int) (pc' := 75) (st' := fun s9 => [.inl s9]) (lv' := fun s9 => [some (.inr 16), some (.inl a1), none, some (.inl v6), none, none, none, none, none]) (fun s9 σ10 h => ?_) (fun J7 hJ8 h => ?_) h
    · refine k_istore (lv' := [some (.inr 16), some (.inl a1), none, some (.inl v6), some (.inl s9), none, none, none, none]) d_KReader_spacesOf_75 rfl rfl ?_
      refine k_aload_n d_KReader_spacesOf_77 rfl ?_
      obtain ⟨y11, h⟩ := h
      refine k_getD (x := (σ10.1 16 2)) d_KReader_spacesOf_78 fl_15_150 ob_16 rfl rfl (dyD_pos y11) ?_
      refine k_getR d_KReader_spacesOf_81 fl_15_499 (doc_ob (dyD_doc y11)) (dfr_19 (dyD_doc y11)) ?_
      refine k_iconst d_KReader_spacesOf_84 cI_4 ?_
      refine k_dup2 d_KReader_spacesOf_85 ?_
      obtain ⟨p118, h⟩ := h
      refine k_ild (x := (σ10.2 (rfo (Int.toNat (σ10.1 16 2)) 19) (Int.toNat 4))) d_KReader_spacesOf_86 (drI_19 (dyD_doc y11)) p118 rfl ?_
      refine k_iload d_KReader_spacesOf_87 rfl ?_
      have hV114 : OkI BF L (d + 1) 15 b_KReader_spacesOf 9 0 97 [.inl (if s9 = 0 then (0 : Int) else (1 : Int)), .inl (σ10.2 (rfo (Int.toNat (σ10.1 16 2)) 19) (Int.toNat 4)), .inl 4, .inr (rfo (Int.toNat (σ10.1 16 2)) 19)] [some (.inr 16), some (.inl a1), none, some (.inl v6), some (.inl s9), none, none, none, none] σ10 (qv Q) := by
        obtain ⟨p113, h⟩ := h
        refine k_iadd d_KReader_spacesOf_97 p113 ?_
        obtain ⟨p112, h⟩ := h
        refine k_ist d_KReader_spacesOf_98 (drI_19 (dyD_doc y11)) p112 ?_
        refine k_aload_n d_KReader_spacesOf_99 rfl ?_
        refine k_getD (x := (σ10.1 16 2)) d_KReader_spacesOf_100 fl_15_150 ob_16 rfl rfl (dyD_pos y11) ?_
        refine k_getR d_KReader_spacesOf_103 fl_15_499 (doc_ob (dyD_doc y11)) (dfr_19 (dyD_doc y11)) ?_
        refine k_iconst d_KReader_spacesOf_106 cI_1 ?_
        refine k_dup2 d_KReader_spacesOf_107 ?_
        obtain ⟨p111, h⟩ := h
        refine k_ild (x := ((pr σ10 (rfo (Int.toNat (σ10.1 16 2)) 19) (Int.toNat 4) ((σ10.2 (rfo (Int.toNat (σ10.1 16 2)) 19) (Int.toNat 4)) + (if s9 = 0 then (0 : Int) else (1 : Int)))).2 (rfo (Int.toNat (σ10.1 16 2)) 19) (Int.toNat 1))) d_KReader_spacesOf_108 (drI_19 (dyD_doc y11)) p111 rfl ?_
        refine k_iload_n d_KReader_spacesOf_109 rfl ?_
        refine k_join (S := Int) (pc' := 132) (st' := fun s14 => [.inl s14, .inl ((pr σ10 (rfo (Int.toNat (σ10.1 16 2)) 19) (Int.toNat 4) ((σ10.2 (rfo (Int.toNat (σ10.1 16 2)) 19) (Int.toNat 4)) + (if s9 = 0 then (0 : Int) else (1 : Int)))).2 (rfo (Int.toNat (σ10.1 16 2)) 19) (Int.toNat 1)), .inl 1, .inr (rfo (Int.toNat (σ10.1 16 2)) 19)]) (lv' := fun s14 => [some (.inr 16), some (.inl a1), none, none, none, none, none, none, none]) (fun s14 σ15 h => ?_) (fun J12 hJ13 h => ?_) h
        · obtain ⟨p98, h⟩ := h
          refine k_iadd d_KReader_spacesOf_132 p98 ?_
          obtain ⟨p97, h⟩ := h
          refine k_ist d_KReader_spacesOf_133 (drI_19 (dyD_doc y11)) p97 ?_
          refine k_aload_n d_KReader_spacesOf_134 rfl ?_
          obtain ⟨y16, h⟩ := h
          refine k_getD (x := (σ15.1 16 2)) d_KReader_spacesOf_135 fl_15_150 ob_16 rfl rfl (dyD_pos y16) ?_
          refine k_getR d_KReader_spacesOf_138 fl_15_760 (doc_ob (dyD_doc y16)) (dfr_5 (dyD_doc y16)) ?_
          refine k_iload_n d_KReader_spacesOf_141 rfl ?_
          obtain ⟨p96, h⟩ := h
          refine k_ild (x := ((pr σ15 (rfo (Int.toNat (σ10.1 16 2)) 19) (Int.toNat 1) (((pr σ10 (rfo (Int.toNat (σ10.1 16 2)) 19) (Int.toNat 4) ((σ10.2 (rfo (Int.toNat (σ10.1 16 2)) 19) (Int.toNat 4)) + (if s9 = 0 then (0 : Int) else (1 : Int)))).2 (rfo (Int.toNat (σ10.1 16 2)) 19) (Int.toNat 1)) + s14)).2 (rfo (Int.toNat (σ15.1 16 2)) 5) (Int.toNat a1))) d_KReader_spacesOf_142 (drI_5 (dyD_doc y16)) p96 rfl ?_
          refine k_letI (fun t17 ht18 h => ?_) h
          refine k_istore (lv' := [some (.inr 16), some (.inl a1), none, none, none, some (.inl t17), none, none, none]) d_KReader_spacesOf_143 rfl rfl ?_
          refine k_iload d_KReader_spacesOf_145 rfl ?_
          refine k_istore (lv' := [some (.inr 16), some (.inl a1), none, none, none, some (.inl t17), some (.inl t17), none, none]) d_KReader_spacesOf_147 rfl rfl ?_
          refine k_sb (lv' := [some (.inr 16), some (.inl a1), none, none, none, some (.inl t17), some (.inl t17), none, none]) (sb_s (sb_s (sb_s (sb_s (sb_s (sb_s (sb_s (sb_s (sb_s sb_nil))))))))) ?_
          refine k_loop (S := Int) (st := fun _ => []) (lv := fun s21 => [some (.inr 16), some (.inl a1), none, none, none, some (.inl t17), some (.inl s21), none, none]) (fun K19 hK20 s21 σ22 h => ?_) t17 _ h
          refine k_iload d_KReader_spacesOf_149 rfl ?_
          refine k_iload d_KReader_spacesOf_151 rfl ?_
          refine k_aload_n d_KReader_spacesOf_153 rfl ?_
          obtain ⟨y23, h⟩ := h
          refine k_getD (x := (σ22.1 16 2)) d_KReader_spacesOf_154 fl_15_150 ob_16 rfl rfl (dyD_pos y23) ?_
          refine k_getR d_KReader_spacesOf_157 fl_15_763 (doc_ob (dyD_doc y23)) (dfr_6 (dyD_doc y23)) ?_
          refine k_iload_n d_KReader_spacesOf_160 rfl ?_
          obtain ⟨p95, h⟩ := h
          refine k_ild (x := (σ22.2 (rfo (Int.toNat (σ22.1 16 2)) 6) (Int.toNat a1))) d_KReader_spacesOf_161 (drI_6 (dyD_doc y23)) p95 rfl ?_
          obtain ⟨p94, h⟩ := h
          refine k_iadd d_KReader_spacesOf_162 p94 ?_
          refine k_icge d_KReader_spacesOf_163 rfl (fun c24 => ?_) (fun c24 => ?_)
          · have h := ineg c24 h
            exact k_ret d_KReader_spacesOf_349 h
          · have h := ipos c24 h
            refine k_aload_n d_KReader_spacesOf_166 rfl ?_
            refine k_getD (x := (σ22.1 16 2)) d_KReader_spacesOf_167 fl_15_150 ob_16 rfl rfl (dyD_pos y23) ?_
            refine k_getR d_KReader_spacesOf_170 fl_15_499 (doc_ob (dyD_doc y23)) (dfr_19 (dyD_doc y23)) ?_
            refine k_iconst d_KReader_spacesOf_173 cI_0 ?_
            refine k_dup2 d_KReader_spacesOf_174 ?_
            obtain ⟨p93, h⟩ := h
            refine k_ild (x := (σ22.2 (rfo (Int.toNat (σ22.1 16 2)) 19) (Int.toNat 0))) d_KReader_spacesOf_175 (drI_19 (dyD_doc y23)) p93 rfl ?_
            refine k_aload_n d_KReader_spacesOf_176 rfl ?_
            refine k_getD (x := (σ22.1 16 2)) d_KReader_spacesOf_177 fl_15_150 ob_16 rfl rfl (dyD_pos y23) ?_
            refine k_aload_n d_KReader_spacesOf_180 rfl ?_
            refine k_getD (x := (σ22.1 16 2)) d_KReader_spacesOf_181 fl_15_150 ob_16 rfl rfl (dyD_pos y23) ?_
            refine k_getR d_KReader_spacesOf_184 fl_15_766 (doc_ob (dyD_doc y23)) (dfr_8 (dyD_doc y23)) ?_
            refine k_iload d_KReader_spacesOf_187 rfl ?_
            obtain ⟨p92, h⟩ := h
            refine k_ild (x := (σ22.2 (rfo (Int.toNat (σ22.1 16 2)) 8) (Int.toNat s21))) d_KReader_spacesOf_189 (drI_8 (dyD_doc y23)) p92 rfl ?_
            refine k_cvi [.inl (σ22.2 (rfo (Int.toNat (σ22.1 16 2)) 8) (Int.toNat s21))] d_KReader_spacesOf_190 ml_15_842 rfl rfl (doc_ob (dyD_doc y23)) rfl (s_KDoc_colon hL (by omega) (dyD_doc y23) h) (fun v26 σ25 h => ?_)
            refine k_bipush d_KReader_spacesOf_193 cB_m2 ?_
            have hV88 : OkI BF L (d + 1) 15 b_KReader_spacesOf 9 0 203 [.inl (if v26 = (-2) then (1 : Int) else (0 : Int)), .inl (σ22.2 (rfo (Int.toNat (σ22.1 16 2)) 19) (Int.toNat 0)), .inl 0, .inr (rfo (Int.toNat (σ22.1 16 2)) 19)] [some (.inr 16), some (.inl a1), none, none, none, some (.inl t17), some (.inl s21), none, none] σ25 (qv Q) := by
              obtain ⟨p87, h⟩ := h
              refine k_iadd d_KReader_spacesOf_203 p87 ?_
              obtain ⟨p86, h⟩ := h
              refine k_ist d_KReader_spacesOf_204 (drI_19 (dyD_doc y23)) p86 ?_
              refine k_aload_n d_KReader_spacesOf_205 rfl ?_
              obtain ⟨y27, h⟩ := h
              refine k_getD (x := (σ25.1 16 2)) d_KReader_spacesOf_206 fl_15_150 ob_16 rfl rfl (dyD_pos y27) ?_
              refine k_iload d_KReader_spacesOf_209 rfl ?_
              refine k_cvi [.inl s21] d_KReader_spacesOf_211 ml_15_848 rfl rfl (doc_ob (dyD_doc y27)) rfl (s_KDoc_isDeclaration hL (by omega) (dyD_doc y27) h) (fun v29 σ28 h => ?_)
              refine k_join (S := Unit) (pc' := 343) (st' := fun s32 => []) (lv' := fun s32 => [some (.inr 16), some (.inl a1), none, none, none, some (.inl t17), some (.inl s21), none, none]) (fun s32 σ33 h => ?_) (fun J30 hJ31 h => ?_) h
              · obtain ⟨p34, h⟩ := h
                refine k_iinc (lv' := [some (.inr 16), some (.inl a1), none, none, none, some (.inl t17), some (.inl (s21 + 1)), none, none]) d_KReader_spacesOf_343 cI_1 rfl rfl p34 rfl ?_
                refine k_goto d_KReader_spacesOf_346 rfl ?_
                exact k_sb (sb_s (sb_s (sb_s (sb_s (sb_s (sb_s (sb_s (sb_s (sb_s sb_nil))))))))) (hK20 (s21 + 1) _ h)
              · refine k_ifeq d_KReader_spacesOf_214 rfl (fun c35 => ?_) (fun c35 => ?_)
                · have h := ipos c35 h
                  refine k_aload_n d_KReader_spacesOf_246 rfl ?_
                  obtain ⟨y36, h⟩ := h
                  refine k_getD (x := (σ28.1 16 2)) d_KReader_spacesOf_247 fl_15_150 ob_16 rfl rfl (dyD_pos y36) ?_
                  refine k_getR d_KReader_spacesOf_250 fl_15_784 (doc_ob (dyD_doc y36)) (dfr_12 (dyD_doc y36)) ?_
                  refine k_iload d_KReader_spacesOf_253 rfl ?_
                  obtain ⟨p75, h⟩ := h
                  refine k_ild (x := (σ28.2 (rfo (Int.toNat (σ28.1 16 2)) 12) (Int.toNat s21))) d_KReader_spacesOf_255 (drI_12 (dyD_doc y36)) p75 rfl ?_
                  refine k_istore (lv' := [some (.inr 16), some (.inl a1), none, none, none, some (.inl t17), some (.inl s21), some (.inl (σ28.2 (rfo (Int.toNat (σ28.1 16 2)) 12) (Int.toNat s21))), none]) d_KReader_spacesOf_256 rfl rfl ?_
                  refine k_iload d_KReader_spacesOf_258 rfl ?_
                  refine k_join (S := Int) (pc' := 278) (st' := fun s39 => [.inl s39]) (lv' := fun s39 => [some (.inr 16), some (.inl a1), none, none, none, some (.inl t17), some (.inl s21), some (.inl (σ28.2 (rfo (Int.toNat (σ28.1 16 2)) 12) (Int.toNat s21))), none]) (fun s39 σ40 h => ?_) (fun J37 hJ38 h => ?_) h
                  · refine k_istore (lv' := [some (.inr 16), some (.inl a1), none, none, none, some (.inl t17), some (.inl s21), some (.inl (σ28.2 (rfo (Int.toNat (σ28.1 16 2)) 12) (Int.toNat s21))), some (.inl s39)]) d_KReader_spacesOf_278 rfl rfl ?_
                    refine k_aload_n d_KReader_spacesOf_280 rfl ?_
                    obtain ⟨y41, h⟩ := h
                    refine k_getD (x := (σ40.1 16 2)) d_KReader_spacesOf_281 fl_15_150 ob_16 rfl rfl (dyD_pos y41) ?_
                    refine k_getR d_KReader_spacesOf_284 fl_15_499 (doc_ob (dyD_doc y41)) (dfr_19 (dyD_doc y41)) ?_
                    refine k_iconst d_KReader_spacesOf_287 cI_1 ?_
                    refine k_dup2 d_KReader_spacesOf_288 ?_
                    obtain ⟨p66, h⟩ := h
                    refine k_ild (x := (σ40.2 (rfo (Int.toNat (σ40.1 16 2)) 19) (Int.toNat 1))) d_KReader_spacesOf_289 (drI_19 (dyD_doc y41)) p66 rfl ?_
                    refine k_iload d_KReader_spacesOf_290 rfl ?_
                    have hV59 : OkI BF L (d + 1) 15 b_KReader_spacesOf 9 0 305 [.inl (if (σ28.2 (rfo (Int.toNat (σ28.1 16 2)) 12) (Int.toNat s21)) < 0 then (0 : Int) else (if s39 = 0 then (1 : Int) else (0 : Int))), .inl (σ40.2 (rfo (Int.toNat (σ40.1 16 2)) 19) (Int.toNat 1)), .inl 1, .inr (rfo (Int.toNat (σ40.1 16 2)) 19)] [some (.inr 16), some (.inl a1), none, none, none, some (.inl t17), some (.inl s21), some (.inl (σ28.2 (rfo (Int.toNat (σ28.1 16 2)) 12) (Int.toNat s21))), some (.inl s39)] σ40 (qv Q) := by
                      obtain ⟨p58, h⟩ := h
                      refine k_iadd d_KReader_spacesOf_305 p58 ?_
                      obtain ⟨p57, h⟩ := h
                      refine k_ist d_KReader_spacesOf_306 (drI_19 (dyD_doc y41)) p57 ?_
                      refine k_aload_n d_KReader_spacesOf_307 rfl ?_
                      refine k_getD (x := (σ40.1 16 2)) d_KReader_spacesOf_308 fl_15_150 ob_16 rfl rfl (dyD_pos y41) ?_
                      refine k_getR d_KReader_spacesOf_311 fl_15_499 (doc_ob (dyD_doc y41)) (dfr_19 (dyD_doc y41)) ?_
                      refine k_iconst d_KReader_spacesOf_314 cI_2 ?_
                      refine k_dup2 d_KReader_spacesOf_315 ?_
                      obtain ⟨p56, h⟩ := h
                      refine k_ild (x := ((pr σ40 (rfo (Int.toNat (σ40.1 16 2)) 19) (Int.toNat 1) ((σ40.2 (rfo (Int.toNat (σ40.1 16 2)) 19) (Int.toNat 1)) + (if (σ28.2 (rfo (Int.toNat (σ28.1 16 2)) 12) (Int.toNat s21)) < 0 then (0 : Int) else (if s39 = 0 then (1 : Int) else (0 : Int))))).2 (rfo (Int.toNat (σ40.1 16 2)) 19) (Int.toNat 2))) d_KReader_spacesOf_316 (drI_19 (dyD_doc y41)) p56 rfl ?_
                      refine k_iload d_KReader_spacesOf_317 rfl ?_
                      refine k_join (S := Int) (pc' := 341) (st' := fun s44 => [.inl s44, .inl ((pr σ40 (rfo (Int.toNat (σ40.1 16 2)) 19) (Int.toNat 1) ((σ40.2 (rfo (Int.toNat (σ40.1 16 2)) 19) (Int.toNat 1)) + (if (σ28.2 (rfo (Int.toNat (σ28.1 16 2)) 12) (Int.toNat s21)) < 0 then (0 : Int) else (if s39 = 0 then (1 : Int) else (0 : Int))))).2 (rfo (Int.toNat (σ40.1 16 2)) 19) (Int.toNat 2)), .inl 2, .inr (rfo (Int.toNat (σ40.1 16 2)) 19)]) (lv' := fun s44 => [some (.inr 16), some (.inl a1), none, none, none, some (.inl t17), some (.inl s21), none, none]) (fun s44 σ45 h => ?_) (fun J42 hJ43 h => ?_) h
                      · obtain ⟨p47, h⟩ := h
                        refine k_iadd d_KReader_spacesOf_341 p47 ?_
                        obtain ⟨p46, h⟩ := h
                        refine k_ist d_KReader_spacesOf_342 (drI_19 (dyD_doc y41)) p46 ?_
                        exact k_sb (sb_s (sb_s (sb_s (sb_s (sb_s (sb_s (sb_s (sb_s (sb_s sb_nil))))))))) (hJ31 () _ h)
                      · refine k_join (S := Unit) (pc' := 340) (st' := fun s50 => [.inl ((pr σ40 (rfo (Int.toNat (σ40.1 16 2)) 19) (Int.toNat 1) ((σ40.2 (rfo (Int.toNat (σ40.1 16 2)) 19) (Int.toNat 1)) + (if (σ28.2 (rfo (Int.toNat (σ28.1 16 2)) 12) (Int.toNat s21)) < 0 then (0 : Int) else (if s39 = 0 then (1 : Int) else (0 : Int))))).2 (rfo (Int.toNat (σ40.1 16 2)) 19) (Int.toNat 2)), .inl 2, .inr (rfo (Int.toNat (σ40.1 16 2)) 19)]) (lv' := fun s50 => [some (.inr 16), some (.inl a1), none, none, none, some (.inl t17), some (.inl s21), none, none]) (fun s50 σ51 h => ?_) (fun J48 hJ49 h => ?_) h
                        · refine k_iconst d_KReader_spacesOf_340 cI_0 ?_
                          exact k_sb (sb_s (sb_s (sb_s (sb_s (sb_s (sb_s (sb_s (sb_s (sb_s sb_nil))))))))) (hJ43 0 _ h)
                        · refine k_ifeq d_KReader_spacesOf_319 rfl (fun c52 => ?_) (fun c52 => ?_)
                          · have h := ipos c52 h
                            exact k_sb (sb_s (sb_s (sb_s (sb_s (sb_s (sb_s (sb_s (sb_n (sb_n sb_nil))))))))) (hJ49 () _ h)
                          · have h := ineg c52 h
                            refine k_aload_n d_KReader_spacesOf_322 rfl ?_
                            refine k_iload_n d_KReader_spacesOf_323 rfl ?_
                            refine k_iload d_KReader_spacesOf_324 rfl ?_
                            refine k_iload d_KReader_spacesOf_326 rfl ?_
                            refine k_iload d_KReader_spacesOf_328 rfl ?_
                            refine k_cvi [.inl a1, .inl t17, .inl s21, .inl (σ28.2 (rfo (Int.toNat (σ28.1 16 2)) 12) (Int.toNat s21))] d_KReader_spacesOf_330 ml_15_854 rfl rfl ob_16 rfl (s_KReader_hasTwin hL (by omega)  h) (fun v54 σ53 h => ?_)
                            refine k_ifeq d_KReader_spacesOf_333 rfl (fun c55 => ?_) (fun c55 => ?_)
                            · have h := ipos c55 h
                              exact k_sb (sb_s (sb_s (sb_s (sb_s (sb_s (sb_s (sb_s (sb_n (sb_n sb_nil))))))))) (hJ49 () _ h)
                            · have h := ineg c55 h
                              refine k_iconst d_KReader_spacesOf_336 cI_1 ?_
                              refine k_goto d_KReader_spacesOf_337 rfl ?_
                              exact k_sb (sb_s (sb_s (sb_s (sb_s (sb_s (sb_s (sb_s (sb_n (sb_n sb_nil))))))))) (hJ43 1 _ h)
                    refine k_iflt d_KReader_spacesOf_292 rfl (fun c60 => ?_) (fun c60 => ?_)
                    · have hV61 := k_eqI (if_pos c60) hV59
                      refine k_iconst d_KReader_spacesOf_304 cI_0 ?_
                      exact hV61
                    · have hV62 := k_eqI (if_neg c60) hV59
                      refine k_iload d_KReader_spacesOf_295 rfl ?_
                      refine k_ifne d_KReader_spacesOf_297 rfl (fun c63 => ?_) (fun c63 => ?_)
                      · have hV65 := k_eqI (if_neg c63) hV62
                        refine k_iconst d_KReader_spacesOf_304 cI_0 ?_
                        exact hV65
                      · have hV64 := k_eqI (if_pos c63) hV62
                        refine k_iconst d_KReader_spacesOf_300 cI_1 ?_
                        refine k_goto d_KReader_spacesOf_301 rfl ?_
                        exact hV64
                  · refine k_join (S := Unit) (pc' := 277) (st' := fun s69 => []) (lv' := fun s69 => [some (.inr 16), some (.inl a1), none, none, none, some (.inl t17), some (.inl s21), some (.inl (σ28.2 (rfo (Int.toNat (σ28.1 16 2)) 12) (Int.toNat s21))), none]) (fun s69 σ70 h => ?_) (fun J67 hJ68 h => ?_) h
                    · refine k_iconst d_KReader_spacesOf_277 cI_0 ?_
                      exact k_sb (sb_s (sb_s (sb_s (sb_s (sb_s (sb_s (sb_s (sb_s (sb_s sb_nil))))))))) (hJ38 0 _ h)
                    · refine k_iflt d_KReader_spacesOf_260 rfl (fun c71 => ?_) (fun c71 => ?_)
                      · have h := ipos c71 h
                        exact k_sb (sb_s (sb_s (sb_s (sb_s (sb_s (sb_s (sb_s (sb_s (sb_s sb_nil))))))))) (hJ68 () _ h)
                      · have h := ineg c71 h
                        refine k_aload_n d_KReader_spacesOf_263 rfl ?_
                        refine k_iload_n d_KReader_spacesOf_264 rfl ?_
                        refine k_iload d_KReader_spacesOf_265 rfl ?_
                        refine k_cvi [.inl a1, .inl (σ28.2 (rfo (Int.toNat (σ28.1 16 2)) 12) (Int.toNat s21))] d_KReader_spacesOf_267 ml_15_845 rfl rfl ob_16 rfl (s_KReader_means hL (by omega)  h) (fun v73 σ72 h => ?_)
                        refine k_ifeq d_KReader_spacesOf_270 rfl (fun c74 => ?_) (fun c74 => ?_)
                        · have h := ipos c74 h
                          exact k_sb (sb_s (sb_s (sb_s (sb_s (sb_s (sb_s (sb_s (sb_s (sb_s sb_nil))))))))) (hJ68 () _ h)
                        · have h := ineg c74 h
                          refine k_iconst d_KReader_spacesOf_273 cI_1 ?_
                          refine k_goto d_KReader_spacesOf_274 rfl ?_
                          exact k_sb (sb_s (sb_s (sb_s (sb_s (sb_s (sb_s (sb_s (sb_s (sb_s sb_nil))))))))) (hJ38 1 _ h)
                · have h := ineg c35 h
                  refine k_aload_n d_KReader_spacesOf_217 rfl ?_
                  obtain ⟨y76, h⟩ := h
                  refine k_getD (x := (σ28.1 16 2)) d_KReader_spacesOf_218 fl_15_150 ob_16 rfl rfl (dyD_pos y76) ?_
                  refine k_getR d_KReader_spacesOf_221 fl_15_499 (doc_ob (dyD_doc y76)) (dfr_19 (dyD_doc y76)) ?_
                  refine k_iconst d_KReader_spacesOf_224 cI_3 ?_
                  refine k_dup2 d_KReader_spacesOf_225 ?_
                  obtain ⟨p85, h⟩ := h
                  refine k_ild (x := (σ28.2 (rfo (Int.toNat (σ28.1 16 2)) 19) (Int.toNat 3))) d_KReader_spacesOf_226 (drI_19 (dyD_doc y76)) p85 rfl ?_
                  refine k_aload_n d_KReader_spacesOf_227 rfl ?_
                  refine k_iload d_KReader_spacesOf_228 rfl ?_
                  refine k_cvi [.inl s21] d_KReader_spacesOf_230 ml_15_851 rfl rfl ob_16 rfl (s_KReader_isWrong hL (by omega)  h) (fun v78 σ77 h => ?_)
                  have hV81 : OkI BF L (d + 1) 15 b_KReader_spacesOf 9 0 241 [.inl (if v78 = 0 then (0 : Int) else (1 : Int)), .inl (σ28.2 (rfo (Int.toNat (σ28.1 16 2)) 19) (Int.toNat 3)), .inl 3, .inr (rfo (Int.toNat (σ28.1 16 2)) 19)] [some (.inr 16), some (.inl a1), none, none, none, some (.inl t17), some (.inl s21), none, none] σ77 (qv Q) := by
                    obtain ⟨p80, h⟩ := h
                    refine k_iadd d_KReader_spacesOf_241 p80 ?_
                    obtain ⟨p79, h⟩ := h
                    refine k_ist d_KReader_spacesOf_242 (drI_19 (dyD_doc y76)) p79 ?_
                    refine k_goto d_KReader_spacesOf_243 rfl ?_
                    exact k_sb (sb_s (sb_s (sb_s (sb_s (sb_s (sb_s (sb_s (sb_s (sb_s sb_nil))))))))) (hJ31 () _ h)
                  refine k_ifeq d_KReader_spacesOf_233 rfl (fun c82 => ?_) (fun c82 => ?_)
                  · have hV83 := k_eqI (if_pos c82) hV81
                    refine k_iconst d_KReader_spacesOf_240 cI_0 ?_
                    exact hV83
                  · have hV84 := k_eqI (if_neg c82) hV81
                    refine k_iconst d_KReader_spacesOf_236 cI_1 ?_
                    refine k_goto d_KReader_spacesOf_237 rfl ?_
                    exact hV84
            refine k_icne d_KReader_spacesOf_195 rfl (fun c89 => ?_) (fun c89 => ?_)
            · have hV91 := k_eqI (if_neg c89) hV88
              refine k_iconst d_KReader_spacesOf_202 cI_0 ?_
              exact hV91
            · have hV90 := k_eqI (if_pos c89) hV88
              refine k_iconst d_KReader_spacesOf_198 cI_1 ?_
              refine k_goto d_KReader_spacesOf_199 rfl ?_
              exact hV90
        · refine k_join (S := Unit) (pc' := 131) (st' := fun s101 => [.inl ((pr σ10 (rfo (Int.toNat (σ10.1 16 2)) 19) (Int.toNat 4) ((σ10.2 (rfo (Int.toNat (σ10.1 16 2)) 19) (Int.toNat 4)) + (if s9 = 0 then (0 : Int) else (1 : Int)))).2 (rfo (Int.toNat (σ10.1 16 2)) 19) (Int.toNat 1)), .inl 1, .inr (rfo (Int.toNat (σ10.1 16 2)) 19)]) (lv' := fun s101 => [some (.inr 16), some (.inl a1), none, none, none, none, none, none, none]) (fun s101 σ102 h => ?_) (fun J99 hJ100 h => ?_) h
          · refine k_iconst d_KReader_spacesOf_131 cI_0 ?_
            exact k_sb (sb_s (sb_s (sb_s (sb_s (sb_s (sb_s (sb_s (sb_s (sb_s sb_nil))))))))) (hJ13 0 _ h)
          · have hX106 : (¬ v6 < 0 ∧ (s9 = 0)) → OkI BF L (d + 1) 15 b_KReader_spacesOf 9 0 118 [.inl ((pr σ10 (rfo (Int.toNat (σ10.1 16 2)) 19) (Int.toNat 4) ((σ10.2 (rfo (Int.toNat (σ10.1 16 2)) 19) (Int.toNat 4)) + (if s9 = 0 then (0 : Int) else (1 : Int)))).2 (rfo (Int.toNat (σ10.1 16 2)) 19) (Int.toNat 1)), .inl 1, .inr (rfo (Int.toNat (σ10.1 16 2)) 19)] [some (.inr 16), some (.inl a1), none, some (.inl v6), some (.inl s9), none, none, none, none] (pr σ10 (rfo (Int.toNat (σ10.1 16 2)) 19) (Int.toNat 4) ((σ10.2 (rfo (Int.toNat (σ10.1 16 2)) 19) (Int.toNat 4)) + (if s9 = 0 then (0 : Int) else (1 : Int)))) (qv Q) := fun e108 => by
              have h := ipos e108 h
              refine k_aload_n d_KReader_spacesOf_118 rfl ?_
              refine k_iload_n d_KReader_spacesOf_119 rfl ?_
              refine k_iload_n d_KReader_spacesOf_120 rfl ?_
              refine k_cvi [.inl a1, .inl v6] d_KReader_spacesOf_121 ml_15_845 rfl rfl ob_16 rfl (s_KReader_means hL (by omega)  h) (fun v104 σ103 h => ?_)
              refine k_ifne d_KReader_spacesOf_124 rfl (fun c105 => ?_) (fun c105 => ?_)
              · have h := ineg c105 h
                exact k_sb (sb_s (sb_s (sb_s (sb_n (sb_n (sb_s (sb_s (sb_s (sb_s sb_nil))))))))) (hJ100 () _ h)
              · have h := ipos c105 h
                refine k_iconst d_KReader_spacesOf_127 cI_1 ?_
                refine k_goto d_KReader_spacesOf_128 rfl ?_
                exact k_sb (sb_s (sb_s (sb_s (sb_n (sb_n (sb_s (sb_s (sb_s (sb_s sb_nil))))))))) (hJ13 1 _ h)
            have hY107 : ¬ (¬ v6 < 0 ∧ (s9 = 0)) → OkI BF L (d + 1) 15 b_KReader_spacesOf 9 0 131 [.inl ((pr σ10 (rfo (Int.toNat (σ10.1 16 2)) 19) (Int.toNat 4) ((σ10.2 (rfo (Int.toNat (σ10.1 16 2)) 19) (Int.toNat 4)) + (if s9 = 0 then (0 : Int) else (1 : Int)))).2 (rfo (Int.toNat (σ10.1 16 2)) 19) (Int.toNat 1)), .inl 1, .inr (rfo (Int.toNat (σ10.1 16 2)) 19)] [some (.inr 16), some (.inl a1), none, some (.inl v6), some (.inl s9), none, none, none, none] (pr σ10 (rfo (Int.toNat (σ10.1 16 2)) 19) (Int.toNat 4) ((σ10.2 (rfo (Int.toNat (σ10.1 16 2)) 19) (Int.toNat 4)) + (if s9 = 0 then (0 : Int) else (1 : Int)))) (qv Q) := fun e108 => by
              have h := ineg e108 h
              exact k_sb (sb_s (sb_s (sb_s (sb_n (sb_n (sb_s (sb_s (sb_s (sb_s sb_nil))))))))) (hJ100 () _ h)
            refine k_iflt d_KReader_spacesOf_110 rfl (fun c109 => ?_) (fun c109 => ?_)
            · exact hY107 (fun z => z.1 c109)
            · refine k_iload d_KReader_spacesOf_113 rfl ?_
              refine k_ifne d_KReader_spacesOf_115 rfl (fun c110 => ?_) (fun c110 => ?_)
              · exact hY107 (fun z => (c110) z.2)
              · exact hX106 (⟨c109, c110⟩)
      refine k_ifeq d_KReader_spacesOf_89 rfl (fun c115 => ?_) (fun c115 => ?_)
      · have hV116 := k_eqI (if_pos c115) hV114
        refine k_iconst d_KReader_spacesOf_96 cI_0 ?_
        exact hV116
      · have hV117 := k_eqI (if_neg c115) hV114
        refine k_iconst d_KReader_spacesOf_92 cI_1 ?_
        refine k_goto d_KReader_spacesOf_93 rfl ?_
        exact hV117
    · refine k_join (S := Unit) (pc' := 74) (st' := fun s121 => []) (lv' := fun s121 => [some (.inr 16), some (.inl a1), none, some (.inl v6), none, none, none, none, none]) (fun s121 σ122 h => ?_) (fun J119 hJ120 h => ?_) h
      · refine k_iconst d_KReader_spacesOf_74 cI_0 ?_
        exact k_sb (sb_s (sb_s (sb_s (sb_s (sb_s (sb_s (sb_s (sb_s (sb_s sb_nil))))))))) (hJ8 0 _ h)
      · refine k_iflt d_KReader_spacesOf_50 rfl (fun c123 => ?_) (fun c123 => ?_)
        · have h := ipos c123 h
          exact k_sb (sb_s (sb_s (sb_n (sb_s (sb_s (sb_s (sb_s (sb_s (sb_s sb_nil))))))))) (hJ120 () _ h)
        · have h := ineg c123 h
          refine k_aload_n d_KReader_spacesOf_53 rfl ?_
          obtain ⟨y124, h⟩ := h
          refine k_getD (x := (σ5.1 16 2)) d_KReader_spacesOf_54 fl_15_150 ob_16 rfl rfl (dyD_pos y124) ?_
          refine k_getR d_KReader_spacesOf_57 fl_15_227 (doc_ob (dyD_doc y124)) (dfr_0 (dyD_doc y124)) ?_
          refine k_iload_n d_KReader_spacesOf_60 rfl ?_
          refine k_ldcw d_KReader_spacesOf_61 ks_15_829 rfl ?_
          refine k_cvi [.inl v6, .inr 1153] d_KReader_spacesOf_64 ml_15_828 rfl rfl ob_13 rfl (s_KBook_says hL (by omega) it_1153 h) (fun v126 σ125 h => ?_)
          refine k_ifeq d_KReader_spacesOf_67 rfl (fun c127 => ?_) (fun c127 => ?_)
          · have h := ipos c127 h
            exact k_sb (sb_s (sb_s (sb_n (sb_s (sb_s (sb_s (sb_s (sb_s (sb_s sb_nil))))))))) (hJ120 () _ h)
          · have h := ineg c127 h
            refine k_iconst d_KReader_spacesOf_70 cI_1 ?_
            refine k_goto d_KReader_spacesOf_71 rfl ?_
            exact k_sb (sb_s (sb_s (sb_n (sb_s (sb_s (sb_s (sb_s (sb_s (sb_s sb_nil))))))))) (hJ8 1 _ h)
  refine k_icne d_KReader_spacesOf_30 rfl (fun c131 => ?_) (fun c131 => ?_)
  · have hV133 := k_eqI (if_neg c131) hV130
    refine k_iconst d_KReader_spacesOf_37 cI_0 ?_
    exact hV133
  · have hV132 := k_eqI (if_pos c131) hV130
    refine k_iconst d_KReader_spacesOf_33 cI_1 ?_
    refine k_goto d_KReader_spacesOf_34 rfl ?_
    exact hV132
theorem d_KReader_finish_0 : decode b_KReader_finish 0 = .ok (.aload_n 0, 1) := by decide +kernel
theorem d_KReader_finish_1 : decode b_KReader_finish 1 = .ok (.getfield 184, 3) := by decide +kernel
theorem d_KReader_finish_4 : decode b_KReader_finish 4 = .ok (.ifCond .ne 40, 3) := by decide +kernel
theorem d_KReader_finish_7 : decode b_KReader_finish 7 = .ok (.iconst 1, 1) := by decide +kernel
theorem d_KReader_finish_8 : decode b_KReader_finish 8 = .ok (.istore_n 1, 1) := by decide +kernel
theorem d_KReader_finish_9 : decode b_KReader_finish 9 = .ok (.iload_n 1, 1) := by decide +kernel
theorem d_KReader_finish_10 : decode b_KReader_finish 10 = .ok (.bipush 23, 2) := by decide +kernel
theorem d_KReader_finish_12 : decode b_KReader_finish 12 = .ok (.if_icmp .ge 19, 3) := by decide +kernel
theorem d_KReader_finish_15 : decode b_KReader_finish 15 = .ok (.aload_n 0, 1) := by decide +kernel
theorem d_KReader_finish_16 : decode b_KReader_finish 16 = .ok (.getfield 150, 3) := by decide +kernel
theorem d_KReader_finish_19 : decode b_KReader_finish 19 = .ok (.getfield 561, 3) := by decide +kernel
theorem d_KReader_finish_22 : decode b_KReader_finish 22 = .ok (.iload_n 1, 1) := by decide +kernel
theorem d_KReader_finish_23 : decode b_KReader_finish 23 = .ok (.iconst 0, 1) := by decide +kernel
theorem d_KReader_finish_24 : decode b_KReader_finish 24 = .ok (.iastore, 1) := by decide +kernel
theorem d_KReader_finish_25 : decode b_KReader_finish 25 = .ok (.iinc 1 1, 3) := by decide +kernel
theorem d_KReader_finish_28 : decode b_KReader_finish 28 = .ok (.goto (-19), 3) := by decide +kernel
theorem d_KReader_finish_31 : decode b_KReader_finish 31 = .ok (.aload_n 0, 1) := by decide +kernel
theorem d_KReader_finish_32 : decode b_KReader_finish 32 = .ok (.getfield 150, 3) := by decide +kernel
theorem d_KReader_finish_35 : decode b_KReader_finish 35 = .ok (.getfield 561, 3) := by decide +kernel
theorem d_KReader_finish_38 : decode b_KReader_finish 38 = .ok (.iconst 0, 1) := by decide +kernel
theorem d_KReader_finish_39 : decode b_KReader_finish 39 = .ok (.iconst 1, 1) := by decide +kernel
theorem d_KReader_finish_40 : decode b_KReader_finish 40 = .ok (.iastore, 1) := by decide +kernel
theorem d_KReader_finish_41 : decode b_KReader_finish 41 = .ok (.goto 41, 3) := by decide +kernel
theorem d_KReader_finish_44 : decode b_KReader_finish 44 = .ok (.aload_n 0, 1) := by decide +kernel
theorem d_KReader_finish_45 : decode b_KReader_finish 45 = .ok (.getfield 150, 3) := by decide +kernel
theorem d_KReader_finish_48 : decode b_KReader_finish 48 = .ok (.getfield 561, 3) := by decide +kernel
theorem d_KReader_finish_51 : decode b_KReader_finish 51 = .ok (.iconst 1, 1) := by decide +kernel
theorem d_KReader_finish_52 : decode b_KReader_finish 52 = .ok (.aload_n 0, 1) := by decide +kernel
theorem d_KReader_finish_53 : decode b_KReader_finish 53 = .ok (.getfield 150, 3) := by decide +kernel
theorem d_KReader_finish_56 : decode b_KReader_finish 56 = .ok (.getfield 738, 3) := by decide +kernel
theorem d_KReader_finish_59 : decode b_KReader_finish 59 = .ok (.iconst 0, 1) := by decide +kernel
theorem d_KReader_finish_60 : decode b_KReader_finish 60 = .ok (.iaload, 1) := by decide +kernel
theorem d_KReader_finish_61 : decode b_KReader_finish 61 = .ok (.aload_n 0, 1) := by decide +kernel
theorem d_KReader_finish_62 : decode b_KReader_finish 62 = .ok (.getfield 197, 3) := by decide +kernel
theorem d_KReader_finish_65 : decode b_KReader_finish 65 = .ok (.if_icmp .ne 7, 3) := by decide +kernel
theorem d_KReader_finish_68 : decode b_KReader_finish 68 = .ok (.iconst 0, 1) := by decide +kernel
theorem d_KReader_finish_69 : decode b_KReader_finish 69 = .ok (.goto 4, 3) := by decide +kernel
theorem d_KReader_finish_72 : decode b_KReader_finish 72 = .ok (.iconst 1, 1) := by decide +kernel
theorem d_KReader_finish_73 : decode b_KReader_finish 73 = .ok (.iastore, 1) := by decide +kernel
theorem d_KReader_finish_74 : decode b_KReader_finish 74 = .ok (.aload_n 0, 1) := by decide +kernel
theorem d_KReader_finish_75 : decode b_KReader_finish 75 = .ok (.invokevirtual 813, 3) := by decide +kernel
theorem d_KReader_finish_78 : decode b_KReader_finish 78 = .ok (.aload_n 0, 1) := by decide +kernel
theorem d_KReader_finish_79 : decode b_KReader_finish 79 = .ok (.invokevirtual 815, 3) := by decide +kernel
theorem d_KReader_finish_82 : decode b_KReader_finish 82 = .ok (.iconst 0, 1) := by decide +kernel
theorem d_KReader_finish_83 : decode b_KReader_finish 83 = .ok (.istore_n 1, 1) := by decide +kernel
theorem d_KReader_finish_84 : decode b_KReader_finish 84 = .ok (.iload_n 1, 1) := by decide +kernel
theorem d_KReader_finish_85 : decode b_KReader_finish 85 = .ok (.aload_n 0, 1) := by decide +kernel
theorem d_KReader_finish_86 : decode b_KReader_finish 86 = .ok (.getfield 150, 3) := by decide +kernel
theorem d_KReader_finish_89 : decode b_KReader_finish 89 = .ok (.getfield 745, 3) := by decide +kernel
theorem d_KReader_finish_92 : decode b_KReader_finish 92 = .ok (.if_icmp .ge 14, 3) := by decide +kernel
theorem d_KReader_finish_95 : decode b_KReader_finish 95 = .ok (.aload_n 0, 1) := by decide +kernel
theorem d_KReader_finish_96 : decode b_KReader_finish 96 = .ok (.iload_n 1, 1) := by decide +kernel
theorem d_KReader_finish_97 : decode b_KReader_finish 97 = .ok (.invokevirtual 818, 3) := by decide +kernel
theorem d_KReader_finish_100 : decode b_KReader_finish 100 = .ok (.iinc 1 1, 3) := by decide +kernel
theorem d_KReader_finish_103 : decode b_KReader_finish 103 = .ok (.goto (-19), 3) := by decide +kernel
theorem d_KReader_finish_106 : decode b_KReader_finish 106 = .ok (.return_, 1) := by decide +kernel
/-- KReader_finish -/
def w_KReader_finish (L : Nat → Nat)  (Q : IS → Prop) (σ : IS) : Prop := WJ (fun (s3 : Unit) (σ4 : IS) => WL (fun (K5 : Int → IS → Prop) (s7 : Int) (σ8 : IS) => dyD (σ8.1 16 2) ∧ if s7 < (σ8.1 (Int.toNat (σ8.1 16 2)) 7) then w_KReader_spacesOf L s7 (fun σ11 => inR (s7 + 1) ∧ K5 (s7 + 1) σ11) σ8 else Q σ8) 0 σ4) (fun J1 => if (σ.1 16 20) = 0 then WL (fun (K26 : Int → IS → Prop) (s28 : Int) (σ29 : IS) => if s28 < 23 then dyD (σ29.1 16 2) ∧ inL L (rfo (Int.toNat (σ29.1 16 2)) 18) s28 ∧ inR (s28 + 1) ∧ K26 (s28 + 1) (pr σ29 (rfo (Int.toNat (σ29.1 16 2)) 18) (Int.toNat s28) 0) else dyD (σ29.1 16 2) ∧ inL L (rfo (Int.toNat (σ29.1 16 2)) 18) 0 ∧ J1 () (pr σ29 (rfo (Int.toNat (σ29.1 16 2)) 18) (Int.toNat 0) 1)) 1 σ else dyD (σ.1 16 2) ∧ inL L (rfo (Int.toNat (σ.1 16 2)) 3) 0 ∧ inL L (rfo (Int.toNat (σ.1 16 2)) 18) 1 ∧ w_KReader_lists L  (fun σ16 => w_KReader_identities L  (fun σ18 => J1 () σ18) σ16) (pr σ (rfo (Int.toNat (σ.1 16 2)) 18) (Int.toNat 1) (if (σ.2 (rfo (Int.toNat (σ.1 16 2)) 3) (Int.toNat 0)) = (σ.1 16 24) then (0 : Int) else (1 : Int))))
set_option maxHeartbeats 4000000 in
set_option maxRecDepth 20000 in
theorem s_KReader_finish {L : Nat → Nat} (hL : ∀ r, L r < 2147483648) {d : Nat} (hd : 8 ≤ d)  {Q : IS → Prop} {σ : IS}  (h : w_KReader_finish L  Q σ) : OkI BF L d 15 b_KReader_finish 2 0 0 [] [some (.inr 16)] σ (qv Q) := by
  unfold w_KReader_finish at h
  obtain ⟨d, rfl⟩ : ∃ e, d = e + 1 := ⟨d - 1, by omega⟩
  refine k_sb (lv' := [some (.inr 16), none]) (sb_s (sb_e sb_nil)) ?_
  refine k_aload_n d_KReader_finish_0 rfl ?_
  refine k_getI (x := (σ.1 16 20)) d_KReader_finish_1 fl_15_184 ob_16 rfl rfl ?_
  refine k_join (S := Unit) (pc' := 82) (st' := fun s3 => []) (lv' := fun s3 => [some (.inr 16), none]) (fun s3 σ4 h => ?_) (fun J1 hJ2 h => ?_) h
  · refine k_iconst d_KReader_finish_82 cI_0 ?_
    refine k_istore_n (lv' := [some (.inr 16), some (.inl 0)]) d_KReader_finish_83 rfl rfl ?_
    refine k_sb (lv' := [some (.inr 16), some (.inl 0)]) (sb_s (sb_s sb_nil)) ?_
    refine k_loop (S := Int) (st := fun _ => []) (lv := fun s7 => [some (.inr 16), some (.inl s7)]) (fun K5 hK6 s7 σ8 h => ?_) 0 _ h
    refine k_iload_n d_KReader_finish_84 rfl ?_
    refine k_aload_n d_KReader_finish_85 rfl ?_
    obtain ⟨y9, h⟩ := h
    refine k_getD (x := (σ8.1 16 2)) d_KReader_finish_86 fl_15_150 ob_16 rfl rfl (dyD_pos y9) ?_
    refine k_getI (x := (σ8.1 (Int.toNat (σ8.1 16 2)) 7)) d_KReader_finish_89 fl_15_745 (doc_ob (dyD_doc y9)) (dfi_7 (dyD_doc y9)) rfl ?_
    refine k_icge d_KReader_finish_92 rfl (fun c10 => ?_) (fun c10 => ?_)
    · have h := ineg c10 h
      exact k_ret d_KReader_finish_106 h
    · have h := ipos c10 h
      refine k_aload_n d_KReader_finish_95 rfl ?_
      refine k_iload_n d_KReader_finish_96 rfl ?_
      refine k_cvv [.inl s7] d_KReader_finish_97 ml_15_818 rfl rfl ob_16 rfl (s_KReader_spacesOf hL (by omega)  h) (fun σ11 h => ?_)
      obtain ⟨p13, h⟩ := h
      refine k_iinc (lv' := [some (.inr 16), some (.inl (s7 + 1))]) d_KReader_finish_100 cI_1 rfl rfl p13 rfl ?_
      refine k_goto d_KReader_finish_103 rfl ?_
      exact k_sb (sb_s (sb_s sb_nil)) (hK6 (s7 + 1) _ h)
  · refine k_ifne d_KReader_finish_4 rfl (fun c14 => ?_) (fun c14 => ?_)
    · have h := ineg c14 h
      refine k_aload_n d_KReader_finish_44 rfl ?_
      obtain ⟨y15, h⟩ := h
      refine k_getD (x := (σ.1 16 2)) d_KReader_finish_45 fl_15_150 ob_16 rfl rfl (dyD_pos y15) ?_
      refine k_getR d_KReader_finish_48 fl_15_561 (doc_ob (dyD_doc y15)) (dfr_18 (dyD_doc y15)) ?_
      refine k_iconst d_KReader_finish_51 cI_1 ?_
      refine k_aload_n d_KReader_finish_52 rfl ?_
      refine k_getD (x := (σ.1 16 2)) d_KReader_finish_53 fl_15_150 ob_16 rfl rfl (dyD_pos y15) ?_
      refine k_getR d_KReader_finish_56 fl_15_738 (doc_ob (dyD_doc y15)) (dfr_3 (dyD_doc y15)) ?_
      refine k_iconst d_KReader_finish_59 cI_0 ?_
      obtain ⟨p25, h⟩ := h
      refine k_ild (x := (σ.2 (rfo (Int.toNat (σ.1 16 2)) 3) (Int.toNat 0))) d_KReader_finish_60 (drI_3 (dyD_doc y15)) p25 rfl ?_
      refine k_aload_n d_KReader_finish_61 rfl ?_
      refine k_getI (x := (σ.1 16 24)) d_KReader_finish_62 fl_15_197 ob_16 rfl rfl ?_
      have hV21 : OkI BF L (d + 1) 15 b_KReader_finish 2 0 73 [.inl (if (σ.2 (rfo (Int.toNat (σ.1 16 2)) 3) (Int.toNat 0)) = (σ.1 16 24) then (0 : Int) else (1 : Int)), .inl 1, .inr (rfo (Int.toNat (σ.1 16 2)) 18)] [some (.inr 16), none] σ (qv Q) := by
        obtain ⟨p20, h⟩ := h
        refine k_ist d_KReader_finish_73 (drI_18 (dyD_doc y15)) p20 ?_
        refine k_aload_n d_KReader_finish_74 rfl ?_
        refine k_cvv [] d_KReader_finish_75 ml_15_813 rfl rfl ob_16 rfl (s_KReader_lists hL (by omega)  h) (fun σ16 h => ?_)
        refine k_aload_n d_KReader_finish_78 rfl ?_
        refine k_cvv [] d_KReader_finish_79 ml_15_815 rfl rfl ob_16 rfl (s_KReader_identities hL (by omega)  h) (fun σ18 h => ?_)
        exact k_sb (sb_s (sb_s sb_nil)) (hJ2 () _ h)
      refine k_icne d_KReader_finish_65 rfl (fun c22 => ?_) (fun c22 => ?_)
      · have hV24 := k_eqI (if_neg c22) hV21
        refine k_iconst d_KReader_finish_72 cI_1 ?_
        exact hV24
      · have hV23 := k_eqI (if_pos c22) hV21
        refine k_iconst d_KReader_finish_68 cI_0 ?_
        refine k_goto d_KReader_finish_69 rfl ?_
        exact hV23
    · have h := ipos c14 h
      refine k_iconst d_KReader_finish_7 cI_1 ?_
      refine k_istore_n (lv' := [some (.inr 16), some (.inl 1)]) d_KReader_finish_8 rfl rfl ?_
      refine k_sb (lv' := [some (.inr 16), some (.inl 1)]) (sb_s (sb_s sb_nil)) ?_
      refine k_loop (S := Int) (st := fun _ => []) (lv := fun s28 => [some (.inr 16), some (.inl s28)]) (fun K26 hK27 s28 σ29 h => ?_) 1 _ h
      refine k_iload_n d_KReader_finish_9 rfl ?_
      refine k_bipush d_KReader_finish_10 cB_23 ?_
      refine k_icge d_KReader_finish_12 rfl (fun c30 => ?_) (fun c30 => ?_)
      · have h := ineg c30 h
        refine k_aload_n d_KReader_finish_31 rfl ?_
        obtain ⟨y31, h⟩ := h
        refine k_getD (x := (σ29.1 16 2)) d_KReader_finish_32 fl_15_150 ob_16 rfl rfl (dyD_pos y31) ?_
        refine k_getR d_KReader_finish_35 fl_15_561 (doc_ob (dyD_doc y31)) (dfr_18 (dyD_doc y31)) ?_
        refine k_iconst d_KReader_finish_38 cI_0 ?_
        refine k_iconst d_KReader_finish_39 cI_1 ?_
        obtain ⟨p32, h⟩ := h
        refine k_ist d_KReader_finish_40 (drI_18 (dyD_doc y31)) p32 ?_
        refine k_goto d_KReader_finish_41 rfl ?_
        exact k_sb (sb_s (sb_n sb_nil)) (hJ2 () _ h)
      · have h := ipos c30 h
        refine k_aload_n d_KReader_finish_15 rfl ?_
        obtain ⟨y33, h⟩ := h
        refine k_getD (x := (σ29.1 16 2)) d_KReader_finish_16 fl_15_150 ob_16 rfl rfl (dyD_pos y33) ?_
        refine k_getR d_KReader_finish_19 fl_15_561 (doc_ob (dyD_doc y33)) (dfr_18 (dyD_doc y33)) ?_
        refine k_iload_n d_KReader_finish_22 rfl ?_
        refine k_iconst d_KReader_finish_23 cI_0 ?_
        obtain ⟨p35, h⟩ := h
        refine k_ist d_KReader_finish_24 (drI_18 (dyD_doc y33)) p35 ?_
        obtain ⟨p34, h⟩ := h
        refine k_iinc (lv' := [some (.inr 16), some (.inl (s28 + 1))]) d_KReader_finish_25 cI_1 rfl rfl p34 rfl ?_
        refine k_goto d_KReader_finish_28 rfl ?_
        exact k_sb (sb_s (sb_s sb_nil)) (hK27 (s28 + 1) _ h)
theorem d_KReader_judgeText_11 : decode b_KReader_judgeText 11 = .ok (.aload_n 0, 1) := by decide +kernel
theorem d_KReader_judgeText_12 : decode b_KReader_judgeText 12 = .ok (.iconst 4, 1) := by decide +kernel
theorem d_KReader_judgeText_13 : decode b_KReader_judgeText 13 = .ok (.putfield 166, 3) := by decide +kernel
theorem d_KReader_judgeText_16 : decode b_KReader_judgeText 16 = .ok (.aload_n 0, 1) := by decide +kernel
theorem d_KReader_judgeText_17 : decode b_KReader_judgeText 17 = .ok (.iconst 0, 1) := by decide +kernel
theorem d_KReader_judgeText_18 : decode b_KReader_judgeText 18 = .ok (.putfield 169, 3) := by decide +kernel
theorem d_KReader_judgeText_21 : decode b_KReader_judgeText 21 = .ok (.iconst 0, 1) := by decide +kernel
theorem d_KReader_judgeText_22 : decode b_KReader_judgeText 22 = .ok (.ireturn, 1) := by decide +kernel
theorem d_KReader_judgeText_52 : decode b_KReader_judgeText 52 = .ok (.aload_n 0, 1) := by decide +kernel
theorem d_KReader_judgeText_53 : decode b_KReader_judgeText 53 = .ok (.iconst 5, 1) := by decide +kernel
theorem d_KReader_judgeText_54 : decode b_KReader_judgeText 54 = .ok (.invokevirtual 282, 3) := by decide +kernel
theorem d_KReader_judgeText_57 : decode b_KReader_judgeText 57 = .ok (.invokestatic 294, 3) := by decide +kernel
theorem d_KReader_judgeText_60 : decode b_KReader_judgeText 60 = .ok (.ifCond .eq 12, 3) := by decide +kernel
theorem d_KReader_judgeText_63 : decode b_KReader_judgeText 63 = .ok (.aload_n 0, 1) := by decide +kernel
theorem d_KReader_judgeText_64 : decode b_KReader_judgeText 64 = .ok (.iconst 0, 1) := by decide +kernel
theorem d_KReader_judgeText_65 : decode b_KReader_judgeText 65 = .ok (.putfield 169, 3) := by decide +kernel
theorem d_KReader_judgeText_68 : decode b_KReader_judgeText 68 = .ok (.aload_n 0, 1) := by decide +kernel
theorem d_KReader_judgeText_69 : decode b_KReader_judgeText 69 = .ok (.invokevirtual 376, 3) := by decide +kernel
theorem d_KReader_judgeText_122 : decode b_KReader_judgeText 122 = .ok (.aload_n 0, 1) := by decide +kernel
theorem d_KReader_judgeText_123 : decode b_KReader_judgeText 123 = .ok (.getfield 382, 3) := by decide +kernel
theorem d_KReader_judgeText_145 : decode b_KReader_judgeText 145 = .ok (.aload_n 0, 1) := by decide +kernel
theorem d_KReader_judgeText_146 : decode b_KReader_judgeText 146 = .ok (.iconst (-1), 1) := by decide +kernel
theorem d_KReader_judgeText_147 : decode b_KReader_judgeText 147 = .ok (.putfield 169, 3) := by decide +kernel
theorem d_KReader_judgeText_150 : decode b_KReader_judgeText 150 = .ok (.aload_n 0, 1) := by decide +kernel
theorem d_KReader_judgeText_151 : decode b_KReader_judgeText 151 = .ok (.getfield 150, 3) := by decide +kernel
theorem d_KReader_judgeText_154 : decode b_KReader_judgeText 154 = .ok (.aload_n 0, 1) := by decide +kernel
theorem d_KReader_judgeText_155 : decode b_KReader_judgeText 155 = .ok (.getfield 367, 3) := by decide +kernel
theorem d_KReader_judgeText_158 : decode b_KReader_judgeText 158 = .ok (.putfield 388, 3) := by decide +kernel
theorem d_KReader_judgeText_161 : decode b_KReader_judgeText 161 = .ok (.aload_n 0, 1) := by decide +kernel
theorem d_KReader_judgeText_162 : decode b_KReader_judgeText 162 = .ok (.invokevirtual 389, 3) := by decide +kernel
theorem d_KReader_judgeText_165 : decode b_KReader_judgeText 165 = .ok (.iconst 1, 1) := by decide +kernel
theorem d_KReader_judgeText_166 : decode b_KReader_judgeText 166 = .ok (.ireturn, 1) := by decide +kernel
/-- KReader_judgeText -/
def w_KReader_judgeText (L : Nat → Nat)  (Q : Int → IS → Prop) (σ : IS) : Prop := if (σ.1 16 0) < (σ.1 16 7) then Q 0 (pf (pf σ 16 3 4) 16 4 0) else w_KReader_push L 0 (σ.1 16 7) (-1) (fun σ2 => w_KReader_says L 0 1102 (fun v5 σ4 => WJ (fun (s8 : Unit) (σ9 : IS) => WL (fun (K10 : Unit → IS → Prop) (s12 : Unit) (σ13 : IS) => WJ (fun (s16 : Unit) (σ17 : IS) => if 0 < (σ17.1 16 3) then Q 0 σ17 else dyD (σ17.1 16 2) ∧ w_KReader_finish L  (fun σ20 => Q 1 σ20) (pf (pf σ17 16 4 (-1)) (Int.toNat (σ17.1 16 2)) 21 (σ17.1 16 25))) (fun J14 => if (σ13.1 16 3) = 0 then if ¬ (σ13.1 16 14) = 1 ∨ (¬ (σ13.1 16 16) = (σ13.1 16 17) ∨ (¬ (σ13.1 16 19) = 3)) then w_KReader_item L  (fun σ23 => K10 () σ23) (pf σ13 16 4 (if (σ13.1 16 14) = 1 then (σ13.1 16 16) else (σ13.1 16 18))) else J14 () σ13 else J14 () σ13)) () σ9) (fun J6 => if v5 = 0 then J6 () σ4 else w_KReader_look L 5 (fun v37 σ36 => w_K_isSpace L v37 (fun v39 σ38 => if v39 = 0 then J6 () σ38 else w_KReader_head L  (fun σ41 => J6 () σ41) (pf σ38 16 4 0)) σ36) σ4)) σ2) (pf σ 16 25 (σ.1 16 7))
set_option maxHeartbeats 4000000 in
set_option maxRecDepth 20000 in
theorem s_KReader_judgeText {L : Nat → Nat} (hL : ∀ r, L r < 2147483648) {d : Nat} (hd : 78 ≤ d)  {Q : Int → IS → Prop} {σ : IS}  (h : w_KReader_judgeText L  Q σ) : OkI BF L d 15 b_KReader_judgeText 1 2 0 [] [some (.inr 16)] σ (qi Q) := by
  unfold w_KReader_judgeText at h
  obtain ⟨d, rfl⟩ : ∃ e, d = e + 1 := ⟨d - 1, by omega⟩
  refine k_sb (lv' := [some (.inr 16)]) (sb_s sb_nil) ?_
  refine k_aload_n d_KReader_judgeText_0 rfl ?_
  refine k_getI (x := (σ.1 16 7)) d_KReader_judgeText_1 fl_15_258 ob_16 rfl rfl ?_
  refine k_aload_n d_KReader_judgeText_4 rfl ?_
  refine k_getI (x := (σ.1 16 0)) d_KReader_judgeText_5 fl_15_154 ob_16 rfl rfl ?_
  refine k_icle d_KReader_judgeText_8 rfl (fun c1 => ?_) (fun c1 => ?_)
  · have h := ineg c1 h
    refine k_aload_n d_KReader_judgeText_23 rfl ?_
    refine k_aload_n d_KReader_judgeText_24 rfl ?_
    refine k_getI (x := (σ.1 16 7)) d_KReader_judgeText_25 fl_15_258 ob_16 rfl rfl ?_
    refine k_putI d_KReader_judgeText_28 fl_15_367 ob_16 rfl ?_
    refine k_aload_n d_KReader_judgeText_31 rfl ?_
    refine k_iconst d_KReader_judgeText_32 cI_0 ?_
    refine k_aload_n d_KReader_judgeText_33 rfl ?_
    refine k_getI (x := (σ.1 16 7)) d_KReader_judgeText_34 fl_15_258 ob_16 rfl rfl ?_
    refine k_iconst d_KReader_judgeText_37 cI_m1 ?_
    refine k_cvv [.inl 0, .inl (σ.1 16 7), .inl (-1)] d_KReader_judgeText_38 ml_15_370 rfl rfl ob_16 rfl (s_KReader_push hL (by omega)  h) (fun σ2 h => ?_)
    refine k_aload_n d_KReader_judgeText_41 rfl ?_
    refine k_iconst d_KReader_judgeText_42 cI_0 ?_
    refine k_ldcw d_KReader_judgeText_43 ks_15_374 rfl ?_
    refine k_cvi [.inl 0, .inr 1102] d_KReader_judgeText_46 ml_15_290 rfl rfl ob_16 rfl (s_KReader_says hL (by omega) it_1102 h) (fun v5 σ4 h => ?_)
    refine k_join (S := Unit) (pc' := 72) (st' := fun s8 => []) (lv' := fun s8 => [some (.inr 16)]) (fun s8 σ9 h => ?_) (fun J6 hJ7 h => ?_) h
    · refine k_sb (lv' := [some (.inr 16)]) (sb_s sb_nil) ?_
      refine k_loop (S := Unit) (st := fun _ => []) (lv := fun s12 => [some (.inr 16)]) (fun K10 hK11 s12 σ13 h => ?_) () _ h
      refine k_aload_n d_KReader_judgeText_72 rfl ?_
      refine k_getI (x := (σ13.1 16 3)) d_KReader_judgeText_73 fl_15_166 ob_16 rfl rfl ?_
      refine k_join (S := Unit) (pc' := 136) (st' := fun s16 => []) (lv' := fun s16 => [some (.inr 16)]) (fun s16 σ17 h => ?_) (fun J14 hJ15 h => ?_) h
      · refine k_aload_n d_KReader_judgeText_136 rfl ?_
        refine k_getI (x := (σ17.1 16 3)) d_KReader_judgeText_137 fl_15_166 ob_16 rfl rfl ?_
        refine k_ifle d_KReader_judgeText_140 rfl (fun c18 => ?_) (fun c18 => ?_)
        · have h := ineg c18 h
          refine k_aload_n d_KReader_judgeText_145 rfl ?_
          refine k_iconst d_KReader_judgeText_146 cI_m1 ?_
          refine k_putI d_KReader_judgeText_147 fl_15_169 ob_16 rfl ?_
          refine k_aload_n d_KReader_judgeText_150 rfl ?_
          obtain ⟨y19, h⟩ := h
          refine k_getD (x := (σ17.1 16 2)) d_KReader_judgeText_151 fl_15_150 ob_16 rfl rfl (dyD_pos y19) ?_
          refine k_aload_n d_KReader_judgeText_154 rfl ?_
          refine k_getI (x := (σ17.1 16 25)) d_KReader_judgeText_155 fl_15_367 ob_16 rfl rfl ?_
          refine k_putI d_KReader_judgeText_158 fl_15_388 (doc_ob (dyD_doc y19)) (dfz_21 (dyD_doc y19)) ?_
          refine k_aload_n d_KReader_judgeText_161 rfl ?_
          refine k_cvv [] d_KReader_judgeText_162 ml_15_389 rfl rfl ob_16 rfl (s_KReader_finish hL (by omega)  h) (fun σ20 h => ?_)
          refine k_iconst d_KReader_judgeText_165 cI_1 ?_
          exact k_iret d_KReader_judgeText_166 (Or.inr ⟨rfl, Or.inr rfl⟩) h
        · have h := ipos c18 h
          refine k_iconst d_KReader_judgeText_143 cI_0 ?_
          exact k_iret d_KReader_judgeText_144 (Or.inr ⟨rfl, Or.inl rfl⟩) h
      · refine k_ifne d_KReader_judgeText_76 rfl (fun c22 => ?_) (fun c22 => ?_)
        · have h := ineg c22 h
          exact k_sb (sb_s sb_nil) (hJ15 () _ h)
        · have h := ipos c22 h
          refine k_aload_n d_KReader_judgeText_79 rfl ?_
          refine k_getI (x := (σ13.1 16 14)) d_KReader_judgeText_80 fl_15_175 ob_16 rfl rfl ?_
          refine k_iconst d_KReader_judgeText_83 cI_1 ?_
          have hX29 : (¬ (σ13.1 16 14) = 1 ∨ (¬ (σ13.1 16 16) = (σ13.1 16 17) ∨ (¬ (σ13.1 16 19) = 3))) → OkI BF L (d + 1) 15 b_KReader_judgeText 1 2 106 [] [some (.inr 16)] σ13 (qi Q) := fun e31 => by
            have h := ipos e31 h
            refine k_aload_n d_KReader_judgeText_106 rfl ?_
            refine k_aload_n d_KReader_judgeText_107 rfl ?_
            refine k_getI (x := (σ13.1 16 14)) d_KReader_judgeText_108 fl_15_175 ob_16 rfl rfl ?_
            refine k_iconst d_KReader_judgeText_111 cI_1 ?_
            have hV25 : OkI BF L (d + 1) 15 b_KReader_judgeText 1 2 126 [.inl (if (σ13.1 16 14) = 1 then (σ13.1 16 16) else (σ13.1 16 18)), .inr 16] [some (.inr 16)] σ13 (qi Q) := by
              refine k_putI d_KReader_judgeText_126 fl_15_169 ob_16 rfl ?_
              refine k_aload_n d_KReader_judgeText_129 rfl ?_
              refine k_cvv [] d_KReader_judgeText_130 ml_15_385 rfl rfl ob_16 rfl (s_KReader_item hL (by omega)  h) (fun σ23 h => ?_)
              refine k_goto d_KReader_judgeText_133 rfl ?_
              exact k_sb (sb_s sb_nil) (hK11 () _ h)
            refine k_icne d_KReader_judgeText_112 rfl (fun c26 => ?_) (fun c26 => ?_)
            · have hV28 := k_eqI (if_neg c26) hV25
              refine k_aload_n d_KReader_judgeText_122 rfl ?_
              refine k_getI (x := (σ13.1 16 18)) d_KReader_judgeText_123 fl_15_382 ob_16 rfl rfl ?_
              exact hV28
            · have hV27 := k_eqI (if_pos c26) hV25
              refine k_aload_n d_KReader_judgeText_115 rfl ?_
              refine k_getI (x := (σ13.1 16 16)) d_KReader_judgeText_116 fl_15_379 ob_16 rfl rfl ?_
              refine k_goto d_KReader_judgeText_119 rfl ?_
              exact hV27
          have hY30 : ¬ (¬ (σ13.1 16 14) = 1 ∨ (¬ (σ13.1 16 16) = (σ13.1 16 17) ∨ (¬ (σ13.1 16 19) = 3))) → OkI BF L (d + 1) 15 b_KReader_judgeText 1 2 136 [] [some (.inr 16)] σ13 (qi Q) := fun e31 => by
            have h := ineg e31 h
            exact k_sb (sb_s sb_nil) (hJ15 () _ h)
          refine k_icne d_KReader_judgeText_84 rfl (fun c32 => ?_) (fun c32 => ?_)
          · exact hX29 (Or.inl c32)
          · refine k_aload_n d_KReader_judgeText_87 rfl ?_
            refine k_getI (x := (σ13.1 16 16)) d_KReader_judgeText_88 fl_15_379 ob_16 rfl rfl ?_
            refine k_aload_n d_KReader_judgeText_91 rfl ?_
            refine k_getI (x := (σ13.1 16 17)) d_KReader_judgeText_92 fl_15_273 ob_16 rfl rfl ?_
            refine k_icne d_KReader_judgeText_95 rfl (fun c33 => ?_) (fun c33 => ?_)
            · exact hX29 (Or.inr (Or.inl c33))
            · refine k_aload_n d_KReader_judgeText_98 rfl ?_
              refine k_getI (x := (σ13.1 16 19)) d_KReader_judgeText_99 fl_15_181 ob_16 rfl rfl ?_
              refine k_iconst d_KReader_judgeText_102 cI_3 ?_
              refine k_iceq d_KReader_judgeText_103 rfl (fun c34 => ?_) (fun c34 => ?_)
              · exact hY30 (fun z => z.elim (fun y => y c32) (fun z => z.elim (fun y => y c33) (fun z => z c34)))
              · exact hX29 (Or.inr (Or.inr (c34)))
    · refine k_ifeq d_KReader_judgeText_49 rfl (fun c35 => ?_) (fun c35 => ?_)
      · have h := ipos c35 h
        exact k_sb (sb_s sb_nil) (hJ7 () _ h)
      · have h := ineg c35 h
        refine k_aload_n d_KReader_judgeText_52 rfl ?_
        refine k_iconst d_KReader_judgeText_53 cI_5 ?_
        refine k_cvi [.inl 5] d_KReader_judgeText_54 ml_15_282 rfl rfl ob_16 rfl (s_KReader_look hL (by omega)  h) (fun v37 σ36 h => ?_)
        refine k_csi [.inl v37] d_KReader_judgeText_57 ml_15_294 (Or.inr rfl) rfl rfl rfl (s_K_isSpace hL (by omega)  h) (fun v39 σ38 h => ?_)
        refine k_ifeq d_KReader_judgeText_60 rfl (fun c40 => ?_) (fun c40 => ?_)
        · have h := ipos c40 h
          exact k_sb (sb_s sb_nil) (hJ7 () _ h)
        · have h := ineg c40 h
          refine k_aload_n d_KReader_judgeText_63 rfl ?_
          refine k_iconst d_KReader_judgeText_64 cI_0 ?_
          refine k_putI d_KReader_judgeText_65 fl_15_169 ob_16 rfl ?_
          refine k_aload_n d_KReader_judgeText_68 rfl ?_
          refine k_cvv [] d_KReader_judgeText_69 ml_15_376 rfl rfl ob_16 rfl (s_KReader_head hL (by omega)  h) (fun σ41 h => ?_)
          exact k_sb (sb_s sb_nil) (hJ7 () _ h)
  · have h := ipos c1 h
    refine k_aload_n d_KReader_judgeText_11 rfl ?_
    refine k_iconst d_KReader_judgeText_12 cI_4 ?_
    refine k_putI d_KReader_judgeText_13 fl_15_166 ob_16 rfl ?_
    refine k_aload_n d_KReader_judgeText_16 rfl ?_
    refine k_iconst d_KReader_judgeText_17 cI_0 ?_
    refine k_putI d_KReader_judgeText_18 fl_15_169 ob_16 rfl ?_
    refine k_iconst d_KReader_judgeText_21 cI_0 ?_
    exact k_iret d_KReader_judgeText_22 (Or.inr ⟨rfl, Or.inl rfl⟩) h
theorem d_KReader_read_25 : decode b_KReader_read 25 = .ok (.iconst 1, 1) := by decide +kernel
theorem d_KReader_read_26 : decode b_KReader_read 26 = .ok (.goto 4, 3) := by decide +kernel
/-- KReader_read -/
def w_KReader_read (L : Nat → Nat) (a1 : Nat) (a2 : Int) (a3 : Nat) (a4 : Int) (a5 : Int) (Q : Int → IS → Prop) (σ : IS) : Prop := w_KReader_begin L a3 a4 a5 (fun σ1 => w_KReader_decode L a1 a2 (fun v4 σ3 => WJ (fun (s7 : Int) (σ8 : IS) => is01 s7 ∧ Q s7 σ8) (fun J5 => WJ (fun (s12 : Unit) (σ13 : IS) => J5 0 σ13) (fun J10 => if v4 = 0 then J10 () σ3 else w_KReader_judgeText L  (fun v16 σ15 => if v16 = 0 then J10 () σ15 else J5 1 σ15) σ3))) σ1) σ
set_option maxHeartbeats 4000000 in
set_option maxRecDepth 20000 in
theorem s_KReader_read {L : Nat → Nat} (hL : ∀ r, L r < 2147483648) {d : Nat} (hd : 79 ≤ d) {a1 : Nat} {a2 : Int} {a3 : Nat} {a4 : Int} {a5 : Int} {Q : Int → IS → Prop} {σ : IS} (ha1 : rwB BF a1) (ha3 : isDoc a3) (h : w_KReader_read L a1 a2 a3 a4 a5 Q σ) : OkI BF L d 15 b_KReader_read 6 2 0 [] [some (.inr 16), some (.inr a1), some (.inl a2), some (.inr a3), some (.inl a4), some (.inl a5)] σ (qi Q) := by
  unfold w_KReader_read at h
  obtain ⟨d, rfl⟩ : ∃ e, d = e + 1 := ⟨d - 1, by omega⟩
  refine k_sb (lv' := [some (.inr 16), some (.inr a1), some (.inl a2), some (.inr a3), some (.inl a4), some (.inl a5)]) (sb_s (sb_s (sb_s (sb_s (sb_s (sb_s sb_nil)))))) ?_
  refine k_aload_n d_KReader_read_0 rfl ?_
  refine k_aload_n d_KReader_read_1 rfl ?_
  refine k_iload d_KReader_read_2 rfl ?_
  refine k_iload d_KReader_read_4 rfl ?_
  refine k_cvv [.inr a3, .inl a4, .inl a5] d_KReader_read_6 ml_15_355 rfl rfl ob_16 rfl (s_KReader_begin hL (by omega) ha3 h) (fun σ1 h => ?_)
  refine k_aload_n d_KReader_read_9 rfl ?_
  refine k_aload_n d_KReader_read_10 rfl ?_
  refine k_iload_n d_KReader_read_11 rfl ?_
  refine k_cvi [.inr a1, .inl a2] d_KReader_read_12 ml_15_359 rfl rfl ob_16 rfl (s_KReader_decode hL (by omega) ha1 h) (fun v4 σ3 h => ?_)
  refine k_join (S := Int) (pc' := 30) (st' := fun s7 => [.inl s7]) (lv' := fun s7 => [none, none, none, none, none, none]) (fun s7 σ8 h => ?_) (fun J5 hJ6 h => ?_) h
  · obtain ⟨p9, h⟩ := h
    exact k_iret d_KReader_read_30 (Or.inr ⟨rfl, p9⟩) h
  · refine k_join (S := Unit) (pc' := 29) (st' := fun s12 => []) (lv' := fun s12 => [none, none, none, none, none, none]) (fun s12 σ13 h => ?_) (fun J10 hJ11 h => ?_) h
    · refine k_iconst d_KReader_read_29 cI_0 ?_
      exact k_sb (sb_s (sb_s (sb_s (sb_s (sb_s (sb_s sb_nil)))))) (hJ6 0 _ h)
    · refine k_ifeq d_KReader_read_15 rfl (fun c14 => ?_) (fun c14 => ?_)
      · have h := ipos c14 h
        exact k_sb (sb_n (sb_n (sb_n (sb_n (sb_n (sb_n sb_nil)))))) (hJ11 () _ h)
      · have h := ineg c14 h
        refine k_aload_n d_KReader_read_18 rfl ?_
        refine k_cvi [] d_KReader_read_19 ml_15_363 rfl rfl ob_16 rfl (s_KReader_judgeText hL (by omega)  h) (fun v16 σ15 h => ?_)
        refine k_ifeq d_KReader_read_22 rfl (fun c17 => ?_) (fun c17 => ?_)
        · have h := ipos c17 h
          exact k_sb (sb_n (sb_n (sb_n (sb_n (sb_n (sb_n sb_nil)))))) (hJ11 () _ h)
        · have h := ineg c17 h
          refine k_iconst d_KReader_read_25 cI_1 ?_
          refine k_goto d_KReader_read_26 rfl ?_
          exact k_sb (sb_n (sb_n (sb_n (sb_n (sb_n (sb_n sb_nil)))))) (hJ6 1 _ h)
theorem d_K_judge_72 : decode b_K_judge 72 = .ok (.iconst 0, 1) := by decide +kernel
theorem d_K_judge_73 : decode b_K_judge 73 = .ok (.istore_n 1, 1) := by decide +kernel
theorem d_K_judge_74 : decode b_K_judge 74 = .ok (.iconst 0, 1) := by decide +kernel
theorem d_K_judge_75 : decode b_K_judge 75 = .ok (.istore_n 2, 1) := by decide +kernel
theorem d_K_judge_76 : decode b_K_judge 76 = .ok (.iload_n 2, 1) := by decide +kernel
theorem d_K_judge_77 : decode b_K_judge 77 = .ok (.bipush 23, 2) := by decide +kernel
theorem d_K_judge_79 : decode b_K_judge 79 = .ok (.if_icmp .ge 21, 3) := by decide +kernel
theorem d_K_judge_82 : decode b_K_judge 82 = .ok (.iload_n 1, 1) := by decide +kernel
theorem d_K_judge_83 : decode b_K_judge 83 = .ok (.aload_n 0, 1) := by decide +kernel
theorem d_K_judge_84 : decode b_K_judge 84 = .ok (.getfield 54, 3) := by decide +kernel
theorem d_K_judge_87 : decode b_K_judge 87 = .ok (.getfield 111, 3) := by decide +kernel
theorem d_K_judge_90 : decode b_K_judge 90 = .ok (.iload_n 2, 1) := by decide +kernel
theorem d_K_judge_91 : decode b_K_judge 91 = .ok (.iaload, 1) := by decide +kernel
theorem d_K_judge_92 : decode b_K_judge 92 = .ok (.iadd, 1) := by decide +kernel
theorem d_K_judge_93 : decode b_K_judge 93 = .ok (.istore_n 1, 1) := by decide +kernel
theorem d_K_judge_94 : decode b_K_judge 94 = .ok (.iinc 2 1, 3) := by decide +kernel
theorem d_K_judge_97 : decode b_K_judge 97 = .ok (.goto (-21), 3) := by decide +kernel
theorem d_K_judge_100 : decode b_K_judge 100 = .ok (.iload_n 1, 1) := by decide +kernel
theorem d_K_judge_101 : decode b_K_judge 101 = .ok (.ifCond .ne 7, 3) := by decide +kernel
theorem d_K_judge_104 : decode b_K_judge 104 = .ok (.iconst 0, 1) := by decide +kernel
theorem d_K_judge_105 : decode b_K_judge 105 = .ok (.goto 4, 3) := by decide +kernel
theorem d_K_judge_108 : decode b_K_judge 108 = .ok (.iconst 1, 1) := by decide +kernel
theorem d_K_judge_109 : decode b_K_judge 109 = .ok (.ireturn, 1) := by decide +kernel
/-- K_judge -/
def w_K_judge (L : Nat → Nat)  (Q : Int → IS → Prop) (σ : IS) : Prop := w_KReader_read L 165 (σ.1 12 3) 14 (σ.1 12 0) (σ.1 12 1) (fun v2 σ1 => is01 v2 ∧ if v2 = 0 then Q 2 (pf (pf (pf (pf σ1 12 6 v2) 12 3 0) 12 12 (σ1.1 16 3)) 12 13 (σ1.1 16 4)) else WL (fun (K4 : Int × Int → IS → Prop) (s6 : Int × Int) (σ7 : IS) => if s6.2 < 23 then inL L (rfo 14 18) s6.2 ∧ inR (s6.1 + (σ7.2 (rfo 14 18) (Int.toNat s6.2))) ∧ inR (s6.2 + 1) ∧ K4 ((s6.1 + (σ7.2 (rfo 14 18) (Int.toNat s6.2))), (s6.2 + 1)) σ7 else Q (if s6.1 = 0 then (0 : Int) else (1 : Int)) σ7) (0, 0) (pf (pf (pf (pf σ1 12 6 v2) 12 3 0) 12 12 (σ1.1 16 3)) 12 13 (σ1.1 16 4))) (pf σ 12 11 0)
set_option maxHeartbeats 4000000 in
set_option maxRecDepth 20000 in
theorem s_K_judge {L : Nat → Nat} (hL : ∀ r, L r < 2147483648) {d : Nat} (hd : 80 ≤ d)  {Q : Int → IS → Prop} {σ : IS}  (h : w_K_judge L  Q σ) : OkI BF L d 12 b_K_judge 3 1 0 [] [some (.inr 12)] σ (qi Q) := by
  unfold w_K_judge at h
  obtain ⟨d, rfl⟩ : ∃ e, d = e + 1 := ⟨d - 1, by omega⟩
  refine k_sb (lv' := [some (.inr 12), none, none]) (sb_s (sb_e (sb_e sb_nil))) ?_
  refine k_aload_n d_K_judge_0 rfl ?_
  refine k_iconst d_K_judge_1 cI_0 ?_
  refine k_putI d_K_judge_2 fl_12_88 ob_12 rfl ?_
  refine k_aload_n d_K_judge_5 rfl ?_
  refine k_aload_n d_K_judge_6 rfl ?_
  refine k_getR d_K_judge_7 fl_12_37 ob_12 rfl ?_
  refine k_aload_n d_K_judge_10 rfl ?_
  refine k_getR d_K_judge_11 fl_12_26 ob_12 rfl ?_
  refine k_aload_n d_K_judge_14 rfl ?_
  refine k_getI (x := (σ.1 12 3)) d_K_judge_15 fl_12_91 ob_12 rfl rfl ?_
  refine k_aload_n d_K_judge_18 rfl ?_
  refine k_getR d_K_judge_19 fl_12_54 ob_12 rfl ?_
  refine k_aload_n d_K_judge_22 rfl ?_
  refine k_getI (x := (σ.1 12 0)) d_K_judge_23 fl_12_82 ob_12 rfl rfl ?_
  refine k_aload_n d_K_judge_26 rfl ?_
  refine k_getI (x := (σ.1 12 1)) d_K_judge_27 fl_12_85 ob_12 rfl rfl ?_
  refine k_cvi [.inr 165, .inl (σ.1 12 3), .inr 14, .inl (σ.1 12 0), .inl (σ.1 12 1)] d_K_judge_30 ml_12_98 rfl rfl ob_16 rfl (s_KReader_read hL (by omega) rB_165 (by decide) h) (fun v2 σ1 h => ?_)
  obtain ⟨p16, h⟩ := h
  refine k_putZ d_K_judge_33 fl_12_102 ob_12 rfl p16 ?_
  refine k_aload_n d_K_judge_36 rfl ?_
  refine k_iconst d_K_judge_37 cI_0 ?_
  refine k_putI d_K_judge_38 fl_12_91 ob_12 rfl ?_
  refine k_aload_n d_K_judge_41 rfl ?_
  refine k_aload_n d_K_judge_42 rfl ?_
  refine k_getR d_K_judge_43 fl_12_37 ob_12 rfl ?_
  refine k_getI (x := (σ1.1 16 3)) d_K_judge_46 fl_12_106 ob_16 rfl rfl ?_
  refine k_putI d_K_judge_49 fl_12_109 ob_12 rfl ?_
  refine k_aload_n d_K_judge_52 rfl ?_
  refine k_aload_n d_K_judge_53 rfl ?_
  refine k_getR d_K_judge_54 fl_12_37 ob_12 rfl ?_
  refine k_getI (x := (σ1.1 16 4)) d_K_judge_57 fl_12_110 ob_16 rfl rfl ?_
  refine k_putI d_K_judge_60 fl_12_77 ob_12 rfl ?_
  refine k_aload_n d_K_judge_63 rfl ?_
  refine k_getI (x := v2) d_K_judge_64 fl_12_102 ob_12 rfl rfl ?_
  refine k_ifne d_K_judge_67 rfl (fun c3 => ?_) (fun c3 => ?_)
  · have h := ineg c3 h
    refine k_iconst d_K_judge_72 cI_0 ?_
    refine k_istore_n (lv' := [some (.inr 12), some (.inl 0), none]) d_K_judge_73 rfl rfl ?_
    refine k_iconst d_K_judge_74 cI_0 ?_
    refine k_istore_n (lv' := [some (.inr 12), some (.inl 0), some (.inl 0)]) d_K_judge_75 rfl rfl ?_
    refine k_sb (lv' := [some (.inr 12), some (.inl 0), some (.inl 0)]) (sb_s (sb_s (sb_s sb_nil))) ?_
    refine k_loop (S := Int × Int) (st := fun _ => []) (lv := fun s6 => [some (.inr 12), some (.inl s6.1), some (.inl s6.2)]) (fun K4 hK5 s6 σ7 h => ?_) (0, 0) _ h
    refine k_iload_n d_K_judge_76 rfl ?_
    refine k_bipush d_K_judge_77 cB_23 ?_
    refine k_icge d_K_judge_79 rfl (fun c8 => ?_) (fun c8 => ?_)
    · have h := ineg c8 h
      refine k_iload_n d_K_judge_100 rfl ?_
      have hV9 : OkI BF L (d + 1) 12 b_K_judge 3 1 109 [.inl (if s6.1 = 0 then (0 : Int) else (1 : Int))] [some (.inr 12), some (.inl s6.1), some (.inl s6.2)] σ7 (qi Q) := by
        exact k_iret d_K_judge_109 (Or.inl rfl) h
      refine k_ifne d_K_judge_101 rfl (fun c10 => ?_) (fun c10 => ?_)
      · have hV12 := k_eqI (if_neg c10) hV9
        refine k_iconst d_K_judge_108 cI_1 ?_
        exact hV12
      · have hV11 := k_eqI (if_pos c10) hV9
        refine k_iconst d_K_judge_104 cI_0 ?_
        refine k_goto d_K_judge_105 rfl ?_
        exact hV11
    · have h := ipos c8 h
      refine k_iload_n d_K_judge_82 rfl ?_
      refine k_aload_n d_K_judge_83 rfl ?_
      refine k_getR d_K_judge_84 fl_12_54 ob_12 rfl ?_
      refine k_getR d_K_judge_87 fl_12_111 (doc_ob (by decide)) (dfr_18 (by decide)) ?_
      refine k_iload_n d_K_judge_90 rfl ?_
      obtain ⟨p15, h⟩ := h
      refine k_ild (x := (σ7.2 (rfo 14 18) (Int.toNat s6.2))) d_K_judge_91 (drI_18 (by decide)) p15 rfl ?_
      obtain ⟨p14, h⟩ := h
      refine k_iadd d_K_judge_92 p14 ?_
      refine k_istore_n (lv' := [some (.inr 12), some (.inl (s6.1 + (σ7.2 (rfo 14 18) (Int.toNat s6.2)))), some (.inl s6.2)]) d_K_judge_93 rfl rfl ?_
      obtain ⟨p13, h⟩ := h
      refine k_iinc (lv' := [some (.inr 12), some (.inl (s6.1 + (σ7.2 (rfo 14 18) (Int.toNat s6.2)))), some (.inl (s6.2 + 1))]) d_K_judge_94 cI_1 rfl rfl p13 rfl ?_
      refine k_goto d_K_judge_97 rfl ?_
      exact k_sb (sb_s (sb_s (sb_s sb_nil))) (hK5 ((s6.1 + (σ7.2 (rfo 14 18) (Int.toNat s6.2))), (s6.2 + 1)) _ h)
  · have h := ipos c3 h
    refine k_iconst d_K_judge_70 cI_2 ?_
    exact k_iret d_K_judge_71 (Or.inl rfl) h
theorem d_K_name_13 : decode b_K_name 13 = .ok (.aload_n 0, 1) := by decide +kernel
theorem d_K_name_14 : decode b_K_name 14 = .ok (.aload_n 0, 1) := by decide +kernel
theorem d_K_name_15 : decode b_K_name 15 = .ok (.getfield 54, 3) := by decide +kernel
theorem d_K_name_18 : decode b_K_name 18 = .ok (.getfield 138, 3) := by decide +kernel
theorem d_K_name_21 : decode b_K_name 21 = .ok (.iload_n 1, 1) := by decide +kernel
theorem d_K_name_22 : decode b_K_name 22 = .ok (.iaload, 1) := by decide +kernel
theorem d_K_name_23 : decode b_K_name 23 = .ok (.iload_n 2, 1) := by decide +kernel
theorem d_K_name_24 : decode b_K_name 24 = .ok (.invokevirtual 141, 3) := by decide +kernel
theorem d_K_name_27 : decode b_K_name 27 = .ok (.goto 4, 3) := by decide +kernel
/-- K_name -/
def w_K_name (L : Nat → Nat) (a1 : Int) (a2 : Int) (Q : Int → IS → Prop) (σ : IS) : Prop := w_K_isElement L a1 (fun v2 σ1 => WJ (fun (s5 : Int) (σ6 : IS) => Q s5 σ6) (fun J3 => if v2 = 0 then J3 (-1) σ1 else inL L (rfo 14 3) a1 ∧ w_K_letterOf L (σ1.2 (rfo 14 3) (Int.toNat a1)) a2 (fun v9 σ8 => J3 v9 σ8) σ1)) (pf σ 12 11 0)
set_option maxHeartbeats 4000000 in
set_option maxRecDepth 20000 in
theorem s_K_name {L : Nat → Nat} (hL : ∀ r, L r < 2147483648) {d : Nat} (hd : 2 ≤ d) {a1 : Int} {a2 : Int} {Q : Int → IS → Prop} {σ : IS}  (h : w_K_name L a1 a2 Q σ) : OkI BF L d 12 b_K_name 3 1 0 [] [some (.inr 12), some (.inl a1), some (.inl a2)] σ (qi Q) := by
  unfold w_K_name at h
  obtain ⟨d, rfl⟩ : ∃ e, d = e + 1 := ⟨d - 1, by omega⟩
  refine k_sb (lv' := [some (.inr 12), some (.inl a1), some (.inl a2)]) (sb_s (sb_s (sb_s sb_nil))) ?_
  refine k_aload_n d_K_name_0 rfl ?_
  refine k_iconst d_K_name_1 cI_0 ?_
  refine k_putI d_K_name_2 fl_12_88 ob_12 rfl ?_
  refine k_aload_n d_K_name_5 rfl ?_
  refine k_iload_n d_K_name_6 rfl ?_
  refine k_cvi [.inl a1] d_K_name_7 ml_12_121 rfl rfl ob_12 rfl (s_K_isElement hL (by omega)  h) (fun v2 σ1 h => ?_)
  refine k_join (S := Int) (pc' := 31) (st' := fun s5 => [.inl s5]) (lv' := fun s5 => [none, none, none]) (fun s5 σ6 h => ?_) (fun J3 hJ4 h => ?_) h
  · exact k_iret d_K_name_31 (Or.inl rfl) h
  · refine k_ifeq d_K_name_10 rfl (fun c7 => ?_) (fun c7 => ?_)
    · have h := ipos c7 h
      refine k_iconst d_K_name_30 cI_m1 ?_
      exact k_sb (sb_n (sb_n (sb_n sb_nil))) (hJ4 (-1) _ h)
    · have h := ineg c7 h
      refine k_aload_n d_K_name_13 rfl ?_
      refine k_aload_n d_K_name_14 rfl ?_
      refine k_getR d_K_name_15 fl_12_54 ob_12 rfl ?_
      refine k_getR d_K_name_18 fl_12_138 (doc_ob (by decide)) (dfr_3 (by decide)) ?_
      refine k_iload_n d_K_name_21 rfl ?_
      obtain ⟨p10, h⟩ := h
      refine k_ild (x := (σ1.2 (rfo 14 3) (Int.toNat a1))) d_K_name_22 (drI_3 (by decide)) p10 rfl ?_
      refine k_iload_n d_K_name_23 rfl ?_
      refine k_cvi [.inl (σ1.2 (rfo 14 3) (Int.toNat a1)), .inl a2] d_K_name_24 ml_12_141 rfl rfl ob_12 rfl (s_K_letterOf hL (by omega)  h) (fun v9 σ8 h => ?_)
      refine k_goto d_K_name_27 rfl ?_
      exact k_sb (sb_n (sb_n (sb_n sb_nil))) (hJ4 v9 _ h)
theorem d_K_out_17 : decode b_K_out 17 = .ok (.aload_n 0, 1) := by decide +kernel
theorem d_K_out_18 : decode b_K_out 18 = .ok (.getfield 65, 3) := by decide +kernel
theorem d_K_out_21 : decode b_K_out 21 = .ok (.iload_n 1, 1) := by decide +kernel
theorem d_K_out_22 : decode b_K_out 22 = .ok (.baload, 1) := by decide +kernel
theorem d_K_out_23 : decode b_K_out 23 = .ok (.sipush 255, 3) := by decide +kernel
theorem d_K_out_26 : decode b_K_out 26 = .ok (.iand, 1) := by decide +kernel
theorem d_K_out_27 : decode b_K_out 27 = .ok (.goto 4, 3) := by decide +kernel
/-- K_out -/
def w_K_out (L : Nat → Nat) (a1 : Int) (Q : Int → IS → Prop) (σ : IS) : Prop := ((¬ a1 < 0 → (a1 < (σ.1 12 9) → inL L 244 a1))) ∧ Q (if a1 < 0 then ((-1) : Int) else (if a1 < (σ.1 12 9) then (ia (σ.2 244 (Int.toNat a1)) 255) else ((-1) : Int))) (pf σ 12 11 0)
set_option maxHeartbeats 4000000 in
set_option maxRecDepth 20000 in
theorem s_K_out {L : Nat → Nat} (hL : ∀ r, L r < 2147483648) {d : Nat} (hd : 0 ≤ d) {a1 : Int} {Q : Int → IS → Prop} {σ : IS}  (h : w_K_out L a1 Q σ) : OkI BF L d 12 b_K_out 2 1 0 [] [some (.inr 12), some (.inl a1)] σ (qi Q) := by
  unfold w_K_out at h
  refine k_sb (lv' := [some (.inr 12), some (.inl a1)]) (sb_s (sb_s sb_nil)) ?_
  refine k_aload_n d_K_out_0 rfl ?_
  refine k_iconst d_K_out_1 cI_0 ?_
  refine k_putI d_K_out_2 fl_12_88 ob_12 rfl ?_
  refine k_iload_n d_K_out_5 rfl ?_
  obtain ⟨pt3, h⟩ := h
  have hV2 : OkI BF L d 12 b_K_out 2 1 31 [.inl (if a1 < 0 then ((-1) : Int) else (if a1 < (σ.1 12 9) then (ia (σ.2 244 (Int.toNat a1)) 255) else ((-1) : Int)))] [some (.inr 12), some (.inl a1)] (pf σ 12 11 0) (qi Q) := by
    exact k_iret d_K_out_31 (Or.inl rfl) h
  have pb4 := pt3
  refine k_iflt d_K_out_6 rfl (fun c5 => ?_) (fun c5 => ?_)
  · have hV6 := k_eqI (if_pos c5) hV2
    refine k_iconst d_K_out_30 cI_m1 ?_
    exact hV6
  · have pb4 := pb4 c5
    have hV7 := k_eqI (if_neg c5) hV2
    have pa8 := pb4
    refine k_iload_n d_K_out_9 rfl ?_
    refine k_aload_n d_K_out_10 rfl ?_
    refine k_getI (x := (σ.1 12 9)) d_K_out_11 fl_12_188 ob_12 rfl rfl ?_
    refine k_icge d_K_out_14 rfl (fun c9 => ?_) (fun c9 => ?_)
    · have hV11 := k_eqI (if_neg c9) hV7
      refine k_iconst d_K_out_30 cI_m1 ?_
      exact hV11
    · have pa8 := pa8 c9
      have hV10 := k_eqI (if_pos c9) hV7
      have p1 := pa8
      refine k_aload_n d_K_out_17 rfl ?_
      refine k_getR d_K_out_18 fl_12_65 ob_12 rfl ?_
      refine k_iload_n d_K_out_21 rfl ?_
      refine k_bld (x := (σ.2 244 (Int.toNat a1))) d_K_out_22 rB_244 p1 rfl ?_
      refine k_sipush d_K_out_23 cS_255 ?_
      refine k_iand d_K_out_26 ?_
      refine k_goto d_K_out_27 rfl ?_
      exact hV10
theorem d_K_parent_13 : decode b_K_parent 13 = .ok (.aload_n 0, 1) := by decide +kernel
theorem d_K_parent_14 : decode b_K_parent 14 = .ok (.getfield 54, 3) := by decide +kernel
theorem d_K_parent_17 : decode b_K_parent 17 = .ok (.getfield 127, 3) := by decide +kernel
theorem d_K_parent_20 : decode b_K_parent 20 = .ok (.iload_n 1, 1) := by decide +kernel
theorem d_K_parent_21 : decode b_K_parent 21 = .ok (.iaload, 1) := by decide +kernel
theorem d_K_parent_22 : decode b_K_parent 22 = .ok (.goto 4, 3) := by decide +kernel
/-- K_parent -/
def w_K_parent (L : Nat → Nat) (a1 : Int) (Q : Int → IS → Prop) (σ : IS) : Prop := w_K_isElement L a1 (fun v2 σ1 => ((¬ v2 = 0 → inL L (rfo 14 4) a1)) ∧ Q (if v2 = 0 then ((-1) : Int) else (σ1.2 (rfo 14 4) (Int.toNat a1))) σ1) (pf σ 12 11 0)
set_option maxHeartbeats 4000000 in
set_option maxRecDepth 20000 in
theorem s_K_parent {L : Nat → Nat} (hL : ∀ r, L r < 2147483648) {d : Nat} (hd : 1 ≤ d) {a1 : Int} {Q : Int → IS → Prop} {σ : IS}  (h : w_K_parent L a1 Q σ) : OkI BF L d 12 b_K_parent 2 1 0 [] [some (.inr 12), some (.inl a1)] σ (qi Q) := by
  unfold w_K_parent at h
  obtain ⟨d, rfl⟩ : ∃ e, d = e + 1 := ⟨d - 1, by omega⟩
  refine k_sb (lv' := [some (.inr 12), some (.inl a1)]) (sb_s (sb_s sb_nil)) ?_
  refine k_aload_n d_K_parent_0 rfl ?_
  refine k_iconst d_K_parent_1 cI_0 ?_
  refine k_putI d_K_parent_2 fl_12_88 ob_12 rfl ?_
  refine k_aload_n d_K_parent_5 rfl ?_
  refine k_iload_n d_K_parent_6 rfl ?_
  refine k_cvi [.inl a1] d_K_parent_7 ml_12_121 rfl rfl ob_12 rfl (s_K_isElement hL (by omega)  h) (fun v2 σ1 h => ?_)
  obtain ⟨pt5, h⟩ := h
  have hV4 : OkI BF L (d + 1) 12 b_K_parent 2 1 26 [.inl (if v2 = 0 then ((-1) : Int) else (σ1.2 (rfo 14 4) (Int.toNat a1)))] [some (.inr 12), some (.inl a1)] σ1 (qi Q) := by
    exact k_iret d_K_parent_26 (Or.inl rfl) h
  have pb6 := pt5
  refine k_ifeq d_K_parent_10 rfl (fun c7 => ?_) (fun c7 => ?_)
  · have hV8 := k_eqI (if_pos c7) hV4
    refine k_iconst d_K_parent_25 cI_m1 ?_
    exact hV8
  · have pb6 := pb6 c7
    have hV9 := k_eqI (if_neg c7) hV4
    have p3 := pb6
    refine k_aload_n d_K_parent_13 rfl ?_
    refine k_getR d_K_parent_14 fl_12_54 ob_12 rfl ?_
    refine k_getR d_K_parent_17 fl_12_127 (doc_ob (by decide)) (dfr_4 (by decide)) ?_
    refine k_iload_n d_K_parent_20 rfl ?_
    refine k_ild (x := (σ1.2 (rfo 14 4) (Int.toNat a1))) d_K_parent_21 (drI_4 (by decide)) p3 rfl ?_
    refine k_goto d_K_parent_22 rfl ?_
    exact hV9
/-- K_place -/
def w_K_place (L : Nat → Nat)  (Q : Int → IS → Prop) (σ : IS) : Prop := Q (σ.1 12 13) (pf σ 12 11 0)
set_option maxHeartbeats 4000000 in
set_option maxRecDepth 20000 in
theorem s_K_place {L : Nat → Nat} (hL : ∀ r, L r < 2147483648) {d : Nat} (hd : 0 ≤ d)  {Q : Int → IS → Prop} {σ : IS}  (h : w_K_place L  Q σ) : OkI BF L d 12 b_K_place 1 1 0 [] [some (.inr 12)] σ (qi Q) := by
  unfold w_K_place at h
  refine k_sb (lv' := [some (.inr 12)]) (sb_s sb_nil) ?_
  refine k_aload_n d_K_place_0 rfl ?_
  refine k_iconst d_K_place_1 cI_0 ?_
  refine k_putI d_K_place_2 fl_12_88 ob_12 rfl ?_
  refine k_aload_n d_K_place_5 rfl ?_
  refine k_getI (x := (σ.1 12 13)) d_K_place_6 fl_12_77 ob_12 rfl rfl ?_
  exact k_iret d_K_place_9 (Or.inl rfl) h
theorem d_K_spaces_12 : decode b_K_spaces 12 = .ok (.iload_n 1, 1) := by decide +kernel
theorem d_K_spaces_13 : decode b_K_spaces 13 = .ok (.ifCond .lt 21, 3) := by decide +kernel
theorem d_K_spaces_16 : decode b_K_spaces 16 = .ok (.iload_n 1, 1) := by decide +kernel
theorem d_K_spaces_17 : decode b_K_spaces 17 = .ok (.bipush 6, 2) := by decide +kernel
theorem d_K_spaces_19 : decode b_K_spaces 19 = .ok (.if_icmp .ge 15, 3) := by decide +kernel
theorem d_K_spaces_22 : decode b_K_spaces 22 = .ok (.aload_n 0, 1) := by decide +kernel
theorem d_K_spaces_23 : decode b_K_spaces 23 = .ok (.getfield 54, 3) := by decide +kernel
theorem d_K_spaces_26 : decode b_K_spaces 26 = .ok (.getfield 115, 3) := by decide +kernel
theorem d_K_spaces_29 : decode b_K_spaces 29 = .ok (.iload_n 1, 1) := by decide +kernel
theorem d_K_spaces_30 : decode b_K_spaces 30 = .ok (.iaload, 1) := by decide +kernel
theorem d_K_spaces_31 : decode b_K_spaces 31 = .ok (.goto 4, 3) := by decide +kernel
/-- K_spaces -/
def w_K_spaces (L : Nat → Nat) (a1 : Int) (Q : Int → IS → Prop) (σ : IS) : Prop := ((¬ (σ.1 12 6) = 0 → (¬ a1 < 0 → (a1 < 6 → inL L (rfo 14 19) a1)))) ∧ Q (if (σ.1 12 6) = 0 then ((-1) : Int) else (if a1 < 0 then ((-1) : Int) else (if a1 < 6 then (σ.2 (rfo 14 19) (Int.toNat a1)) else ((-1) : Int)))) (pf σ 12 11 0)
set_option maxHeartbeats 4000000 in
set_option maxRecDepth 20000 in
theorem s_K_spaces {L : Nat → Nat} (hL : ∀ r, L r < 2147483648) {d : Nat} (hd : 0 ≤ d) {a1 : Int} {Q : Int → IS → Prop} {σ : IS}  (h : w_K_spaces L a1 Q σ) : OkI BF L d 12 b_K_spaces 2 1 0 [] [some (.inr 12), some (.inl a1)] σ (qi Q) := by
  unfold w_K_spaces at h
  refine k_sb (lv' := [some (.inr 12), some (.inl a1)]) (sb_s (sb_s sb_nil)) ?_
  refine k_aload_n d_K_spaces_0 rfl ?_
  refine k_iconst d_K_spaces_1 cI_0 ?_
  refine k_putI d_K_spaces_2 fl_12_88 ob_12 rfl ?_
  refine k_aload_n d_K_spaces_5 rfl ?_
  refine k_getI (x := (σ.1 12 6)) d_K_spaces_6 fl_12_102 ob_12 rfl rfl ?_
  obtain ⟨pt3, h⟩ := h
  have hV2 : OkI BF L d 12 b_K_spaces 2 1 35 [.inl (if (σ.1 12 6) = 0 then ((-1) : Int) else (if a1 < 0 then ((-1) : Int) else (if a1 < 6 then (σ.2 (rfo 14 19) (Int.toNat a1)) else ((-1) : Int))))] [some (.inr 12), some (.inl a1)] (pf σ 12 11 0) (qi Q) := by
    exact k_iret d_K_spaces_35 (Or.inl rfl) h
  have pb4 := pt3
  refine k_ifeq d_K_spaces_9 rfl (fun c5 => ?_) (fun c5 => ?_)
  · have hV6 := k_eqI (if_pos c5) hV2
    refine k_iconst d_K_spaces_34 cI_m1 ?_
    exact hV6
  · have pb4 := pb4 c5
    have hV7 := k_eqI (if_neg c5) hV2
    have pb8 := pb4
    refine k_iload_n d_K_spaces_12 rfl ?_
    refine k_iflt d_K_spaces_13 rfl (fun c9 => ?_) (fun c9 => ?_)
    · have hV10 := k_eqI (if_pos c9) hV7
      refine k_iconst d_K_spaces_34 cI_m1 ?_
      exact hV10
    · have pb8 := pb8 c9
      have hV11 := k_eqI (if_neg c9) hV7
      have pa12 := pb8
      refine k_iload_n d_K_spaces_16 rfl ?_
      refine k_bipush d_K_spaces_17 cB_6 ?_
      refine k_icge d_K_spaces_19 rfl (fun c13 => ?_) (fun c13 => ?_)
      · have hV15 := k_eqI (if_neg c13) hV11
        refine k_iconst d_K_spaces_34 cI_m1 ?_
        exact hV15
      · have pa12 := pa12 c13
        have hV14 := k_eqI (if_pos c13) hV11
        have p1 := pa12
        refine k_aload_n d_K_spaces_22 rfl ?_
        refine k_getR d_K_spaces_23 fl_12_54 ob_12 rfl ?_
        refine k_getR d_K_spaces_26 fl_12_115 (doc_ob (by decide)) (dfr_19 (by decide)) ?_
        refine k_iload_n d_K_spaces_29 rfl ?_
        refine k_ild (x := (σ.2 (rfo 14 19) (Int.toNat a1))) d_K_spaces_30 (drI_19 (by decide)) p1 rfl ?_
        refine k_goto d_K_spaces_31 rfl ?_
        exact hV14
theorem d_KReader_beginLetters_0 : decode b_KReader_beginLetters 0 = .ok (.aload_n 0, 1) := by decide +kernel
theorem d_KReader_beginLetters_1 : decode b_KReader_beginLetters 1 = .ok (.iconst 0, 1) := by decide +kernel
theorem d_KReader_beginLetters_2 : decode b_KReader_beginLetters 2 = .ok (.putfield 172, 3) := by decide +kernel
theorem d_KReader_beginLetters_5 : decode b_KReader_beginLetters 5 = .ok (.return_, 1) := by decide +kernel
/-- KReader_beginLetters -/
def w_KReader_beginLetters (L : Nat → Nat)  (Q : IS → Prop) (σ : IS) : Prop := Q (pf σ 16 6 0)
set_option maxHeartbeats 4000000 in
set_option maxRecDepth 20000 in
theorem s_KReader_beginLetters {L : Nat → Nat} (hL : ∀ r, L r < 2147483648) {d : Nat} (hd : 0 ≤ d)  {Q : IS → Prop} {σ : IS}  (h : w_KReader_beginLetters L  Q σ) : OkI BF L d 15 b_KReader_beginLetters 1 0 0 [] [some (.inr 16)] σ (qv Q) := by
  unfold w_KReader_beginLetters at h
  refine k_sb (lv' := [some (.inr 16)]) (sb_s sb_nil) ?_
  refine k_aload_n d_KReader_beginLetters_0 rfl ?_
  refine k_iconst d_KReader_beginLetters_1 cI_0 ?_
  refine k_putI d_KReader_beginLetters_2 fl_15_172 ob_16 rfl ?_
  exact k_ret d_KReader_beginLetters_5 h
theorem d_KWriter_writeTo_0 : decode b_KWriter_writeTo 0 = .ok (.aload_n 0, 1) := by decide +kernel
theorem d_KWriter_writeTo_1 : decode b_KWriter_writeTo 1 = .ok (.aload_n 1, 1) := by decide +kernel
theorem d_KWriter_writeTo_2 : decode b_KWriter_writeTo 2 = .ok (.putfield 74, 3) := by decide +kernel
theorem d_KWriter_writeTo_5 : decode b_KWriter_writeTo 5 = .ok (.aload_n 0, 1) := by decide +kernel
theorem d_KWriter_writeTo_6 : decode b_KWriter_writeTo 6 = .ok (.iconst 1, 1) := by decide +kernel
theorem d_KWriter_writeTo_7 : decode b_KWriter_writeTo 7 = .ok (.putfield 26, 3) := by decide +kernel
theorem d_KWriter_writeTo_10 : decode b_KWriter_writeTo 10 = .ok (.aload_n 0, 1) := by decide +kernel
theorem d_KWriter_writeTo_11 : decode b_KWriter_writeTo 11 = .ok (.aload_n 2, 1) := by decide +kernel
theorem d_KWriter_writeTo_12 : decode b_KWriter_writeTo 12 = .ok (.putfield 38, 3) := by decide +kernel
theorem d_KWriter_writeTo_15 : decode b_KWriter_writeTo 15 = .ok (.aload_n 2, 1) := by decide +kernel
theorem d_KWriter_writeTo_16 : decode b_KWriter_writeTo 16 = .ok (.invokevirtual 234, 3) := by decide +kernel
theorem d_KWriter_writeTo_19 : decode b_KWriter_writeTo 19 = .ok (.aload_n 0, 1) := by decide +kernel
theorem d_KWriter_writeTo_20 : decode b_KWriter_writeTo 20 = .ok (.invokevirtual 231, 3) := by decide +kernel
theorem d_KWriter_writeTo_23 : decode b_KWriter_writeTo 23 = .ok (.return_, 1) := by decide +kernel
/-- KWriter_writeTo -/
def w_KWriter_writeTo (L : Nat → Nat) (a1 : Nat) (Q : IS → Prop) (σ : IS) : Prop := w_KReader_beginLetters L  (fun σ1 => w_KWriter_write L  (fun σ3 => Q σ3) σ1) (pf (pf (pf σ 17 1 ((a1 : Nat) : Int)) 17 3 1) 17 2 ((16 : Nat) : Int))
set_option maxHeartbeats 4000000 in
set_option maxRecDepth 20000 in
theorem s_KWriter_writeTo {L : Nat → Nat} (hL : ∀ r, L r < 2147483648) {d : Nat} (hd : 9 ≤ d) {a1 : Nat} {Q : IS → Prop} {σ : IS} (ha1 : isDoc a1) (h : w_KWriter_writeTo L a1 Q σ) : OkI BF L d 16 b_KWriter_writeTo 3 0 0 [] [some (.inr 17), some (.inr a1), some (.inr 16)] σ (qv Q) := by
  unfold w_KWriter_writeTo at h
  obtain ⟨d, rfl⟩ : ∃ e, d = e + 1 := ⟨d - 1, by omega⟩
  refine k_sb (lv' := [some (.inr 17), some (.inr a1), some (.inr 16)]) (sb_s (sb_s (sb_s sb_nil))) ?_
  refine k_aload_n d_KWriter_writeTo_0 rfl ?_
  refine k_aload_n d_KWriter_writeTo_1 rfl ?_
  refine k_putD d_KWriter_writeTo_2 fl_16_74 ob_17 rfl (doc_lt ha1) ?_
  refine k_aload_n d_KWriter_writeTo_5 rfl ?_
  refine k_iconst d_KWriter_writeTo_6 cI_1 ?_
  refine k_putI d_KWriter_writeTo_7 fl_16_26 ob_17 rfl ?_
  refine k_aload_n d_KWriter_writeTo_10 rfl ?_
  refine k_aload_n d_KWriter_writeTo_11 rfl ?_
  refine k_putD d_KWriter_writeTo_12 fl_16_38 ob_17 rfl (by decide) ?_
  refine k_aload_n d_KWriter_writeTo_15 rfl ?_
  refine k_cvv [] d_KWriter_writeTo_16 ml_16_234 rfl rfl ob_16 rfl (s_KReader_beginLetters hL (by omega)  h) (fun σ1 h => ?_)
  refine k_aload_n d_KWriter_writeTo_19 rfl ?_
  refine k_cvv [] d_KWriter_writeTo_20 ml_16_231 rfl rfl ob_17 rfl (s_KWriter_write hL (by omega)  h) (fun σ3 h => ?_)
  exact k_ret d_KWriter_writeTo_23 h
theorem d_KReader_readLetters_0 : decode b_KReader_readLetters 0 = .ok (.aload_n 0, 1) := by decide +kernel
theorem d_KReader_readLetters_1 : decode b_KReader_readLetters 1 = .ok (.getfield 172, 3) := by decide +kernel
theorem d_KReader_readLetters_4 : decode b_KReader_readLetters 4 = .ok (.istore 4, 2) := by decide +kernel
theorem d_KReader_readLetters_6 : decode b_KReader_readLetters 6 = .ok (.aload_n 0, 1) := by decide +kernel
theorem d_KReader_readLetters_7 : decode b_KReader_readLetters 7 = .ok (.aload_n 1, 1) := by decide +kernel
theorem d_KReader_readLetters_8 : decode b_KReader_readLetters 8 = .ok (.iload_n 2, 1) := by decide +kernel
theorem d_KReader_readLetters_9 : decode b_KReader_readLetters 9 = .ok (.iload_n 3, 1) := by decide +kernel
theorem d_KReader_readLetters_10 : decode b_KReader_readLetters 10 = .ok (.invokevirtual 355, 3) := by decide +kernel
theorem d_KReader_readLetters_13 : decode b_KReader_readLetters 13 = .ok (.aload_n 0, 1) := by decide +kernel
theorem d_KReader_readLetters_14 : decode b_KReader_readLetters 14 = .ok (.iload 4, 2) := by decide +kernel
theorem d_KReader_readLetters_16 : decode b_KReader_readLetters 16 = .ok (.putfield 172, 3) := by decide +kernel
theorem d_KReader_readLetters_19 : decode b_KReader_readLetters 19 = .ok (.aload_n 0, 1) := by decide +kernel
theorem d_KReader_readLetters_20 : decode b_KReader_readLetters 20 = .ok (.iconst 0, 1) := by decide +kernel
theorem d_KReader_readLetters_21 : decode b_KReader_readLetters 21 = .ok (.putfield 237, 3) := by decide +kernel
theorem d_KReader_readLetters_24 : decode b_KReader_readLetters 24 = .ok (.iconst 0, 1) := by decide +kernel
theorem d_KReader_readLetters_25 : decode b_KReader_readLetters 25 = .ok (.istore 5, 2) := by decide +kernel
theorem d_KReader_readLetters_27 : decode b_KReader_readLetters 27 = .ok (.iload 5, 2) := by decide +kernel
theorem d_KReader_readLetters_29 : decode b_KReader_readLetters 29 = .ok (.iload 4, 2) := by decide +kernel
theorem d_KReader_readLetters_31 : decode b_KReader_readLetters 31 = .ok (.if_icmp .ge 40, 3) := by decide +kernel
theorem d_KReader_readLetters_34 : decode b_KReader_readLetters 34 = .ok (.aload_n 0, 1) := by decide +kernel
theorem d_KReader_readLetters_35 : decode b_KReader_readLetters 35 = .ok (.getfield 45, 3) := by decide +kernel
theorem d_KReader_readLetters_38 : decode b_KReader_readLetters 38 = .ok (.iload 5, 2) := by decide +kernel
theorem d_KReader_readLetters_40 : decode b_KReader_readLetters 40 = .ok (.iaload, 1) := by decide +kernel
theorem d_KReader_readLetters_41 : decode b_KReader_readLetters 41 = .ok (.invokestatic 251, 3) := by decide +kernel
theorem d_KReader_readLetters_44 : decode b_KReader_readLetters 44 = .ok (.ifCond .eq 15, 3) := by decide +kernel
theorem d_KReader_readLetters_47 : decode b_KReader_readLetters 47 = .ok (.aload_n 0, 1) := by decide +kernel
theorem d_KReader_readLetters_48 : decode b_KReader_readLetters 48 = .ok (.getfield 45, 3) := by decide +kernel
theorem d_KReader_readLetters_51 : decode b_KReader_readLetters 51 = .ok (.iload 5, 2) := by decide +kernel
theorem d_KReader_readLetters_53 : decode b_KReader_readLetters 53 = .ok (.iaload, 1) := by decide +kernel
theorem d_KReader_readLetters_54 : decode b_KReader_readLetters 54 = .ok (.bipush 13, 2) := by decide +kernel
theorem d_KReader_readLetters_56 : decode b_KReader_readLetters 56 = .ok (.if_icmp .ne 9, 3) := by decide +kernel
theorem d_KReader_readLetters_59 : decode b_KReader_readLetters 59 = .ok (.aload_n 0, 1) := by decide +kernel
theorem d_KReader_readLetters_60 : decode b_KReader_readLetters 60 = .ok (.iconst 1, 1) := by decide +kernel
theorem d_KReader_readLetters_61 : decode b_KReader_readLetters 61 = .ok (.invokevirtual 392, 3) := by decide +kernel
theorem d_KReader_readLetters_64 : decode b_KReader_readLetters 64 = .ok (.ireturn, 1) := by decide +kernel
theorem d_KReader_readLetters_65 : decode b_KReader_readLetters 65 = .ok (.iinc 5 1, 3) := by decide +kernel
theorem d_KReader_readLetters_68 : decode b_KReader_readLetters 68 = .ok (.goto (-41), 3) := by decide +kernel
theorem d_KReader_readLetters_71 : decode b_KReader_readLetters 71 = .ok (.aload_n 0, 1) := by decide +kernel
theorem d_KReader_readLetters_72 : decode b_KReader_readLetters 72 = .ok (.invokevirtual 255, 3) := by decide +kernel
theorem d_KReader_readLetters_75 : decode b_KReader_readLetters 75 = .ok (.aload_n 0, 1) := by decide +kernel
theorem d_KReader_readLetters_76 : decode b_KReader_readLetters 76 = .ok (.invokevirtual 363, 3) := by decide +kernel
theorem d_KReader_readLetters_79 : decode b_KReader_readLetters 79 = .ok (.ireturn, 1) := by decide +kernel
/-- KReader_readLetters -/
def w_KReader_readLetters (L : Nat → Nat) (a1 : Nat) (a2 : Int) (a3 : Int) (Q : Int → IS → Prop) (σ : IS) : Prop := w_KReader_begin L a1 a2 a3 (fun σ1 => WL (fun (K3 : Int → IS → Prop) (s5 : Int) (σ6 : IS) => if s5 < (σ.1 16 6) then inL L 176 s5 ∧ w_K_isCharacter L (σ6.2 176 (Int.toNat s5)) (fun v14 σ13 => ((¬ v14 = 0 → inL L 176 s5)) ∧ if ¬ v14 = 0 ∧ (¬ (σ13.2 176 (Int.toNat s5)) = 13) then inR (s5 + 1) ∧ K3 (s5 + 1) σ13 else w_KReader_fail L 1 (fun v18 σ17 => is01 v18 ∧ Q v18 σ17) σ13) σ6 else w_KReader_endLines L  (fun σ8 => w_KReader_judgeText L  (fun v11 σ10 => is01 v11 ∧ Q v11 σ10) σ8) σ6) 0 (pf (pf σ1 16 6 (σ.1 16 6)) 16 8 0)) σ
set_option maxHeartbeats 4000000 in
set_option maxRecDepth 20000 in
theorem s_KReader_readLetters {L : Nat → Nat} (hL : ∀ r, L r < 2147483648) {d : Nat} (hd : 79 ≤ d) {a1 : Nat} {a2 : Int} {a3 : Int} {Q : Int → IS → Prop} {σ : IS} (ha1 : isDoc a1) (h : w_KReader_readLetters L a1 a2 a3 Q σ) : OkI BF L d 15 b_KReader_readLetters 6 2 0 [] [some (.inr 16), some (.inr a1), some (.inl a2), some (.inl a3)] σ (qi Q) := by
  unfold w_KReader_readLetters at h
  obtain ⟨d, rfl⟩ : ∃ e, d = e + 1 := ⟨d - 1, by omega⟩
  refine k_sb (lv' := [some (.inr 16), some (.inr a1), some (.inl a2), some (.inl a3), none, none]) (sb_s (sb_s (sb_s (sb_s (sb_e (sb_e sb_nil)))))) ?_
  refine k_aload_n d_KReader_readLetters_0 rfl ?_
  refine k_getI (x := (σ.1 16 6)) d_KReader_readLetters_1 fl_15_172 ob_16 rfl rfl ?_
  refine k_istore (lv' := [some (.inr 16), some (.inr a1), some (.inl a2), some (.inl a3), some (.inl (σ.1 16 6)), none]) d_KReader_readLetters_4 rfl rfl ?_
  refine k_aload_n d_KReader_readLetters_6 rfl ?_
  refine k_aload_n d_KReader_readLetters_7 rfl ?_
  refine k_iload_n d_KReader_readLetters_8 rfl ?_
  refine k_iload_n d_KReader_readLetters_9 rfl ?_
  refine k_cvv [.inr a1, .inl a2, .inl a3] d_KReader_readLetters_10 ml_15_355 rfl rfl ob_16 rfl (s_KReader_begin hL (by omega) ha1 h) (fun σ1 h => ?_)
  refine k_aload_n d_KReader_readLetters_13 rfl ?_
  refine k_iload d_KReader_readLetters_14 rfl ?_
  refine k_putI d_KReader_readLetters_16 fl_15_172 ob_16 rfl ?_
  refine k_aload_n d_KReader_readLetters_19 rfl ?_
  refine k_iconst d_KReader_readLetters_20 cI_0 ?_
  refine k_putZ d_KReader_readLetters_21 fl_15_237 ob_16 rfl (Or.inl rfl) ?_
  refine k_iconst d_KReader_readLetters_24 cI_0 ?_
  refine k_istore (lv' := [some (.inr 16), some (.inr a1), some (.inl a2), some (.inl a3), some (.inl (σ.1 16 6)), some (.inl 0)]) d_KReader_readLetters_25 rfl rfl ?_
  refine k_sb (lv' := [some (.inr 16), none, none, none, some (.inl (σ.1 16 6)), some (.inl 0)]) (sb_s (sb_n (sb_n (sb_n (sb_s (sb_s sb_nil)))))) ?_
  refine k_loop (S := Int) (st := fun _ => []) (lv := fun s5 => [some (.inr 16), none, none, none, some (.inl (σ.1 16 6)), some (.inl s5)]) (fun K3 hK4 s5 σ6 h => ?_) 0 _ h
  refine k_iload d_KReader_readLetters_27 rfl ?_
  refine k_iload d_KReader_readLetters_29 rfl ?_
  refine k_icge d_KReader_readLetters_31 rfl (fun c7 => ?_) (fun c7 => ?_)
  · have h := ineg c7 h
    refine k_aload_n d_KReader_readLetters_71 rfl ?_
    refine k_cvv [] d_KReader_readLetters_72 ml_15_255 rfl rfl ob_16 rfl (s_KReader_endLines hL (by omega)  h) (fun σ8 h => ?_)
    refine k_aload_n d_KReader_readLetters_75 rfl ?_
    refine k_cvi [] d_KReader_readLetters_76 ml_15_363 rfl rfl ob_16 rfl (s_KReader_judgeText hL (by omega)  h) (fun v11 σ10 h => ?_)
    obtain ⟨p12, h⟩ := h
    exact k_iret d_KReader_readLetters_79 (Or.inr ⟨rfl, p12⟩) h
  · have h := ipos c7 h
    refine k_aload_n d_KReader_readLetters_34 rfl ?_
    refine k_getR d_KReader_readLetters_35 fl_15_45 ob_16 rfl ?_
    refine k_iload d_KReader_readLetters_38 rfl ?_
    obtain ⟨p27, h⟩ := h
    refine k_ild (x := (σ6.2 176 (Int.toNat s5))) d_KReader_readLetters_40 rI_176 p27 rfl ?_
    refine k_csi [.inl (σ6.2 176 (Int.toNat s5))] d_KReader_readLetters_41 ml_15_251 (Or.inr rfl) rfl rfl rfl (s_K_isCharacter hL (by omega)  h) (fun v14 σ13 h => ?_)
    obtain ⟨pt23, h⟩ := h
    have hX20 : (¬ v14 = 0 ∧ (¬ (σ13.2 176 (Int.toNat s5)) = 13)) → OkI BF L (d + 1) 15 b_KReader_readLetters 6 2 65 [] [some (.inr 16), none, none, none, some (.inl (σ.1 16 6)), some (.inl s5)] σ13 (qi Q) := fun e22 => by
      have h := ipos e22 h
      obtain ⟨p16, h⟩ := h
      refine k_iinc (lv' := [some (.inr 16), none, none, none, some (.inl (σ.1 16 6)), some (.inl (s5 + 1))]) d_KReader_readLetters_65 cI_1 rfl rfl p16 rfl ?_
      refine k_goto d_KReader_readLetters_68 rfl ?_
      exact k_sb (sb_s (sb_s (sb_s (sb_s (sb_s (sb_s sb_nil)))))) (hK4 (s5 + 1) _ h)
    have hY21 : ¬ (¬ v14 = 0 ∧ (¬ (σ13.2 176 (Int.toNat s5)) = 13)) → OkI BF L (d + 1) 15 b_KReader_readLetters 6 2 59 [] [some (.inr 16), none, none, none, some (.inl (σ.1 16 6)), some (.inl s5)] σ13 (qi Q) := fun e22 => by
      have h := ineg e22 h
      refine k_aload_n d_KReader_readLetters_59 rfl ?_
      refine k_iconst d_KReader_readLetters_60 cI_1 ?_
      refine k_cvi [.inl 1] d_KReader_readLetters_61 ml_15_392 rfl rfl ob_16 rfl (s_KReader_fail hL (by omega)  h) (fun v18 σ17 h => ?_)
      obtain ⟨p19, h⟩ := h
      exact k_iret d_KReader_readLetters_64 (Or.inr ⟨rfl, p19⟩) h
    have pb24 := pt23
    refine k_ifeq d_KReader_readLetters_44 rfl (fun c25 => ?_) (fun c25 => ?_)
    · exact hY21 (fun z => z.1 c25)
    · have pb24 := pb24 c25
      have p15 := pb24
      refine k_aload_n d_KReader_readLetters_47 rfl ?_
      refine k_getR d_KReader_readLetters_48 fl_15_45 ob_16 rfl ?_
      refine k_iload d_KReader_readLetters_51 rfl ?_
      refine k_ild (x := (σ13.2 176 (Int.toNat s5))) d_KReader_readLetters_53 rI_176 p15 rfl ?_
      refine k_bipush d_KReader_readLetters_54 cB_13 ?_
      refine k_icne d_KReader_readLetters_56 rfl (fun c26 => ?_) (fun c26 => ?_)
      · exact hX20 (⟨c25, c26⟩)
      · exact hY21 (fun z => (fun z => z c26) z.2)
theorem d_KWriter_isBeside_0 : decode b_KWriter_isBeside 0 = .ok (.aload_n 0, 1) := by decide +kernel
theorem d_KWriter_isBeside_1 : decode b_KWriter_isBeside 1 = .ok (.aload_n 1, 1) := by decide +kernel
theorem d_KWriter_isBeside_2 : decode b_KWriter_isBeside 2 = .ok (.putfield 74, 3) := by decide +kernel
theorem d_KWriter_isBeside_5 : decode b_KWriter_isBeside 5 = .ok (.aload_n 0, 1) := by decide +kernel
theorem d_KWriter_isBeside_6 : decode b_KWriter_isBeside 6 = .ok (.iconst 2, 1) := by decide +kernel
theorem d_KWriter_isBeside_7 : decode b_KWriter_isBeside 7 = .ok (.putfield 26, 3) := by decide +kernel
theorem d_KWriter_isBeside_10 : decode b_KWriter_isBeside 10 = .ok (.aload_n 0, 1) := by decide +kernel
theorem d_KWriter_isBeside_11 : decode b_KWriter_isBeside 11 = .ok (.aload_n 2, 1) := by decide +kernel
theorem d_KWriter_isBeside_12 : decode b_KWriter_isBeside 12 = .ok (.putfield 38, 3) := by decide +kernel
theorem d_KWriter_isBeside_15 : decode b_KWriter_isBeside 15 = .ok (.aload_n 0, 1) := by decide +kernel
theorem d_KWriter_isBeside_16 : decode b_KWriter_isBeside 16 = .ok (.invokevirtual 231, 3) := by decide +kernel
theorem d_KWriter_isBeside_19 : decode b_KWriter_isBeside 19 = .ok (.aload_n 0, 1) := by decide +kernel
theorem d_KWriter_isBeside_20 : decode b_KWriter_isBeside 20 = .ok (.getfield 48, 3) := by decide +kernel
theorem d_KWriter_isBeside_23 : decode b_KWriter_isBeside 23 = .ok (.ifCond .ne 18, 3) := by decide +kernel
theorem d_KWriter_isBeside_26 : decode b_KWriter_isBeside 26 = .ok (.aload_n 0, 1) := by decide +kernel
theorem d_KWriter_isBeside_27 : decode b_KWriter_isBeside 27 = .ok (.getfield 52, 3) := by decide +kernel
theorem d_KWriter_isBeside_30 : decode b_KWriter_isBeside 30 = .ok (.aload_n 2, 1) := by decide +kernel
theorem d_KWriter_isBeside_31 : decode b_KWriter_isBeside 31 = .ok (.invokevirtual 55, 3) := by decide +kernel
theorem d_KWriter_isBeside_34 : decode b_KWriter_isBeside 34 = .ok (.if_icmp .ne 7, 3) := by decide +kernel
theorem d_KWriter_isBeside_37 : decode b_KWriter_isBeside 37 = .ok (.iconst 1, 1) := by decide +kernel
theorem d_KWriter_isBeside_38 : decode b_KWriter_isBeside 38 = .ok (.goto 4, 3) := by decide +kernel
theorem d_KWriter_isBeside_41 : decode b_KWriter_isBeside 41 = .ok (.iconst 0, 1) := by decide +kernel
theorem d_KWriter_isBeside_42 : decode b_KWriter_isBeside 42 = .ok (.ireturn, 1) := by decide +kernel
/-- KWriter_isBeside -/
def w_KWriter_isBeside (L : Nat → Nat) (a1 : Nat) (Q : Int → IS → Prop) (σ : IS) : Prop := w_KWriter_write L  (fun σ1 => WJ (fun (s5 : Int) (σ6 : IS) => is01 s5 ∧ Q s5 σ6) (fun J3 => WJ (fun (s10 : Unit) (σ11 : IS) => J3 0 σ11) (fun J8 => if (σ1.1 17 5) = 0 then w_KReader_letters L  (fun v14 σ13 => if (σ1.1 17 9) = v14 then J3 1 σ13 else J8 () σ13) σ1 else J8 () σ1))) (pf (pf (pf σ 17 1 ((a1 : Nat) : Int)) 17 3 2) 17 2 ((16 : Nat) : Int))
set_option maxHeartbeats 4000000 in
set_option maxRecDepth 20000 in
theorem s_KWriter_isBeside {L : Nat → Nat} (hL : ∀ r, L r < 2147483648) {d : Nat} (hd : 9 ≤ d) {a1 : Nat} {Q : Int → IS → Prop} {σ : IS} (ha1 : isDoc a1) (h : w_KWriter_isBeside L a1 Q σ) : OkI BF L d 16 b_KWriter_isBeside 3 2 0 [] [some (.inr 17), some (.inr a1), some (.inr 16)] σ (qi Q) := by
  unfold w_KWriter_isBeside at h
  obtain ⟨d, rfl⟩ : ∃ e, d = e + 1 := ⟨d - 1, by omega⟩
  refine k_sb (lv' := [some (.inr 17), some (.inr a1), some (.inr 16)]) (sb_s (sb_s (sb_s sb_nil))) ?_
  refine k_aload_n d_KWriter_isBeside_0 rfl ?_
  refine k_aload_n d_KWriter_isBeside_1 rfl ?_
  refine k_putD d_KWriter_isBeside_2 fl_16_74 ob_17 rfl (doc_lt ha1) ?_
  refine k_aload_n d_KWriter_isBeside_5 rfl ?_
  refine k_iconst d_KWriter_isBeside_6 cI_2 ?_
  refine k_putI d_KWriter_isBeside_7 fl_16_26 ob_17 rfl ?_
  refine k_aload_n d_KWriter_isBeside_10 rfl ?_
  refine k_aload_n d_KWriter_isBeside_11 rfl ?_
  refine k_putD d_KWriter_isBeside_12 fl_16_38 ob_17 rfl (by decide) ?_
  refine k_aload_n d_KWriter_isBeside_15 rfl ?_
  refine k_cvv [] d_KWriter_isBeside_16 ml_16_231 rfl rfl ob_17 rfl (s_KWriter_write hL (by omega)  h) (fun σ1 h => ?_)
  refine k_aload_n d_KWriter_isBeside_19 rfl ?_
  refine k_getI (x := (σ1.1 17 5)) d_KWriter_isBeside_20 fl_16_48 ob_17 rfl rfl ?_
  refine k_join (S := Int) (pc' := 42) (st' := fun s5 => [.inl s5]) (lv' := fun s5 => [none, none, none]) (fun s5 σ6 h => ?_) (fun J3 hJ4 h => ?_) h
  · obtain ⟨p7, h⟩ := h
    exact k_iret d_KWriter_isBeside_42 (Or.inr ⟨rfl, p7⟩) h
  · refine k_join (S := Unit) (pc' := 41) (st' := fun s10 => []) (lv' := fun s10 => [none, none, none]) (fun s10 σ11 h => ?_) (fun J8 hJ9 h => ?_) h
    · refine k_iconst d_KWriter_isBeside_41 cI_0 ?_
      exact k_sb (sb_s (sb_s (sb_s sb_nil))) (hJ4 0 _ h)
    · refine k_ifne d_KWriter_isBeside_23 rfl (fun c12 => ?_) (fun c12 => ?_)
      · have h := ineg c12 h
        exact k_sb (sb_n (sb_n (sb_n sb_nil))) (hJ9 () _ h)
      · have h := ipos c12 h
        refine k_aload_n d_KWriter_isBeside_26 rfl ?_
        refine k_getI (x := (σ1.1 17 9)) d_KWriter_isBeside_27 fl_16_52 ob_17 rfl rfl ?_
        refine k_aload_n d_KWriter_isBeside_30 rfl ?_
        refine k_cvi [] d_KWriter_isBeside_31 ml_16_55 rfl rfl ob_16 rfl (s_KReader_letters hL (by omega)  h) (fun v14 σ13 h => ?_)
        refine k_icne d_KWriter_isBeside_34 rfl (fun c15 => ?_) (fun c15 => ?_)
        · have h := ineg c15 h
          exact k_sb (sb_n (sb_n (sb_n sb_nil))) (hJ9 () _ h)
        · have h := ipos c15 h
          refine k_iconst d_KWriter_isBeside_37 cI_1 ?_
          refine k_goto d_KWriter_isBeside_38 rfl ?_
          exact k_sb (sb_n (sb_n (sb_n sb_nil))) (hJ4 1 _ h)
theorem d_K_steady_14 : decode b_K_steady 14 = .ok (.aload_n 0, 1) := by decide +kernel
theorem d_K_steady_15 : decode b_K_steady 15 = .ok (.getfield 73, 3) := by decide +kernel
theorem d_K_steady_18 : decode b_K_steady 18 = .ok (.aload_n 0, 1) := by decide +kernel
theorem d_K_steady_19 : decode b_K_steady 19 = .ok (.getfield 54, 3) := by decide +kernel
theorem d_K_steady_22 : decode b_K_steady 22 = .ok (.aload_n 0, 1) := by decide +kernel
theorem d_K_steady_23 : decode b_K_steady 23 = .ok (.getfield 37, 3) := by decide +kernel
theorem d_K_steady_26 : decode b_K_steady 26 = .ok (.invokevirtual 191, 3) := by decide +kernel
theorem d_K_steady_29 : decode b_K_steady 29 = .ok (.aload_n 0, 1) := by decide +kernel
theorem d_K_steady_30 : decode b_K_steady 30 = .ok (.getfield 37, 3) := by decide +kernel
theorem d_K_steady_33 : decode b_K_steady 33 = .ok (.aload_n 0, 1) := by decide +kernel
theorem d_K_steady_34 : decode b_K_steady 34 = .ok (.getfield 62, 3) := by decide +kernel
theorem d_K_steady_37 : decode b_K_steady 37 = .ok (.ldc 32, 2) := by decide +kernel
theorem d_K_steady_39 : decode b_K_steady 39 = .ok (.sipush 16384, 3) := by decide +kernel
theorem d_K_steady_42 : decode b_K_steady 42 = .ok (.invokevirtual 195, 3) := by decide +kernel
theorem d_K_steady_45 : decode b_K_steady 45 = .ok (.ifCond .eq 25, 3) := by decide +kernel
theorem d_K_steady_48 : decode b_K_steady 48 = .ok (.aload_n 0, 1) := by decide +kernel
theorem d_K_steady_49 : decode b_K_steady 49 = .ok (.getfield 73, 3) := by decide +kernel
theorem d_K_steady_52 : decode b_K_steady 52 = .ok (.aload_n 0, 1) := by decide +kernel
theorem d_K_steady_53 : decode b_K_steady 53 = .ok (.getfield 62, 3) := by decide +kernel
theorem d_K_steady_56 : decode b_K_steady 56 = .ok (.aload_n 0, 1) := by decide +kernel
theorem d_K_steady_57 : decode b_K_steady 57 = .ok (.getfield 37, 3) := by decide +kernel
theorem d_K_steady_60 : decode b_K_steady 60 = .ok (.invokevirtual 199, 3) := by decide +kernel
theorem d_K_steady_63 : decode b_K_steady 63 = .ok (.ifCond .eq 7, 3) := by decide +kernel
theorem d_K_steady_66 : decode b_K_steady 66 = .ok (.iconst 1, 1) := by decide +kernel
theorem d_K_steady_67 : decode b_K_steady 67 = .ok (.goto 4, 3) := by decide +kernel
theorem d_K_steady_70 : decode b_K_steady 70 = .ok (.iconst 0, 1) := by decide +kernel
theorem d_K_steady_71 : decode b_K_steady 71 = .ok (.ireturn, 1) := by decide +kernel
/-- K_steady -/
def w_K_steady (L : Nat → Nat)  (Q : Int → IS → Prop) (σ : IS) : Prop := w_K_refusal L  (fun v2 σ1 => if v2 = 0 then w_KWriter_writeTo L 14 (fun σ4 => w_KReader_readLetters L 15 262144 16384 (fun v7 σ6 => WJ (fun (s10 : Int) (σ11 : IS) => is01 s10 ∧ Q s10 σ11) (fun J8 => WJ (fun (s15 : Unit) (σ16 : IS) => J8 0 σ16) (fun J13 => if v7 = 0 then J13 () σ6 else w_KWriter_isBeside L 15 (fun v19 σ18 => if v19 = 0 then J13 () σ18 else J8 1 σ18) σ6))) σ4) σ1 else Q 1 σ1) (pf σ 12 11 0)
set_option maxHeartbeats 4000000 in
set_option maxRecDepth 20000 in
theorem s_K_steady {L : Nat → Nat} (hL : ∀ r, L r < 2147483648) {d : Nat} (hd : 80 ≤ d)  {Q : Int → IS → Prop} {σ : IS}  (h : w_K_steady L  Q σ) : OkI BF L d 12 b_K_steady 1 2 0 [] [some (.inr 12)] σ (qi Q) := by
  unfold w_K_steady at h
  obtain ⟨d, rfl⟩ : ∃ e, d = e + 1 := ⟨d - 1, by omega⟩
  refine k_sb (lv' := [some (.inr 12)]) (sb_s sb_nil) ?_
  refine k_aload_n d_K_steady_0 rfl ?_
  refine k_iconst d_K_steady_1 cI_0 ?_
  refine k_putI d_K_steady_2 fl_12_88 ob_12 rfl ?_
  refine k_aload_n d_K_steady_5 rfl ?_
  refine k_cvi [] d_K_steady_6 ml_12_184 rfl rfl ob_12 rfl (s_K_refusal hL (by omega)  h) (fun v2 σ1 h => ?_)
  refine k_ifeq d_K_steady_9 rfl (fun c3 => ?_) (fun c3 => ?_)
  · have h := ipos c3 h
    refine k_aload_n d_K_steady_14 rfl ?_
    refine k_getR d_K_steady_15 fl_12_73 ob_12 rfl ?_
    refine k_aload_n d_K_steady_18 rfl ?_
    refine k_getR d_K_steady_19 fl_12_54 ob_12 rfl ?_
    refine k_aload_n d_K_steady_22 rfl ?_
    refine k_getR d_K_steady_23 fl_12_37 ob_12 rfl ?_
    refine k_cvv [.inr 14, .inr 16] d_K_steady_26 ml_12_191 rfl rfl ob_17 rfl (s_KWriter_writeTo hL (by omega) (by decide) h) (fun σ4 h => ?_)
    refine k_aload_n d_K_steady_29 rfl ?_
    refine k_getR d_K_steady_30 fl_12_37 ob_12 rfl ?_
    refine k_aload_n d_K_steady_33 rfl ?_
    refine k_getR d_K_steady_34 fl_12_62 ob_12 rfl ?_
    refine k_ldc d_K_steady_37 ks_12_32 cL_262144 ?_
    refine k_sipush d_K_steady_39 cS_16384 ?_
    refine k_cvi [.inr 15, .inl 262144, .inl 16384] d_K_steady_42 ml_12_195 rfl rfl ob_16 rfl (s_KReader_readLetters hL (by omega) (by decide) h) (fun v7 σ6 h => ?_)
    refine k_join (S := Int) (pc' := 71) (st' := fun s10 => [.inl s10]) (lv' := fun s10 => [none]) (fun s10 σ11 h => ?_) (fun J8 hJ9 h => ?_) h
    · obtain ⟨p12, h⟩ := h
      exact k_iret d_K_steady_71 (Or.inr ⟨rfl, p12⟩) h
    · refine k_join (S := Unit) (pc' := 70) (st' := fun s15 => []) (lv' := fun s15 => [none]) (fun s15 σ16 h => ?_) (fun J13 hJ14 h => ?_) h
      · refine k_iconst d_K_steady_70 cI_0 ?_
        exact k_sb (sb_s sb_nil) (hJ9 0 _ h)
      · refine k_ifeq d_K_steady_45 rfl (fun c17 => ?_) (fun c17 => ?_)
        · have h := ipos c17 h
          exact k_sb (sb_n sb_nil) (hJ14 () _ h)
        · have h := ineg c17 h
          refine k_aload_n d_K_steady_48 rfl ?_
          refine k_getR d_K_steady_49 fl_12_73 ob_12 rfl ?_
          refine k_aload_n d_K_steady_52 rfl ?_
          refine k_getR d_K_steady_53 fl_12_62 ob_12 rfl ?_
          refine k_aload_n d_K_steady_56 rfl ?_
          refine k_getR d_K_steady_57 fl_12_37 ob_12 rfl ?_
          refine k_cvi [.inr 15, .inr 16] d_K_steady_60 ml_12_199 rfl rfl ob_17 rfl (s_KWriter_isBeside hL (by omega) (by decide) h) (fun v19 σ18 h => ?_)
          refine k_ifeq d_K_steady_63 rfl (fun c20 => ?_) (fun c20 => ?_)
          · have h := ipos c20 h
            exact k_sb (sb_n sb_nil) (hJ14 () _ h)
          · have h := ineg c20 h
            refine k_iconst d_K_steady_66 cI_1 ?_
            refine k_goto d_K_steady_67 rfl ?_
            exact k_sb (sb_n sb_nil) (hJ9 1 _ h)
  · have h := ineg c3 h
    refine k_iconst d_K_steady_12 cI_1 ?_
    exact k_iret d_K_steady_13 (Or.inr ⟨rfl, Or.inr rfl⟩) h
/-- K_thrown -/
def w_K_thrown (L : Nat → Nat)  (Q : Int → IS → Prop) (σ : IS) : Prop := Q (σ.1 12 11) σ
set_option maxHeartbeats 4000000 in
set_option maxRecDepth 20000 in
theorem s_K_thrown {L : Nat → Nat} (hL : ∀ r, L r < 2147483648) {d : Nat} (hd : 0 ≤ d)  {Q : Int → IS → Prop} {σ : IS}  (h : w_K_thrown L  Q σ) : OkI BF L d 12 b_K_thrown 1 1 0 [] [some (.inr 12)] σ (qi Q) := by
  unfold w_K_thrown at h
  refine k_sb (lv' := [some (.inr 12)]) (sb_s sb_nil) ?_
  refine k_aload_n d_K_thrown_0 rfl ?_
  refine k_getI (x := (σ.1 12 11)) d_K_thrown_1 fl_12_88 ob_12 rfl rfl ?_
  exact k_iret d_K_thrown_4 (Or.inl rfl) h
theorem d_K_violations_12 : decode b_K_violations 12 = .ok (.iload_n 1, 1) := by decide +kernel
theorem d_K_violations_13 : decode b_K_violations 13 = .ok (.ifCond .lt 21, 3) := by decide +kernel
theorem d_K_violations_16 : decode b_K_violations 16 = .ok (.iload_n 1, 1) := by decide +kernel
theorem d_K_violations_17 : decode b_K_violations 17 = .ok (.bipush 23, 2) := by decide +kernel
theorem d_K_violations_19 : decode b_K_violations 19 = .ok (.if_icmp .ge 15, 3) := by decide +kernel
theorem d_K_violations_22 : decode b_K_violations 22 = .ok (.aload_n 0, 1) := by decide +kernel
theorem d_K_violations_23 : decode b_K_violations 23 = .ok (.getfield 54, 3) := by decide +kernel
theorem d_K_violations_26 : decode b_K_violations 26 = .ok (.getfield 111, 3) := by decide +kernel
theorem d_K_violations_29 : decode b_K_violations 29 = .ok (.iload_n 1, 1) := by decide +kernel
theorem d_K_violations_30 : decode b_K_violations 30 = .ok (.iaload, 1) := by decide +kernel
theorem d_K_violations_31 : decode b_K_violations 31 = .ok (.goto 4, 3) := by decide +kernel
/-- K_violations -/
def w_K_violations (L : Nat → Nat) (a1 : Int) (Q : Int → IS → Prop) (σ : IS) : Prop := ((¬ (σ.1 12 6) = 0 → (¬ a1 < 0 → (a1 < 23 → inL L (rfo 14 18) a1)))) ∧ Q (if (σ.1 12 6) = 0 then ((-1) : Int) else (if a1 < 0 then ((-1) : Int) else (if a1 < 23 then (σ.2 (rfo 14 18) (Int.toNat a1)) else ((-1) : Int)))) (pf σ 12 11 0)
set_option maxHeartbeats 4000000 in
set_option maxRecDepth 20000 in
theorem s_K_violations {L : Nat → Nat} (hL : ∀ r, L r < 2147483648) {d : Nat} (hd : 0 ≤ d) {a1 : Int} {Q : Int → IS → Prop} {σ : IS}  (h : w_K_violations L a1 Q σ) : OkI BF L d 12 b_K_violations 2 1 0 [] [some (.inr 12), some (.inl a1)] σ (qi Q) := by
  unfold w_K_violations at h
  refine k_sb (lv' := [some (.inr 12), some (.inl a1)]) (sb_s (sb_s sb_nil)) ?_
  refine k_aload_n d_K_violations_0 rfl ?_
  refine k_iconst d_K_violations_1 cI_0 ?_
  refine k_putI d_K_violations_2 fl_12_88 ob_12 rfl ?_
  refine k_aload_n d_K_violations_5 rfl ?_
  refine k_getI (x := (σ.1 12 6)) d_K_violations_6 fl_12_102 ob_12 rfl rfl ?_
  obtain ⟨pt3, h⟩ := h
  have hV2 : OkI BF L d 12 b_K_violations 2 1 35 [.inl (if (σ.1 12 6) = 0 then ((-1) : Int) else (if a1 < 0 then ((-1) : Int) else (if a1 < 23 then (σ.2 (rfo 14 18) (Int.toNat a1)) else ((-1) : Int))))] [some (.inr 12), some (.inl a1)] (pf σ 12 11 0) (qi Q) := by
    exact k_iret d_K_violations_35 (Or.inl rfl) h
  have pb4 := pt3
  refine k_ifeq d_K_violations_9 rfl (fun c5 => ?_) (fun c5 => ?_)
  · have hV6 := k_eqI (if_pos c5) hV2
    refine k_iconst d_K_violations_34 cI_m1 ?_
    exact hV6
  · have pb4 := pb4 c5
    have hV7 := k_eqI (if_neg c5) hV2
    have pb8 := pb4
    refine k_iload_n d_K_violations_12 rfl ?_
    refine k_iflt d_K_violations_13 rfl (fun c9 => ?_) (fun c9 => ?_)
    · have hV10 := k_eqI (if_pos c9) hV7
      refine k_iconst d_K_violations_34 cI_m1 ?_
      exact hV10
    · have pb8 := pb8 c9
      have hV11 := k_eqI (if_neg c9) hV7
      have pa12 := pb8
      refine k_iload_n d_K_violations_16 rfl ?_
      refine k_bipush d_K_violations_17 cB_23 ?_
      refine k_icge d_K_violations_19 rfl (fun c13 => ?_) (fun c13 => ?_)
      · have hV15 := k_eqI (if_neg c13) hV11
        refine k_iconst d_K_violations_34 cI_m1 ?_
        exact hV15
      · have pa12 := pa12 c13
        have hV14 := k_eqI (if_pos c13) hV11
        have p1 := pa12
        refine k_aload_n d_K_violations_22 rfl ?_
        refine k_getR d_K_violations_23 fl_12_54 ob_12 rfl ?_
        refine k_getR d_K_violations_26 fl_12_111 (doc_ob (by decide)) (dfr_18 (by decide)) ?_
        refine k_iload_n d_K_violations_29 rfl ?_
        refine k_ild (x := (σ.2 (rfo 14 18) (Int.toNat a1))) d_K_violations_30 (drI_18 (by decide)) p1 rfl ?_
        refine k_goto d_K_violations_31 rfl ?_
        exact hV14
