theorem d_KReader_isDeterministic_0 : decode b_KReader_isDeterministic 0 = .ok (.aload_n 0, 1) := by decide +kernel
theorem d_KReader_isDeterministic_1 : decode b_KReader_isDeterministic 1 = .ok (.iload_n 1, 1) := by decide +kernel
theorem d_KReader_isDeterministic_2 : decode b_KReader_isDeterministic 2 = .ok (.invokevirtual 601, 3) := by decide +kernel
theorem d_KReader_isDeterministic_5 : decode b_KReader_isDeterministic 5 = .ok (.istore_n 2, 1) := by decide +kernel
theorem d_KReader_isDeterministic_6 : decode b_KReader_isDeterministic 6 = .ok (.aload_n 0, 1) := by decide +kernel
theorem d_KReader_isDeterministic_7 : decode b_KReader_isDeterministic 7 = .ok (.iload_n 2, 1) := by decide +kernel
theorem d_KReader_isDeterministic_8 : decode b_KReader_isDeterministic 8 = .ok (.invokevirtual 604, 3) := by decide +kernel
theorem d_KReader_isDeterministic_11 : decode b_KReader_isDeterministic 11 = .ok (.aload_n 0, 1) := by decide +kernel
theorem d_KReader_isDeterministic_12 : decode b_KReader_isDeterministic 12 = .ok (.iload_n 1, 1) := by decide +kernel
theorem d_KReader_isDeterministic_13 : decode b_KReader_isDeterministic 13 = .ok (.invokevirtual 595, 3) := by decide +kernel
theorem d_KReader_isDeterministic_16 : decode b_KReader_isDeterministic 16 = .ok (.aload_n 0, 1) := by decide +kernel
theorem d_KReader_isDeterministic_17 : decode b_KReader_isDeterministic 17 = .ok (.iload_n 2, 1) := by decide +kernel
theorem d_KReader_isDeterministic_18 : decode b_KReader_isDeterministic 18 = .ok (.invokevirtual 607, 3) := by decide +kernel
theorem d_KReader_isDeterministic_21 : decode b_KReader_isDeterministic 21 = .ok (.ifCond .ne 7, 3) := by decide +kernel
theorem d_KReader_isDeterministic_24 : decode b_KReader_isDeterministic 24 = .ok (.iconst 1, 1) := by decide +kernel
theorem d_KReader_isDeterministic_25 : decode b_KReader_isDeterministic 25 = .ok (.goto 4, 3) := by decide +kernel
theorem d_KReader_isDeterministic_28 : decode b_KReader_isDeterministic 28 = .ok (.iconst 0, 1) := by decide +kernel
theorem d_KReader_isDeterministic_29 : decode b_KReader_isDeterministic 29 = .ok (.istore_n 3, 1) := by decide +kernel
theorem d_KReader_isDeterministic_30 : decode b_KReader_isDeterministic 30 = .ok (.iconst 0, 1) := by decide +kernel
theorem d_KReader_isDeterministic_31 : decode b_KReader_isDeterministic 31 = .ok (.istore 4, 2) := by decide +kernel
theorem d_KReader_isDeterministic_33 : decode b_KReader_isDeterministic 33 = .ok (.iload 4, 2) := by decide +kernel
theorem d_KReader_isDeterministic_35 : decode b_KReader_isDeterministic 35 = .ok (.iload_n 2, 1) := by decide +kernel
theorem d_KReader_isDeterministic_36 : decode b_KReader_isDeterministic 36 = .ok (.if_icmp .ge 43, 3) := by decide +kernel
theorem d_KReader_isDeterministic_39 : decode b_KReader_isDeterministic 39 = .ok (.iload_n 3, 1) := by decide +kernel
theorem d_KReader_isDeterministic_40 : decode b_KReader_isDeterministic 40 = .ok (.ifCond .eq 39, 3) := by decide +kernel
theorem d_KReader_isDeterministic_43 : decode b_KReader_isDeterministic 43 = .ok (.aload_n 0, 1) := by decide +kernel
theorem d_KReader_isDeterministic_44 : decode b_KReader_isDeterministic 44 = .ok (.iload_n 2, 1) := by decide +kernel
theorem d_KReader_isDeterministic_45 : decode b_KReader_isDeterministic 45 = .ok (.invokevirtual 604, 3) := by decide +kernel
theorem d_KReader_isDeterministic_48 : decode b_KReader_isDeterministic 48 = .ok (.aload_n 0, 1) := by decide +kernel
theorem d_KReader_isDeterministic_49 : decode b_KReader_isDeterministic 49 = .ok (.aload_n 0, 1) := by decide +kernel
theorem d_KReader_isDeterministic_50 : decode b_KReader_isDeterministic 50 = .ok (.getfield 31, 3) := by decide +kernel
theorem d_KReader_isDeterministic_53 : decode b_KReader_isDeterministic 53 = .ok (.iload 4, 2) := by decide +kernel
theorem d_KReader_isDeterministic_55 : decode b_KReader_isDeterministic 55 = .ok (.iaload, 1) := by decide +kernel
theorem d_KReader_isDeterministic_56 : decode b_KReader_isDeterministic 56 = .ok (.invokevirtual 610, 3) := by decide +kernel
theorem d_KReader_isDeterministic_59 : decode b_KReader_isDeterministic 59 = .ok (.aload_n 0, 1) := by decide +kernel
theorem d_KReader_isDeterministic_60 : decode b_KReader_isDeterministic 60 = .ok (.iload_n 2, 1) := by decide +kernel
theorem d_KReader_isDeterministic_61 : decode b_KReader_isDeterministic 61 = .ok (.invokevirtual 607, 3) := by decide +kernel
theorem d_KReader_isDeterministic_64 : decode b_KReader_isDeterministic 64 = .ok (.ifCond .ne 7, 3) := by decide +kernel
theorem d_KReader_isDeterministic_67 : decode b_KReader_isDeterministic 67 = .ok (.iconst 1, 1) := by decide +kernel
theorem d_KReader_isDeterministic_68 : decode b_KReader_isDeterministic 68 = .ok (.goto 4, 3) := by decide +kernel
theorem d_KReader_isDeterministic_71 : decode b_KReader_isDeterministic 71 = .ok (.iconst 0, 1) := by decide +kernel
theorem d_KReader_isDeterministic_72 : decode b_KReader_isDeterministic 72 = .ok (.istore_n 3, 1) := by decide +kernel
theorem d_KReader_isDeterministic_73 : decode b_KReader_isDeterministic 73 = .ok (.iinc 4 1, 3) := by decide +kernel
theorem d_KReader_isDeterministic_76 : decode b_KReader_isDeterministic 76 = .ok (.goto (-43), 3) := by decide +kernel
theorem d_KReader_isDeterministic_79 : decode b_KReader_isDeterministic 79 = .ok (.iload_n 3, 1) := by decide +kernel
theorem d_KReader_isDeterministic_80 : decode b_KReader_isDeterministic 80 = .ok (.ireturn, 1) := by decide +kernel
/-- KReader_isDeterministic -/
def w_KReader_isDeterministic (L : Nat → Nat) (a1 : Int) (Q : Int → IS → Prop) (σ : IS) : Prop := w_KReader_leafs L a1 (fun v2 σ1 => w_KReader_clearLater L v2 (fun σ3 => w_KReader_enter L 70 a1 (fun σ5 => w_KReader_hasTwins L v2 (fun v8 σ7 => WL (fun (K9 : Int × Int → IS → Prop) (s11 : Int × Int) (σ12 : IS) => if s11.2 < v2 ∧ (¬ s11.1 = 0) then w_KReader_clearLater L v2 (fun σ13 => inL L 172 s11.2 ∧ w_KReader_leave L (σ13.2 172 (Int.toNat s11.2)) (fun σ15 => w_KReader_hasTwins L v2 (fun v18 σ17 => inR (s11.2 + 1) ∧ K9 ((if v18 = 0 then (1 : Int) else (0 : Int)), (s11.2 + 1)) σ17) σ15) σ13) σ12 else is01 s11.1 ∧ Q s11.1 σ12) ((if v8 = 0 then (1 : Int) else (0 : Int)), 0) σ7) σ5) σ3) σ1) σ
set_option maxHeartbeats 4000000 in
set_option maxRecDepth 20000 in
theorem s_KReader_isDeterministic {L : Nat → Nat} (hL : ∀ r, L r < 2147483648) {d : Nat} (hd : 72 ≤ d) {a1 : Int} {Q : Int → IS → Prop} {σ : IS}  (h : w_KReader_isDeterministic L a1 Q σ) : OkI BF L d 15 b_KReader_isDeterministic 5 2 0 [] [some (.inr 16), some (.inl a1)] σ (qi Q) := by
  unfold w_KReader_isDeterministic at h
  obtain ⟨d, rfl⟩ : ∃ e, d = e + 1 := ⟨d - 1, by omega⟩
  refine k_sb (lv' := [some (.inr 16), some (.inl a1), none, none, none]) (sb_s (sb_s (sb_e (sb_e (sb_e sb_nil))))) ?_
  refine k_aload_n d_KReader_isDeterministic_0 rfl ?_
  refine k_iload_n d_KReader_isDeterministic_1 rfl ?_
  refine k_cvi [.inl a1] d_KReader_isDeterministic_2 ml_15_601 rfl rfl ob_16 rfl (s_KReader_leafs hL (by omega)  h) (fun v2 σ1 h => ?_)
  refine k_istore_n (lv' := [some (.inr 16), some (.inl a1), some (.inl v2), none, none]) d_KReader_isDeterministic_5 rfl rfl ?_
  refine k_aload_n d_KReader_isDeterministic_6 rfl ?_
  refine k_iload_n d_KReader_isDeterministic_7 rfl ?_
  refine k_cvv [.inl v2] d_KReader_isDeterministic_8 ml_15_604 rfl rfl ob_16 rfl (s_KReader_clearLater hL (by omega)  h) (fun σ3 h => ?_)
  refine k_aload_n d_KReader_isDeterministic_11 rfl ?_
  refine k_iload_n d_KReader_isDeterministic_12 rfl ?_
  refine k_cvv [.inl a1] d_KReader_isDeterministic_13 ml_15_595 rfl rfl ob_16 rfl (s_KReader_enter hL 70 (by omega)  h) (fun σ5 h => ?_)
  refine k_aload_n d_KReader_isDeterministic_16 rfl ?_
  refine k_iload_n d_KReader_isDeterministic_17 rfl ?_
  refine k_cvi [.inl v2] d_KReader_isDeterministic_18 ml_15_607 rfl rfl ob_16 rfl (s_KReader_hasTwins hL (by omega)  h) (fun v8 σ7 h => ?_)
  have hV31 : OkI BF L (d + 1) 15 b_KReader_isDeterministic 5 2 29 [.inl (if v8 = 0 then (1 : Int) else (0 : Int))] [some (.inr 16), some (.inl a1), some (.inl v2), none, none] σ7 (qi Q) := by
    refine k_istore_n (lv' := [some (.inr 16), some (.inl a1), some (.inl v2), some (.inl (if v8 = 0 then (1 : Int) else (0 : Int))), none]) d_KReader_isDeterministic_29 rfl rfl ?_
    refine k_iconst d_KReader_isDeterministic_30 cI_0 ?_
    refine k_istore (lv' := [some (.inr 16), some (.inl a1), some (.inl v2), some (.inl (if v8 = 0 then (1 : Int) else (0 : Int))), some (.inl 0)]) d_KReader_isDeterministic_31 rfl rfl ?_
    refine k_sb (lv' := [some (.inr 16), none, some (.inl v2), some (.inl (if v8 = 0 then (1 : Int) else (0 : Int))), some (.inl 0)]) (sb_s (sb_n (sb_s (sb_s (sb_s sb_nil))))) ?_
    refine k_loop (S := Int × Int) (st := fun _ => []) (lv := fun s11 => [some (.inr 16), none, some (.inl v2), some (.inl s11.1), some (.inl s11.2)]) (fun K9 hK10 s11 σ12 h => ?_) ((if v8 = 0 then (1 : Int) else (0 : Int)), 0) _ h
    refine k_iload d_KReader_isDeterministic_33 rfl ?_
    refine k_iload_n d_KReader_isDeterministic_35 rfl ?_
    have hX26 : (s11.2 < v2 ∧ (¬ s11.1 = 0)) → OkI BF L (d + 1) 15 b_KReader_isDeterministic 5 2 43 [] [some (.inr 16), none, some (.inl v2), some (.inl s11.1), some (.inl s11.2)] σ12 (qi Q) := fun e28 => by
      have h := ipos e28 h
      refine k_aload_n d_KReader_isDeterministic_43 rfl ?_
      refine k_iload_n d_KReader_isDeterministic_44 rfl ?_
      refine k_cvv [.inl v2] d_KReader_isDeterministic_45 ml_15_604 rfl rfl ob_16 rfl (s_KReader_clearLater hL (by omega)  h) (fun σ13 h => ?_)
      refine k_aload_n d_KReader_isDeterministic_48 rfl ?_
      refine k_aload_n d_KReader_isDeterministic_49 rfl ?_
      refine k_getR d_KReader_isDeterministic_50 fl_15_31 ob_16 rfl ?_
      refine k_iload d_KReader_isDeterministic_53 rfl ?_
      obtain ⟨p24, h⟩ := h
      refine k_ild (x := (σ13.2 172 (Int.toNat s11.2))) d_KReader_isDeterministic_55 rI_172 p24 rfl ?_
      refine k_cvv [.inl (σ13.2 172 (Int.toNat s11.2))] d_KReader_isDeterministic_56 ml_15_610 rfl rfl ob_16 rfl (s_KReader_leave hL (by omega)  h) (fun σ15 h => ?_)
      refine k_aload_n d_KReader_isDeterministic_59 rfl ?_
      refine k_iload_n d_KReader_isDeterministic_60 rfl ?_
      refine k_cvi [.inl v2] d_KReader_isDeterministic_61 ml_15_607 rfl rfl ob_16 rfl (s_KReader_hasTwins hL (by omega)  h) (fun v18 σ17 h => ?_)
      have hV20 : OkI BF L (d + 1) 15 b_KReader_isDeterministic 5 2 72 [.inl (if v18 = 0 then (1 : Int) else (0 : Int))] [some (.inr 16), none, some (.inl v2), some (.inl s11.1), some (.inl s11.2)] σ17 (qi Q) := by
        refine k_istore_n (lv' := [some (.inr 16), none, some (.inl v2), some (.inl (if v18 = 0 then (1 : Int) else (0 : Int))), some (.inl s11.2)]) d_KReader_isDeterministic_72 rfl rfl ?_
        obtain ⟨p19, h⟩ := h
        refine k_iinc (lv' := [some (.inr 16), none, some (.inl v2), some (.inl (if v18 = 0 then (1 : Int) else (0 : Int))), some (.inl (s11.2 + 1))]) d_KReader_isDeterministic_73 cI_1 rfl rfl p19 rfl ?_
        refine k_goto d_KReader_isDeterministic_76 rfl ?_
        exact k_sb (sb_s (sb_s (sb_s (sb_s (sb_s sb_nil))))) (hK10 ((if v18 = 0 then (1 : Int) else (0 : Int)), (s11.2 + 1)) _ h)
      refine k_ifne d_KReader_isDeterministic_64 rfl (fun c21 => ?_) (fun c21 => ?_)
      · have hV23 := k_eqI (if_neg c21) hV20
        refine k_iconst d_KReader_isDeterministic_71 cI_0 ?_
        exact hV23
      · have hV22 := k_eqI (if_pos c21) hV20
        refine k_iconst d_KReader_isDeterministic_67 cI_1 ?_
        refine k_goto d_KReader_isDeterministic_68 rfl ?_
        exact hV22
    have hY27 : ¬ (s11.2 < v2 ∧ (¬ s11.1 = 0)) → OkI BF L (d + 1) 15 b_KReader_isDeterministic 5 2 79 [] [some (.inr 16), none, some (.inl v2), some (.inl s11.1), some (.inl s11.2)] σ12 (qi Q) := fun e28 => by
      have h := ineg e28 h
      refine k_iload_n d_KReader_isDeterministic_79 rfl ?_
      obtain ⟨p25, h⟩ := h
      exact k_iret d_KReader_isDeterministic_80 (Or.inr ⟨rfl, p25⟩) h
    refine k_icge d_KReader_isDeterministic_36 rfl (fun c29 => ?_) (fun c29 => ?_)
    · exact hY27 (fun z => c29 z.1)
    · refine k_iload_n d_KReader_isDeterministic_39 rfl ?_
      refine k_ifeq d_KReader_isDeterministic_40 rfl (fun c30 => ?_) (fun c30 => ?_)
      · exact hY27 (fun z => (fun z => z c30) z.2)
      · exact hX26 (⟨c29, c30⟩)
  refine k_ifne d_KReader_isDeterministic_21 rfl (fun c32 => ?_) (fun c32 => ?_)
  · have hV34 := k_eqI (if_neg c32) hV31
    refine k_iconst d_KReader_isDeterministic_28 cI_0 ?_
    exact hV34
  · have hV33 := k_eqI (if_pos c32) hV31
    refine k_iconst d_KReader_isDeterministic_24 cI_1 ?_
    refine k_goto d_KReader_isDeterministic_25 rfl ?_
    exact hV33
theorem d_KReader_element_0 : decode b_KReader_element 0 = .ok (.aload_n 0, 1) := by decide +kernel
theorem d_KReader_element_1 : decode b_KReader_element 1 = .ok (.aload_n 0, 1) := by decide +kernel
theorem d_KReader_element_2 : decode b_KReader_element 2 = .ok (.getfield 379, 3) := by decide +kernel
theorem d_KReader_element_5 : decode b_KReader_element 5 = .ok (.bipush 9, 2) := by decide +kernel
theorem d_KReader_element_7 : decode b_KReader_element 7 = .ok (.iadd, 1) := by decide +kernel
theorem d_KReader_element_8 : decode b_KReader_element 8 = .ok (.invokevirtual 333, 3) := by decide +kernel
theorem d_KReader_element_11 : decode b_KReader_element 11 = .ok (.istore_n 1, 1) := by decide +kernel
theorem d_KReader_element_12 : decode b_KReader_element 12 = .ok (.aload_n 0, 1) := by decide +kernel
theorem d_KReader_element_13 : decode b_KReader_element 13 = .ok (.iload_n 1, 1) := by decide +kernel
theorem d_KReader_element_14 : decode b_KReader_element 14 = .ok (.invokevirtual 341, 3) := by decide +kernel
theorem d_KReader_element_17 : decode b_KReader_element 17 = .ok (.istore_n 2, 1) := by decide +kernel
theorem d_KReader_element_18 : decode b_KReader_element 18 = .ok (.aload_n 0, 1) := by decide +kernel
theorem d_KReader_element_19 : decode b_KReader_element 19 = .ok (.iload_n 2, 1) := by decide +kernel
theorem d_KReader_element_20 : decode b_KReader_element 20 = .ok (.invokevirtual 333, 3) := by decide +kernel
theorem d_KReader_element_23 : decode b_KReader_element 23 = .ok (.istore_n 3, 1) := by decide +kernel
theorem d_KReader_element_24 : decode b_KReader_element 24 = .ok (.aload_n 0, 1) := by decide +kernel
theorem d_KReader_element_25 : decode b_KReader_element 25 = .ok (.getfield 212, 3) := by decide +kernel
theorem d_KReader_element_28 : decode b_KReader_element 28 = .ok (.istore 4, 2) := by decide +kernel
theorem d_KReader_element_30 : decode b_KReader_element 30 = .ok (.aload_n 0, 1) := by decide +kernel
theorem d_KReader_element_31 : decode b_KReader_element 31 = .ok (.getfield 218, 3) := by decide +kernel
theorem d_KReader_element_34 : decode b_KReader_element 34 = .ok (.istore 5, 2) := by decide +kernel
theorem d_KReader_element_36 : decode b_KReader_element 36 = .ok (.iconst (-1), 1) := by decide +kernel
theorem d_KReader_element_37 : decode b_KReader_element 37 = .ok (.istore 6, 2) := by decide +kernel
theorem d_KReader_element_39 : decode b_KReader_element 39 = .ok (.aload_n 0, 1) := by decide +kernel
theorem d_KReader_element_40 : decode b_KReader_element 40 = .ok (.iconst 0, 1) := by decide +kernel
theorem d_KReader_element_41 : decode b_KReader_element 41 = .ok (.putfield 542, 3) := by decide +kernel
theorem d_KReader_element_44 : decode b_KReader_element 44 = .ok (.aload_n 0, 1) := by decide +kernel
theorem d_KReader_element_45 : decode b_KReader_element 45 = .ok (.iconst 0, 1) := by decide +kernel
theorem d_KReader_element_46 : decode b_KReader_element 46 = .ok (.putfield 545, 3) := by decide +kernel
theorem d_KReader_element_49 : decode b_KReader_element 49 = .ok (.iconst 1, 1) := by decide +kernel
theorem d_KReader_element_50 : decode b_KReader_element 50 = .ok (.istore 7, 2) := by decide +kernel
theorem d_KReader_element_52 : decode b_KReader_element 52 = .ok (.aload_n 0, 1) := by decide +kernel
theorem d_KReader_element_53 : decode b_KReader_element 53 = .ok (.iload_n 3, 1) := by decide +kernel
theorem d_KReader_element_54 : decode b_KReader_element 54 = .ok (.ldc_w 548, 3) := by decide +kernel
theorem d_KReader_element_57 : decode b_KReader_element 57 = .ok (.invokevirtual 329, 3) := by decide +kernel
theorem d_KReader_element_60 : decode b_KReader_element 60 = .ok (.istore 8, 2) := by decide +kernel
theorem d_KReader_element_62 : decode b_KReader_element 62 = .ok (.iload 8, 2) := by decide +kernel
theorem d_KReader_element_64 : decode b_KReader_element 64 = .ok (.ifCond .ge 16, 3) := by decide +kernel
theorem d_KReader_element_67 : decode b_KReader_element 67 = .ok (.iconst 2, 1) := by decide +kernel
theorem d_KReader_element_68 : decode b_KReader_element 68 = .ok (.istore 7, 2) := by decide +kernel
theorem d_KReader_element_70 : decode b_KReader_element 70 = .ok (.aload_n 0, 1) := by decide +kernel
theorem d_KReader_element_71 : decode b_KReader_element 71 = .ok (.iload_n 3, 1) := by decide +kernel
theorem d_KReader_element_72 : decode b_KReader_element 72 = .ok (.ldc_w 550, 3) := by decide +kernel
theorem d_KReader_element_75 : decode b_KReader_element 75 = .ok (.invokevirtual 329, 3) := by decide +kernel
theorem d_KReader_element_78 : decode b_KReader_element 78 = .ok (.istore 8, 2) := by decide +kernel
theorem d_KReader_element_80 : decode b_KReader_element 80 = .ok (.iload 8, 2) := by decide +kernel
theorem d_KReader_element_82 : decode b_KReader_element 82 = .ok (.ifCond .ge 13, 3) := by decide +kernel
theorem d_KReader_element_85 : decode b_KReader_element 85 = .ok (.iconst 3, 1) := by decide +kernel
theorem d_KReader_element_86 : decode b_KReader_element 86 = .ok (.istore 7, 2) := by decide +kernel
theorem d_KReader_element_88 : decode b_KReader_element 88 = .ok (.aload_n 0, 1) := by decide +kernel
theorem d_KReader_element_89 : decode b_KReader_element 89 = .ok (.iload_n 3, 1) := by decide +kernel
theorem d_KReader_element_90 : decode b_KReader_element 90 = .ok (.invokevirtual 552, 3) := by decide +kernel
theorem d_KReader_element_93 : decode b_KReader_element 93 = .ok (.istore 8, 2) := by decide +kernel
theorem d_KReader_element_95 : decode b_KReader_element 95 = .ok (.iload 8, 2) := by decide +kernel
theorem d_KReader_element_97 : decode b_KReader_element 97 = .ok (.ifCond .ge 31, 3) := by decide +kernel
theorem d_KReader_element_100 : decode b_KReader_element 100 = .ok (.aload_n 0, 1) := by decide +kernel
theorem d_KReader_element_101 : decode b_KReader_element 101 = .ok (.iload 5, 2) := by decide +kernel
theorem d_KReader_element_103 : decode b_KReader_element 103 = .ok (.putfield 218, 3) := by decide +kernel
theorem d_KReader_element_106 : decode b_KReader_element 106 = .ok (.iconst 4, 1) := by decide +kernel
theorem d_KReader_element_107 : decode b_KReader_element 107 = .ok (.istore 7, 2) := by decide +kernel
theorem d_KReader_element_109 : decode b_KReader_element 109 = .ok (.iload_n 3, 1) := by decide +kernel
theorem d_KReader_element_110 : decode b_KReader_element 110 = .ok (.ifCond .ge 7, 3) := by decide +kernel
theorem d_KReader_element_113 : decode b_KReader_element 113 = .ok (.iconst (-1), 1) := by decide +kernel
theorem d_KReader_element_114 : decode b_KReader_element 114 = .ok (.goto 8, 3) := by decide +kernel
theorem d_KReader_element_117 : decode b_KReader_element 117 = .ok (.aload_n 0, 1) := by decide +kernel
theorem d_KReader_element_118 : decode b_KReader_element 118 = .ok (.iload_n 3, 1) := by decide +kernel
theorem d_KReader_element_119 : decode b_KReader_element 119 = .ok (.invokevirtual 555, 3) := by decide +kernel
theorem d_KReader_element_122 : decode b_KReader_element 122 = .ok (.istore 8, 2) := by decide +kernel
theorem d_KReader_element_124 : decode b_KReader_element 124 = .ok (.iload 8, 2) := by decide +kernel
theorem d_KReader_element_126 : decode b_KReader_element 126 = .ok (.istore 6, 2) := by decide +kernel
theorem d_KReader_element_128 : decode b_KReader_element 128 = .ok (.aload_n 0, 1) := by decide +kernel
theorem d_KReader_element_129 : decode b_KReader_element 129 = .ok (.aload_n 0, 1) := by decide +kernel
theorem d_KReader_element_130 : decode b_KReader_element 130 = .ok (.iload 8, 2) := by decide +kernel
theorem d_KReader_element_132 : decode b_KReader_element 132 = .ok (.invokevirtual 297, 3) := by decide +kernel
theorem d_KReader_element_135 : decode b_KReader_element 135 = .ok (.ldc_w 527, 3) := by decide +kernel
theorem d_KReader_element_138 : decode b_KReader_element 138 = .ok (.invokevirtual 329, 3) := by decide +kernel
theorem d_KReader_element_141 : decode b_KReader_element 141 = .ok (.istore 8, 2) := by decide +kernel
theorem d_KReader_element_143 : decode b_KReader_element 143 = .ok (.aload_n 0, 1) := by decide +kernel
theorem d_KReader_element_144 : decode b_KReader_element 144 = .ok (.iload 8, 2) := by decide +kernel
theorem d_KReader_element_146 : decode b_KReader_element 146 = .ok (.invokevirtual 437, 3) := by decide +kernel
theorem d_KReader_element_149 : decode b_KReader_element 149 = .ok (.ifCond .ne 4, 3) := by decide +kernel
theorem d_KReader_element_152 : decode b_KReader_element 152 = .ok (.return_, 1) := by decide +kernel
theorem d_KReader_element_153 : decode b_KReader_element 153 = .ok (.iload 7, 2) := by decide +kernel
theorem d_KReader_element_155 : decode b_KReader_element 155 = .ok (.iconst 4, 1) := by decide +kernel
theorem d_KReader_element_156 : decode b_KReader_element 156 = .ok (.if_icmp .ne 27, 3) := by decide +kernel
theorem d_KReader_element_159 : decode b_KReader_element 159 = .ok (.aload_n 0, 1) := by decide +kernel
theorem d_KReader_element_160 : decode b_KReader_element 160 = .ok (.getfield 542, 3) := by decide +kernel
theorem d_KReader_element_163 : decode b_KReader_element 163 = .ok (.sipush 255, 3) := by decide +kernel
theorem d_KReader_element_166 : decode b_KReader_element 166 = .ok (.if_icmp .gt 10, 3) := by decide +kernel
theorem d_KReader_element_169 : decode b_KReader_element 169 = .ok (.aload_n 0, 1) := by decide +kernel
theorem d_KReader_element_170 : decode b_KReader_element 170 = .ok (.getfield 545, 3) := by decide +kernel
theorem d_KReader_element_173 : decode b_KReader_element 173 = .ok (.ifCond .eq 10, 3) := by decide +kernel
theorem d_KReader_element_176 : decode b_KReader_element 176 = .ok (.aload_n 0, 1) := by decide +kernel
theorem d_KReader_element_177 : decode b_KReader_element 177 = .ok (.iconst 4, 1) := by decide +kernel
theorem d_KReader_element_178 : decode b_KReader_element 178 = .ok (.invokevirtual 392, 3) := by decide +kernel
theorem d_KReader_element_181 : decode b_KReader_element 181 = .ok (.pop, 1) := by decide +kernel
theorem d_KReader_element_182 : decode b_KReader_element 182 = .ok (.return_, 1) := by decide +kernel
theorem d_KReader_element_183 : decode b_KReader_element 183 = .ok (.aload_n 0, 1) := by decide +kernel
theorem d_KReader_element_184 : decode b_KReader_element 184 = .ok (.iload_n 1, 1) := by decide +kernel
theorem d_KReader_element_185 : decode b_KReader_element 185 = .ok (.iload_n 2, 1) := by decide +kernel
theorem d_KReader_element_186 : decode b_KReader_element 186 = .ok (.iload_n 1, 1) := by decide +kernel
theorem d_KReader_element_187 : decode b_KReader_element 187 = .ok (.isub, 1) := by decide +kernel
theorem d_KReader_element_188 : decode b_KReader_element 188 = .ok (.invokevirtual 470, 3) := by decide +kernel
theorem d_KReader_element_191 : decode b_KReader_element 191 = .ok (.istore 9, 2) := by decide +kernel
theorem d_KReader_element_193 : decode b_KReader_element 193 = .ok (.aload_n 0, 1) := by decide +kernel
theorem d_KReader_element_194 : decode b_KReader_element 194 = .ok (.iload 9, 2) := by decide +kernel
theorem d_KReader_element_196 : decode b_KReader_element 196 = .ok (.invokevirtual 558, 3) := by decide +kernel
theorem d_KReader_element_199 : decode b_KReader_element 199 = .ok (.ifCond .lt 7, 3) := by decide +kernel
theorem d_KReader_element_202 : decode b_KReader_element 202 = .ok (.iconst 1, 1) := by decide +kernel
theorem d_KReader_element_203 : decode b_KReader_element 203 = .ok (.goto 4, 3) := by decide +kernel
theorem d_KReader_element_206 : decode b_KReader_element 206 = .ok (.iconst 0, 1) := by decide +kernel
theorem d_KReader_element_207 : decode b_KReader_element 207 = .ok (.istore 10, 2) := by decide +kernel
theorem d_KReader_element_209 : decode b_KReader_element 209 = .ok (.aload_n 0, 1) := by decide +kernel
theorem d_KReader_element_210 : decode b_KReader_element 210 = .ok (.getfield 150, 3) := by decide +kernel
theorem d_KReader_element_213 : decode b_KReader_element 213 = .ok (.getfield 561, 3) := by decide +kernel
theorem d_KReader_element_216 : decode b_KReader_element 216 = .ok (.iconst 2, 1) := by decide +kernel
theorem d_KReader_element_217 : decode b_KReader_element 217 = .ok (.dup2, 1) := by decide +kernel
theorem d_KReader_element_218 : decode b_KReader_element 218 = .ok (.iaload, 1) := by decide +kernel
theorem d_KReader_element_219 : decode b_KReader_element 219 = .ok (.iload 10, 2) := by decide +kernel
theorem d_KReader_element_221 : decode b_KReader_element 221 = .ok (.ifCond .eq 7, 3) := by decide +kernel
theorem d_KReader_element_224 : decode b_KReader_element 224 = .ok (.iconst 1, 1) := by decide +kernel
theorem d_KReader_element_225 : decode b_KReader_element 225 = .ok (.goto 4, 3) := by decide +kernel
theorem d_KReader_element_228 : decode b_KReader_element 228 = .ok (.iconst 0, 1) := by decide +kernel
theorem d_KReader_element_229 : decode b_KReader_element 229 = .ok (.iadd, 1) := by decide +kernel
theorem d_KReader_element_230 : decode b_KReader_element 230 = .ok (.iastore, 1) := by decide +kernel
theorem d_KReader_element_231 : decode b_KReader_element 231 = .ok (.iload 7, 2) := by decide +kernel
theorem d_KReader_element_233 : decode b_KReader_element 233 = .ok (.iconst 3, 1) := by decide +kernel
theorem d_KReader_element_234 : decode b_KReader_element 234 = .ok (.if_icmp .ne 28, 3) := by decide +kernel
theorem d_KReader_element_237 : decode b_KReader_element 237 = .ok (.aload_n 0, 1) := by decide +kernel
theorem d_KReader_element_238 : decode b_KReader_element 238 = .ok (.getfield 150, 3) := by decide +kernel
theorem d_KReader_element_241 : decode b_KReader_element 241 = .ok (.getfield 561, 3) := by decide +kernel
theorem d_KReader_element_244 : decode b_KReader_element 244 = .ok (.iconst 3, 1) := by decide +kernel
theorem d_KReader_element_245 : decode b_KReader_element 245 = .ok (.dup2, 1) := by decide +kernel
theorem d_KReader_element_246 : decode b_KReader_element 246 = .ok (.iaload, 1) := by decide +kernel
theorem d_KReader_element_247 : decode b_KReader_element 247 = .ok (.aload_n 0, 1) := by decide +kernel
theorem d_KReader_element_248 : decode b_KReader_element 248 = .ok (.iload 5, 2) := by decide +kernel
theorem d_KReader_element_250 : decode b_KReader_element 250 = .ok (.aload_n 0, 1) := by decide +kernel
theorem d_KReader_element_251 : decode b_KReader_element 251 = .ok (.getfield 218, 3) := by decide +kernel
theorem d_KReader_element_254 : decode b_KReader_element 254 = .ok (.iload 5, 2) := by decide +kernel
theorem d_KReader_element_256 : decode b_KReader_element 256 = .ok (.isub, 1) := by decide +kernel
theorem d_KReader_element_257 : decode b_KReader_element 257 = .ok (.invokevirtual 564, 3) := by decide +kernel
theorem d_KReader_element_260 : decode b_KReader_element 260 = .ok (.iadd, 1) := by decide +kernel
theorem d_KReader_element_261 : decode b_KReader_element 261 = .ok (.iastore, 1) := by decide +kernel
theorem d_KReader_element_262 : decode b_KReader_element 262 = .ok (.iload 7, 2) := by decide +kernel
theorem d_KReader_element_264 : decode b_KReader_element 264 = .ok (.iconst 4, 1) := by decide +kernel
theorem d_KReader_element_265 : decode b_KReader_element 265 = .ok (.if_icmp .ne 36, 3) := by decide +kernel
theorem d_KReader_element_268 : decode b_KReader_element 268 = .ok (.aload_n 0, 1) := by decide +kernel
theorem d_KReader_element_269 : decode b_KReader_element 269 = .ok (.iload_n 3, 1) := by decide +kernel
theorem d_KReader_element_270 : decode b_KReader_element 270 = .ok (.iload 6, 2) := by decide +kernel
theorem d_KReader_element_272 : decode b_KReader_element 272 = .ok (.invokevirtual 567, 3) := by decide +kernel
theorem d_KReader_element_275 : decode b_KReader_element 275 = .ok (.aload_n 0, 1) := by decide +kernel
theorem d_KReader_element_276 : decode b_KReader_element 276 = .ok (.getfield 150, 3) := by decide +kernel
theorem d_KReader_element_279 : decode b_KReader_element 279 = .ok (.getfield 561, 3) := by decide +kernel
theorem d_KReader_element_282 : decode b_KReader_element 282 = .ok (.iconst 4, 1) := by decide +kernel
theorem d_KReader_element_283 : decode b_KReader_element 283 = .ok (.dup2, 1) := by decide +kernel
theorem d_KReader_element_284 : decode b_KReader_element 284 = .ok (.iaload, 1) := by decide +kernel
theorem d_KReader_element_285 : decode b_KReader_element 285 = .ok (.aload_n 0, 1) := by decide +kernel
theorem d_KReader_element_286 : decode b_KReader_element 286 = .ok (.iload 4, 2) := by decide +kernel
theorem d_KReader_element_288 : decode b_KReader_element 288 = .ok (.invokevirtual 570, 3) := by decide +kernel
theorem d_KReader_element_291 : decode b_KReader_element 291 = .ok (.ifCond .eq 7, 3) := by decide +kernel
theorem d_KReader_element_294 : decode b_KReader_element 294 = .ok (.iconst 0, 1) := by decide +kernel
theorem d_KReader_element_295 : decode b_KReader_element 295 = .ok (.goto 4, 3) := by decide +kernel
theorem d_KReader_element_298 : decode b_KReader_element 298 = .ok (.iconst 1, 1) := by decide +kernel
theorem d_KReader_element_299 : decode b_KReader_element 299 = .ok (.iadd, 1) := by decide +kernel
theorem d_KReader_element_300 : decode b_KReader_element 300 = .ok (.iastore, 1) := by decide +kernel
theorem d_KReader_element_301 : decode b_KReader_element 301 = .ok (.iload 10, 2) := by decide +kernel
theorem d_KReader_element_303 : decode b_KReader_element 303 = .ok (.ifCond .ne 77, 3) := by decide +kernel
theorem d_KReader_element_306 : decode b_KReader_element 306 = .ok (.aload_n 0, 1) := by decide +kernel
theorem d_KReader_element_307 : decode b_KReader_element 307 = .ok (.getfield 84, 3) := by decide +kernel
theorem d_KReader_element_310 : decode b_KReader_element 310 = .ok (.aload_n 0, 1) := by decide +kernel
theorem d_KReader_element_311 : decode b_KReader_element 311 = .ok (.getfield 209, 3) := by decide +kernel
theorem d_KReader_element_314 : decode b_KReader_element 314 = .ok (.iload 9, 2) := by decide +kernel
theorem d_KReader_element_316 : decode b_KReader_element 316 = .ok (.iastore, 1) := by decide +kernel
theorem d_KReader_element_317 : decode b_KReader_element 317 = .ok (.aload_n 0, 1) := by decide +kernel
theorem d_KReader_element_318 : decode b_KReader_element 318 = .ok (.getfield 87, 3) := by decide +kernel
theorem d_KReader_element_321 : decode b_KReader_element 321 = .ok (.aload_n 0, 1) := by decide +kernel
theorem d_KReader_element_322 : decode b_KReader_element 322 = .ok (.getfield 209, 3) := by decide +kernel
theorem d_KReader_element_325 : decode b_KReader_element 325 = .ok (.iload 7, 2) := by decide +kernel
theorem d_KReader_element_327 : decode b_KReader_element 327 = .ok (.i2b, 1) := by decide +kernel
theorem d_KReader_element_328 : decode b_KReader_element 328 = .ok (.bastore, 1) := by decide +kernel
theorem d_KReader_element_329 : decode b_KReader_element 329 = .ok (.aload_n 0, 1) := by decide +kernel
theorem d_KReader_element_330 : decode b_KReader_element 330 = .ok (.getfield 90, 3) := by decide +kernel
theorem d_KReader_element_333 : decode b_KReader_element 333 = .ok (.aload_n 0, 1) := by decide +kernel
theorem d_KReader_element_334 : decode b_KReader_element 334 = .ok (.getfield 209, 3) := by decide +kernel
theorem d_KReader_element_337 : decode b_KReader_element 337 = .ok (.iload 7, 2) := by decide +kernel
theorem d_KReader_element_339 : decode b_KReader_element 339 = .ok (.iconst 4, 1) := by decide +kernel
theorem d_KReader_element_340 : decode b_KReader_element 340 = .ok (.if_icmp .ne 8, 3) := by decide +kernel
theorem d_KReader_element_343 : decode b_KReader_element 343 = .ok (.iload 4, 2) := by decide +kernel
theorem d_KReader_element_345 : decode b_KReader_element 345 = .ok (.goto 5, 3) := by decide +kernel
theorem d_KReader_element_348 : decode b_KReader_element 348 = .ok (.iload 5, 2) := by decide +kernel
theorem d_KReader_element_350 : decode b_KReader_element 350 = .ok (.iastore, 1) := by decide +kernel
theorem d_KReader_element_351 : decode b_KReader_element 351 = .ok (.aload_n 0, 1) := by decide +kernel
theorem d_KReader_element_352 : decode b_KReader_element 352 = .ok (.getfield 93, 3) := by decide +kernel
theorem d_KReader_element_355 : decode b_KReader_element 355 = .ok (.aload_n 0, 1) := by decide +kernel
theorem d_KReader_element_356 : decode b_KReader_element 356 = .ok (.getfield 209, 3) := by decide +kernel
theorem d_KReader_element_359 : decode b_KReader_element 359 = .ok (.aload_n 0, 1) := by decide +kernel
theorem d_KReader_element_360 : decode b_KReader_element 360 = .ok (.getfield 218, 3) := by decide +kernel
theorem d_KReader_element_363 : decode b_KReader_element 363 = .ok (.iload 5, 2) := by decide +kernel
theorem d_KReader_element_365 : decode b_KReader_element 365 = .ok (.isub, 1) := by decide +kernel
theorem d_KReader_element_366 : decode b_KReader_element 366 = .ok (.iastore, 1) := by decide +kernel
theorem d_KReader_element_367 : decode b_KReader_element 367 = .ok (.aload_n 0, 1) := by decide +kernel
theorem d_KReader_element_368 : decode b_KReader_element 368 = .ok (.dup, 1) := by decide +kernel
theorem d_KReader_element_369 : decode b_KReader_element 369 = .ok (.getfield 209, 3) := by decide +kernel
theorem d_KReader_element_372 : decode b_KReader_element 372 = .ok (.iconst 1, 1) := by decide +kernel
theorem d_KReader_element_373 : decode b_KReader_element 373 = .ok (.iadd, 1) := by decide +kernel
theorem d_KReader_element_374 : decode b_KReader_element 374 = .ok (.putfield 209, 3) := by decide +kernel
theorem d_KReader_element_377 : decode b_KReader_element 377 = .ok (.goto 15, 3) := by decide +kernel
theorem d_KReader_element_380 : decode b_KReader_element 380 = .ok (.aload_n 0, 1) := by decide +kernel
theorem d_KReader_element_381 : decode b_KReader_element 381 = .ok (.iload 4, 2) := by decide +kernel
theorem d_KReader_element_383 : decode b_KReader_element 383 = .ok (.putfield 212, 3) := by decide +kernel
theorem d_KReader_element_386 : decode b_KReader_element 386 = .ok (.aload_n 0, 1) := by decide +kernel
theorem d_KReader_element_387 : decode b_KReader_element 387 = .ok (.iload 5, 2) := by decide +kernel
theorem d_KReader_element_389 : decode b_KReader_element 389 = .ok (.putfield 218, 3) := by decide +kernel
theorem d_KReader_element_392 : decode b_KReader_element 392 = .ok (.aload_n 0, 1) := by decide +kernel
theorem d_KReader_element_393 : decode b_KReader_element 393 = .ok (.iload 8, 2) := by decide +kernel
theorem d_KReader_element_395 : decode b_KReader_element 395 = .ok (.putfield 379, 3) := by decide +kernel
theorem d_KReader_element_398 : decode b_KReader_element 398 = .ok (.return_, 1) := by decide +kernel
/-- KReader_element -/
def w_KReader_element (L : Nat → Nat)  (Q : IS → Prop) (σ : IS) : Prop := inR ((σ.1 16 16) + 9) ∧ w_KReader_spaces L ((σ.1 16 16) + 9) (fun v2 σ1 => w_KReader_name L v2 (fun v4 σ3 => w_KReader_spaces L v4 (fun v6 σ5 => w_KReader_word L v6 1125 (fun v8 σ7 => WJ (fun (s11 : Int × Int) (σ12 : IS) => WJ (fun (s15 : Int × Int) (σ16 : IS) => WJ (fun (s19 : Int × Int × Int) (σ20 : IS) => w_KReader_anySpaces L s19.2.2 (fun v22 σ21 => w_KReader_word L v22 1124 (fun v24 σ23 => w_KReader_written L v24 (fun v26 σ25 => if v26 = 0 then Q σ25 else WJ (fun (s30 : Unit) (σ31 : IS) => inR (v4 - v2) ∧ w_KReader_keep L v2 (v4 - v2) (fun v33 σ32 => w_KReader_contentOf L v33 (fun v35 σ34 => dyD (σ34.1 16 2) ∧ inL L (rfo (Int.toNat (σ34.1 16 2)) 18) 2 ∧ inR ((σ34.2 (rfo (Int.toNat (σ34.1 16 2)) 18) (Int.toNat 2)) + (if (if v35 < 0 then (0 : Int) else (1 : Int)) = 0 then (0 : Int) else (1 : Int))) ∧ inL L (rfo (Int.toNat (σ34.1 16 2)) 18) 2 ∧ WJ (fun (s39 : Unit) (σ40 : IS) => WJ (fun (s43 : Unit) (σ44 : IS) => WJ (fun (s47 : Unit) (σ48 : IS) => Q (pf σ48 16 16 v24)) (fun J45 => if (if v35 < 0 then (0 : Int) else (1 : Int)) = 0 then inL L 189 (σ44.1 16 40) ∧ inL L 190 (σ44.1 16 40) ∧ inL L 191 (σ44.1 16 40) ∧ inR ((σ44.1 16 58) - (σ5.1 16 58)) ∧ inL L 192 (σ44.1 16 40) ∧ inR ((σ44.1 16 40) + 1) ∧ J45 () (pf (pr (pr (pr (pr σ44 189 (Int.toNat (σ44.1 16 40)) v33) 190 (Int.toNat (σ44.1 16 40)) (nb s19.2.1)) 191 (Int.toNat (σ44.1 16 40)) (if s19.2.1 = 4 then (σ5.1 16 47) else (σ5.1 16 58))) 192 (Int.toNat (σ44.1 16 40)) ((σ44.1 16 58) - (σ5.1 16 58))) 16 40 ((σ44.1 16 40) + 1)) else J45 () (pf (pf σ44 16 47 (σ5.1 16 47)) 16 58 (σ5.1 16 58)))) (fun J41 => if s19.2.1 = 4 then w_KReader_build L v6 s19.1 (fun σ61 => dyD (σ61.1 16 2) ∧ inL L (rfo (Int.toNat (σ61.1 16 2)) 18) 4 ∧ w_KReader_isDeterministic L (σ5.1 16 47) (fun v65 σ64 => inR ((σ61.2 (rfo (Int.toNat (σ61.1 16 2)) 18) (Int.toNat 4)) + (if v65 = 0 then (1 : Int) else (0 : Int))) ∧ inL L (rfo (Int.toNat (σ61.1 16 2)) 18) 4 ∧ J41 () (pr σ64 (rfo (Int.toNat (σ61.1 16 2)) 18) (Int.toNat 4) ((σ61.2 (rfo (Int.toNat (σ61.1 16 2)) 18) (Int.toNat 4)) + (if v65 = 0 then (1 : Int) else (0 : Int))))) σ61) σ40 else J41 () σ40)) (fun J37 => if s19.2.1 = 3 then inL L (rfo (Int.toNat (σ34.1 16 2)) 18) 3 ∧ inR ((σ34.1 16 58) - (σ5.1 16 58)) ∧ w_KReader_doubles L (σ5.1 16 58) ((σ34.1 16 58) - (σ5.1 16 58)) (fun v75 σ74 => inR (((pr σ34 (rfo (Int.toNat (σ34.1 16 2)) 18) (Int.toNat 2) ((σ34.2 (rfo (Int.toNat (σ34.1 16 2)) 18) (Int.toNat 2)) + (if (if v35 < 0 then (0 : Int) else (1 : Int)) = 0 then (0 : Int) else (1 : Int)))).2 (rfo (Int.toNat (σ34.1 16 2)) 18) (Int.toNat 3)) + v75) ∧ inL L (rfo (Int.toNat (σ34.1 16 2)) 18) 3 ∧ J37 () (pr σ74 (rfo (Int.toNat (σ34.1 16 2)) 18) (Int.toNat 3) (((pr σ34 (rfo (Int.toNat (σ34.1 16 2)) 18) (Int.toNat 2) ((σ34.2 (rfo (Int.toNat (σ34.1 16 2)) 18) (Int.toNat 2)) + (if (if v35 < 0 then (0 : Int) else (1 : Int)) = 0 then (0 : Int) else (1 : Int)))).2 (rfo (Int.toNat (σ34.1 16 2)) 18) (Int.toNat 3)) + v75))) (pr σ34 (rfo (Int.toNat (σ34.1 16 2)) 18) (Int.toNat 2) ((σ34.2 (rfo (Int.toNat (σ34.1 16 2)) 18) (Int.toNat 2)) + (if (if v35 < 0 then (0 : Int) else (1 : Int)) = 0 then (0 : Int) else (1 : Int)))) else J37 () (pr σ34 (rfo (Int.toNat (σ34.1 16 2)) 18) (Int.toNat 2) ((σ34.2 (rfo (Int.toNat (σ34.1 16 2)) 18) (Int.toNat 2)) + (if (if v35 < 0 then (0 : Int) else (1 : Int)) = 0 then (0 : Int) else (1 : Int)))))) σ32) σ31) (fun J28 => if s19.2.1 = 4 then if 255 < (σ25.1 16 76) ∨ (¬ (σ25.1 16 77) = 0) then w_KReader_fail L 4 (fun v94 σ93 => Q σ93) σ25 else J28 () σ25 else J28 () σ25)) σ23) σ21) σ20) (fun J17 => if s15.2 < 0 then WJ (fun (s103 : Int) (σ104 : IS) => J17 (s103, 4, s103) σ104) (fun J101 => if v6 < 0 then J101 (-1) (pf σ16 16 58 (σ5.1 16 58)) else w_KReader_model L v6 (fun v107 σ106 => J101 v107 σ106) (pf σ16 16 58 (σ5.1 16 58))) else J17 ((-1), s15.1, s15.2) σ16)) (fun J13 => if s11.2 < 0 then w_KReader_mixed L v6 (fun v110 σ109 => J13 (3, v110) σ109) σ12 else J13 (s11.1, s11.2) σ12)) (fun J9 => if v8 < 0 then w_KReader_word L v6 1126 (fun v113 σ112 => J9 (2, v113) σ112) σ7 else J9 (1, v8) σ7)) (pf (pf σ5 16 76 0) 16 77 0)) σ3) σ1) σ
set_option maxHeartbeats 4000000 in
set_option maxRecDepth 20000 in
theorem s_KReader_element {L : Nat → Nat} (hL : ∀ r, L r < 2147483648) {d : Nat} (hd : 73 ≤ d)  {Q : IS → Prop} {σ : IS}  (h : w_KReader_element L  Q σ) : OkI BF L d 15 b_KReader_element 11 0 0 [] [some (.inr 16)] σ (qv Q) := by
  unfold w_KReader_element at h
  obtain ⟨d, rfl⟩ : ∃ e, d = e + 1 := ⟨d - 1, by omega⟩
  refine k_sb (lv' := [some (.inr 16), none, none, none, none, none, none, none, none, none, none]) (sb_s (sb_e (sb_e (sb_e (sb_e (sb_e (sb_e (sb_e (sb_e (sb_e (sb_e sb_nil))))))))))) ?_
  refine k_aload_n d_KReader_element_0 rfl ?_
  refine k_aload_n d_KReader_element_1 rfl ?_
  refine k_getI (x := (σ.1 16 16)) d_KReader_element_2 fl_15_379 ob_16 rfl rfl ?_
  refine k_bipush d_KReader_element_5 cB_9 ?_
  obtain ⟨p114, h⟩ := h
  refine k_iadd d_KReader_element_7 p114 ?_
  refine k_cvi [.inl ((σ.1 16 16) + 9)] d_KReader_element_8 ml_15_333 rfl rfl ob_16 rfl (s_KReader_spaces hL (by omega)  h) (fun v2 σ1 h => ?_)
  refine k_istore_n (lv' := [some (.inr 16), some (.inl v2), none, none, none, none, none, none, none, none, none]) d_KReader_element_11 rfl rfl ?_
  refine k_aload_n d_KReader_element_12 rfl ?_
  refine k_iload_n d_KReader_element_13 rfl ?_
  refine k_cvi [.inl v2] d_KReader_element_14 ml_15_341 rfl rfl ob_16 rfl (s_KReader_name hL (by omega)  h) (fun v4 σ3 h => ?_)
  refine k_istore_n (lv' := [some (.inr 16), some (.inl v2), some (.inl v4), none, none, none, none, none, none, none, none]) d_KReader_element_17 rfl rfl ?_
  refine k_aload_n d_KReader_element_18 rfl ?_
  refine k_iload_n d_KReader_element_19 rfl ?_
  refine k_cvi [.inl v4] d_KReader_element_20 ml_15_333 rfl rfl ob_16 rfl (s_KReader_spaces hL (by omega)  h) (fun v6 σ5 h => ?_)
  refine k_istore_n (lv' := [some (.inr 16), some (.inl v2), some (.inl v4), some (.inl v6), none, none, none, none, none, none, none]) d_KReader_element_23 rfl rfl ?_
  refine k_aload_n d_KReader_element_24 rfl ?_
  refine k_getI (x := (σ5.1 16 47)) d_KReader_element_25 fl_15_212 ob_16 rfl rfl ?_
  refine k_istore (lv' := [some (.inr 16), some (.inl v2), some (.inl v4), some (.inl v6), some (.inl (σ5.1 16 47)), none, none, none, none, none, none]) d_KReader_element_28 rfl rfl ?_
  refine k_aload_n d_KReader_element_30 rfl ?_
  refine k_getI (x := (σ5.1 16 58)) d_KReader_element_31 fl_15_218 ob_16 rfl rfl ?_
  refine k_istore (lv' := [some (.inr 16), some (.inl v2), some (.inl v4), some (.inl v6), some (.inl (σ5.1 16 47)), some (.inl (σ5.1 16 58)), none, none, none, none, none]) d_KReader_element_34 rfl rfl ?_
  refine k_iconst d_KReader_element_36 cI_m1 ?_
  refine k_istore (lv' := [some (.inr 16), some (.inl v2), some (.inl v4), some (.inl v6), some (.inl (σ5.1 16 47)), some (.inl (σ5.1 16 58)), some (.inl (-1)), none, none, none, none]) d_KReader_element_37 rfl rfl ?_
  refine k_aload_n d_KReader_element_39 rfl ?_
  refine k_iconst d_KReader_element_40 cI_0 ?_
  refine k_putI d_KReader_element_41 fl_15_542 ob_16 rfl ?_
  refine k_aload_n d_KReader_element_44 rfl ?_
  refine k_iconst d_KReader_element_45 cI_0 ?_
  refine k_putZ d_KReader_element_46 fl_15_545 ob_16 rfl (Or.inl rfl) ?_
  refine k_iconst d_KReader_element_49 cI_1 ?_
  refine k_istore (lv' := [some (.inr 16), some (.inl v2), some (.inl v4), some (.inl v6), some (.inl (σ5.1 16 47)), some (.inl (σ5.1 16 58)), some (.inl (-1)), some (.inl 1), none, none, none]) d_KReader_element_50 rfl rfl ?_
  refine k_aload_n d_KReader_element_52 rfl ?_
  refine k_iload_n d_KReader_element_53 rfl ?_
  refine k_ldcw d_KReader_element_54 ks_15_548 rfl ?_
  refine k_cvi [.inl v6, .inr 1125] d_KReader_element_57 ml_15_329 rfl rfl ob_16 rfl (s_KReader_word hL (by omega) it_1125 h) (fun v8 σ7 h => ?_)
  refine k_istore (lv' := [some (.inr 16), some (.inl v2), some (.inl v4), some (.inl v6), some (.inl (σ5.1 16 47)), some (.inl (σ5.1 16 58)), some (.inl (-1)), some (.inl 1), some (.inl v8), none, none]) d_KReader_element_60 rfl rfl ?_
  refine k_iload d_KReader_element_62 rfl ?_
  refine k_join (S := Int × Int) (pc' := 80) (st' := fun s11 => []) (lv' := fun s11 => [some (.inr 16), some (.inl v2), some (.inl v4), some (.inl v6), some (.inl (σ5.1 16 47)), some (.inl (σ5.1 16 58)), some (.inl (-1)), some (.inl s11.1), some (.inl s11.2), none, none]) (fun s11 σ12 h => ?_) (fun J9 hJ10 h => ?_) h
  · refine k_iload d_KReader_element_80 rfl ?_
    refine k_join (S := Int × Int) (pc' := 95) (st' := fun s15 => []) (lv' := fun s15 => [some (.inr 16), some (.inl v2), some (.inl v4), some (.inl v6), some (.inl (σ5.1 16 47)), some (.inl (σ5.1 16 58)), some (.inl (-1)), some (.inl s15.1), some (.inl s15.2), none, none]) (fun s15 σ16 h => ?_) (fun J13 hJ14 h => ?_) h
    · refine k_iload d_KReader_element_95 rfl ?_
      refine k_join (S := Int × Int × Int) (pc' := 128) (st' := fun s19 => []) (lv' := fun s19 => [some (.inr 16), some (.inl v2), some (.inl v4), some (.inl v6), some (.inl (σ5.1 16 47)), some (.inl (σ5.1 16 58)), some (.inl s19.1), some (.inl s19.2.1), some (.inl s19.2.2), none, none]) (fun s19 σ20 h => ?_) (fun J17 hJ18 h => ?_) h
      · refine k_aload_n d_KReader_element_128 rfl ?_
        refine k_aload_n d_KReader_element_129 rfl ?_
        refine k_iload d_KReader_element_130 rfl ?_
        refine k_cvi [.inl s19.2.2] d_KReader_element_132 ml_15_297 rfl rfl ob_16 rfl (s_KReader_anySpaces hL (by omega)  h) (fun v22 σ21 h => ?_)
        refine k_ldcw d_KReader_element_135 ks_15_527 rfl ?_
        refine k_cvi [.inl v22, .inr 1124] d_KReader_element_138 ml_15_329 rfl rfl ob_16 rfl (s_KReader_word hL (by omega) it_1124 h) (fun v24 σ23 h => ?_)
        refine k_istore (lv' := [some (.inr 16), some (.inl v2), some (.inl v4), some (.inl v6), some (.inl (σ5.1 16 47)), some (.inl (σ5.1 16 58)), some (.inl s19.1), some (.inl s19.2.1), some (.inl v24), none, none]) d_KReader_element_141 rfl rfl ?_
        refine k_aload_n d_KReader_element_143 rfl ?_
        refine k_iload d_KReader_element_144 rfl ?_
        refine k_cvi [.inl v24] d_KReader_element_146 ml_15_437 rfl rfl ob_16 rfl (s_KReader_written hL (by omega)  h) (fun v26 σ25 h => ?_)
        refine k_ifne d_KReader_element_149 rfl (fun c27 => ?_) (fun c27 => ?_)
        · have h := ineg c27 h
          refine k_iload d_KReader_element_153 rfl ?_
          refine k_iconst d_KReader_element_155 cI_4 ?_
          refine k_join (S := Unit) (pc' := 183) (st' := fun s30 => []) (lv' := fun s30 => [some (.inr 16), some (.inl v2), some (.inl v4), some (.inl v6), some (.inl (σ5.1 16 47)), some (.inl (σ5.1 16 58)), some (.inl s19.1), some (.inl s19.2.1), some (.inl v24), none, none]) (fun s30 σ31 h => ?_) (fun J28 hJ29 h => ?_) h
          · refine k_aload_n d_KReader_element_183 rfl ?_
            refine k_iload_n d_KReader_element_184 rfl ?_
            refine k_iload_n d_KReader_element_185 rfl ?_
            refine k_iload_n d_KReader_element_186 rfl ?_
            obtain ⟨p91, h⟩ := h
            refine k_isub d_KReader_element_187 p91 ?_
            refine k_cvi [.inl v2, .inl (v4 - v2)] d_KReader_element_188 ml_15_470 rfl rfl ob_16 rfl (s_KReader_keep hL (by omega)  h) (fun v33 σ32 h => ?_)
            refine k_istore (lv' := [some (.inr 16), some (.inl v2), some (.inl v4), some (.inl v6), some (.inl (σ5.1 16 47)), some (.inl (σ5.1 16 58)), some (.inl s19.1), some (.inl s19.2.1), some (.inl v24), some (.inl v33), none]) d_KReader_element_191 rfl rfl ?_
            refine k_aload_n d_KReader_element_193 rfl ?_
            refine k_iload d_KReader_element_194 rfl ?_
            refine k_cvi [.inl v33] d_KReader_element_196 ml_15_558 rfl rfl ob_16 rfl (s_KReader_contentOf hL (by omega)  h) (fun v35 σ34 h => ?_)
            have hV87 : OkI BF L (d + 1) 15 b_KReader_element 11 0 207 [.inl (if v35 < 0 then (0 : Int) else (1 : Int))] [some (.inr 16), some (.inl v2), some (.inl v4), some (.inl v6), some (.inl (σ5.1 16 47)), some (.inl (σ5.1 16 58)), some (.inl s19.1), some (.inl s19.2.1), some (.inl v24), some (.inl v33), none] σ34 (qv Q) := by
              refine k_istore (lv' := [some (.inr 16), some (.inl v2), some (.inl v4), some (.inl v6), some (.inl (σ5.1 16 47)), some (.inl (σ5.1 16 58)), some (.inl s19.1), some (.inl s19.2.1), some (.inl v24), some (.inl v33), some (.inl (if v35 < 0 then (0 : Int) else (1 : Int)))]) d_KReader_element_207 rfl rfl ?_
              refine k_aload_n d_KReader_element_209 rfl ?_
              obtain ⟨y36, h⟩ := h
              refine k_getD (x := (σ34.1 16 2)) d_KReader_element_210 fl_15_150 ob_16 rfl rfl (dyD_pos y36) ?_
              refine k_getR d_KReader_element_213 fl_15_561 (doc_ob (dyD_doc y36)) (dfr_18 (dyD_doc y36)) ?_
              refine k_iconst d_KReader_element_216 cI_2 ?_
              refine k_dup2 d_KReader_element_217 ?_
              obtain ⟨p86, h⟩ := h
              refine k_ild (x := (σ34.2 (rfo (Int.toNat (σ34.1 16 2)) 18) (Int.toNat 2))) d_KReader_element_218 (drI_18 (dyD_doc y36)) p86 rfl ?_
              refine k_iload d_KReader_element_219 rfl ?_
              have hV82 : OkI BF L (d + 1) 15 b_KReader_element 11 0 229 [.inl (if (if v35 < 0 then (0 : Int) else (1 : Int)) = 0 then (0 : Int) else (1 : Int)), .inl (σ34.2 (rfo (Int.toNat (σ34.1 16 2)) 18) (Int.toNat 2)), .inl 2, .inr (rfo (Int.toNat (σ34.1 16 2)) 18)] [some (.inr 16), some (.inl v2), some (.inl v4), some (.inl v6), some (.inl (σ5.1 16 47)), some (.inl (σ5.1 16 58)), some (.inl s19.1), some (.inl s19.2.1), some (.inl v24), some (.inl v33), some (.inl (if v35 < 0 then (0 : Int) else (1 : Int)))] σ34 (qv Q) := by
                obtain ⟨p81, h⟩ := h
                refine k_iadd d_KReader_element_229 p81 ?_
                obtain ⟨p80, h⟩ := h
                refine k_ist d_KReader_element_230 (drI_18 (dyD_doc y36)) p80 ?_
                refine k_iload d_KReader_element_231 rfl ?_
                refine k_iconst d_KReader_element_233 cI_3 ?_
                refine k_join (S := Unit) (pc' := 262) (st' := fun s39 => []) (lv' := fun s39 => [some (.inr 16), none, none, some (.inl v6), some (.inl (σ5.1 16 47)), some (.inl (σ5.1 16 58)), some (.inl s19.1), some (.inl s19.2.1), some (.inl v24), some (.inl v33), some (.inl (if v35 < 0 then (0 : Int) else (1 : Int)))]) (fun s39 σ40 h => ?_) (fun J37 hJ38 h => ?_) h
                · refine k_iload d_KReader_element_262 rfl ?_
                  refine k_iconst d_KReader_element_264 cI_4 ?_
                  refine k_join (S := Unit) (pc' := 301) (st' := fun s43 => []) (lv' := fun s43 => [some (.inr 16), none, none, none, some (.inl (σ5.1 16 47)), some (.inl (σ5.1 16 58)), none, some (.inl s19.2.1), some (.inl v24), some (.inl v33), some (.inl (if v35 < 0 then (0 : Int) else (1 : Int)))]) (fun s43 σ44 h => ?_) (fun J41 hJ42 h => ?_) h
                  · refine k_iload d_KReader_element_301 rfl ?_
                    refine k_join (S := Unit) (pc' := 392) (st' := fun s47 => []) (lv' := fun s47 => [some (.inr 16), none, none, none, none, none, none, none, some (.inl v24), none, none]) (fun s47 σ48 h => ?_) (fun J45 hJ46 h => ?_) h
                    · refine k_aload_n d_KReader_element_392 rfl ?_
                      refine k_iload d_KReader_element_393 rfl ?_
                      refine k_putI d_KReader_element_395 fl_15_379 ob_16 rfl ?_
                      exact k_ret d_KReader_element_398 h
                    · refine k_ifne d_KReader_element_303 rfl (fun c49 => ?_) (fun c49 => ?_)
                      · have h := ineg c49 h
                        refine k_aload_n d_KReader_element_380 rfl ?_
                        refine k_iload d_KReader_element_381 rfl ?_
                        refine k_putI d_KReader_element_383 fl_15_212 ob_16 rfl ?_
                        refine k_aload_n d_KReader_element_386 rfl ?_
                        refine k_iload d_KReader_element_387 rfl ?_
                        refine k_putI d_KReader_element_389 fl_15_218 ob_16 rfl ?_
                        exact k_sb (sb_s (sb_s (sb_s (sb_s (sb_n (sb_n (sb_s (sb_n (sb_s (sb_n (sb_n sb_nil))))))))))) (hJ46 () _ h)
                      · have h := ipos c49 h
                        refine k_aload_n d_KReader_element_306 rfl ?_
                        refine k_getR d_KReader_element_307 fl_15_84 ob_16 rfl ?_
                        refine k_aload_n d_KReader_element_310 rfl ?_
                        refine k_getI (x := (σ44.1 16 40)) d_KReader_element_311 fl_15_209 ob_16 rfl rfl ?_
                        refine k_iload d_KReader_element_314 rfl ?_
                        obtain ⟨p59, h⟩ := h
                        refine k_ist d_KReader_element_316 rI_189 p59 ?_
                        refine k_aload_n d_KReader_element_317 rfl ?_
                        refine k_getR d_KReader_element_318 fl_15_87 ob_16 rfl ?_
                        refine k_aload_n d_KReader_element_321 rfl ?_
                        refine k_getI (x := (σ44.1 16 40)) d_KReader_element_322 fl_15_209 ob_16 rfl rfl ?_
                        refine k_iload d_KReader_element_325 rfl ?_
                        refine k_i2b d_KReader_element_327 ?_
                        obtain ⟨p58, h⟩ := h
                        refine k_bst d_KReader_element_328 rb_190 p58 (nb_in _) ?_
                        refine k_aload_n d_KReader_element_329 rfl ?_
                        refine k_getR d_KReader_element_330 fl_15_90 ob_16 rfl ?_
                        refine k_aload_n d_KReader_element_333 rfl ?_
                        refine k_getI (x := (σ44.1 16 40)) d_KReader_element_334 fl_15_209 ob_16 rfl rfl ?_
                        refine k_iload d_KReader_element_337 rfl ?_
                        refine k_iconst d_KReader_element_339 cI_4 ?_
                        have hV54 : OkI BF L (d + 1) 15 b_KReader_element 11 0 350 [.inl (if s19.2.1 = 4 then (σ5.1 16 47) else (σ5.1 16 58)), .inl (σ44.1 16 40), .inr 191] [some (.inr 16), none, none, none, some (.inl (σ5.1 16 47)), some (.inl (σ5.1 16 58)), none, some (.inl s19.2.1), some (.inl v24), some (.inl v33), some (.inl (if v35 < 0 then (0 : Int) else (1 : Int)))] (pr (pr σ44 189 (Int.toNat (σ44.1 16 40)) v33) 190 (Int.toNat (σ44.1 16 40)) (nb s19.2.1)) (qv Q) := by
                          obtain ⟨p53, h⟩ := h
                          refine k_ist d_KReader_element_350 rI_191 p53 ?_
                          refine k_aload_n d_KReader_element_351 rfl ?_
                          refine k_getR d_KReader_element_352 fl_15_93 ob_16 rfl ?_
                          refine k_aload_n d_KReader_element_355 rfl ?_
                          refine k_getI (x := (σ44.1 16 40)) d_KReader_element_356 fl_15_209 ob_16 rfl rfl ?_
                          refine k_aload_n d_KReader_element_359 rfl ?_
                          refine k_getI (x := (σ44.1 16 58)) d_KReader_element_360 fl_15_218 ob_16 rfl rfl ?_
                          refine k_iload d_KReader_element_363 rfl ?_
                          obtain ⟨p52, h⟩ := h
                          refine k_isub d_KReader_element_365 p52 ?_
                          obtain ⟨p51, h⟩ := h
                          refine k_ist d_KReader_element_366 rI_192 p51 ?_
                          refine k_aload_n d_KReader_element_367 rfl ?_
                          refine k_dup d_KReader_element_368 ?_
                          refine k_getI (x := (σ44.1 16 40)) d_KReader_element_369 fl_15_209 ob_16 rfl rfl ?_
                          refine k_iconst d_KReader_element_372 cI_1 ?_
                          obtain ⟨p50, h⟩ := h
                          refine k_iadd d_KReader_element_373 p50 ?_
                          refine k_putI d_KReader_element_374 fl_15_209 ob_16 rfl ?_
                          refine k_goto d_KReader_element_377 rfl ?_
                          exact k_sb (sb_s (sb_s (sb_s (sb_s (sb_n (sb_n (sb_s (sb_n (sb_s (sb_n (sb_n sb_nil))))))))))) (hJ46 () _ h)
                        refine k_icne d_KReader_element_340 rfl (fun c55 => ?_) (fun c55 => ?_)
                        · have hV57 := k_eqI (if_neg c55) hV54
                          refine k_iload d_KReader_element_348 rfl ?_
                          exact hV57
                        · have hV56 := k_eqI (if_pos c55) hV54
                          refine k_iload d_KReader_element_343 rfl ?_
                          refine k_goto d_KReader_element_345 rfl ?_
                          exact hV56
                  · refine k_icne d_KReader_element_265 rfl (fun c60 => ?_) (fun c60 => ?_)
                    · have h := ineg c60 h
                      exact k_sb (sb_s (sb_s (sb_s (sb_n (sb_s (sb_s (sb_n (sb_s (sb_s (sb_s (sb_s sb_nil))))))))))) (hJ42 () _ h)
                    · have h := ipos c60 h
                      refine k_aload_n d_KReader_element_268 rfl ?_
                      refine k_iload_n d_KReader_element_269 rfl ?_
                      refine k_iload d_KReader_element_270 rfl ?_
                      refine k_cvv [.inl v6, .inl s19.1] d_KReader_element_272 ml_15_567 rfl rfl ob_16 rfl (s_KReader_build hL (by omega)  h) (fun σ61 h => ?_)
                      refine k_aload_n d_KReader_element_275 rfl ?_
                      obtain ⟨y63, h⟩ := h
                      refine k_getD (x := (σ61.1 16 2)) d_KReader_element_276 fl_15_150 ob_16 rfl rfl (dyD_pos y63) ?_
                      refine k_getR d_KReader_element_279 fl_15_561 (doc_ob (dyD_doc y63)) (dfr_18 (dyD_doc y63)) ?_
                      refine k_iconst d_KReader_element_282 cI_4 ?_
                      refine k_dup2 d_KReader_element_283 ?_
                      obtain ⟨p72, h⟩ := h
                      refine k_ild (x := (σ61.2 (rfo (Int.toNat (σ61.1 16 2)) 18) (Int.toNat 4))) d_KReader_element_284 (drI_18 (dyD_doc y63)) p72 rfl ?_
                      refine k_aload_n d_KReader_element_285 rfl ?_
                      refine k_iload d_KReader_element_286 rfl ?_
                      refine k_cvi [.inl (σ5.1 16 47)] d_KReader_element_288 ml_15_570 rfl rfl ob_16 rfl (s_KReader_isDeterministic hL (by omega)  h) (fun v65 σ64 h => ?_)
                      have hV68 : OkI BF L (d + 1) 15 b_KReader_element 11 0 299 [.inl (if v65 = 0 then (1 : Int) else (0 : Int)), .inl (σ61.2 (rfo (Int.toNat (σ61.1 16 2)) 18) (Int.toNat 4)), .inl 4, .inr (rfo (Int.toNat (σ61.1 16 2)) 18)] [some (.inr 16), none, none, some (.inl v6), some (.inl (σ5.1 16 47)), some (.inl (σ5.1 16 58)), some (.inl s19.1), some (.inl s19.2.1), some (.inl v24), some (.inl v33), some (.inl (if v35 < 0 then (0 : Int) else (1 : Int)))] σ64 (qv Q) := by
                        obtain ⟨p67, h⟩ := h
                        refine k_iadd d_KReader_element_299 p67 ?_
                        obtain ⟨p66, h⟩ := h
                        refine k_ist d_KReader_element_300 (drI_18 (dyD_doc y63)) p66 ?_
                        exact k_sb (sb_s (sb_s (sb_s (sb_n (sb_s (sb_s (sb_n (sb_s (sb_s (sb_s (sb_s sb_nil))))))))))) (hJ42 () _ h)
                      refine k_ifeq d_KReader_element_291 rfl (fun c69 => ?_) (fun c69 => ?_)
                      · have hV70 := k_eqI (if_pos c69) hV68
                        refine k_iconst d_KReader_element_298 cI_1 ?_
                        exact hV70
                      · have hV71 := k_eqI (if_neg c69) hV68
                        refine k_iconst d_KReader_element_294 cI_0 ?_
                        refine k_goto d_KReader_element_295 rfl ?_
                        exact hV71
                · refine k_icne d_KReader_element_234 rfl (fun c73 => ?_) (fun c73 => ?_)
                  · have h := ineg c73 h
                    exact k_sb (sb_s (sb_n (sb_n (sb_s (sb_s (sb_s (sb_s (sb_s (sb_s (sb_s (sb_s sb_nil))))))))))) (hJ38 () _ h)
                  · have h := ipos c73 h
                    refine k_aload_n d_KReader_element_237 rfl ?_
                    refine k_getD (x := (σ34.1 16 2)) d_KReader_element_238 fl_15_150 ob_16 rfl rfl (dyD_pos y36) ?_
                    refine k_getR d_KReader_element_241 fl_15_561 (doc_ob (dyD_doc y36)) (dfr_18 (dyD_doc y36)) ?_
                    refine k_iconst d_KReader_element_244 cI_3 ?_
                    refine k_dup2 d_KReader_element_245 ?_
                    obtain ⟨p79, h⟩ := h
                    refine k_ild (x := ((pr σ34 (rfo (Int.toNat (σ34.1 16 2)) 18) (Int.toNat 2) ((σ34.2 (rfo (Int.toNat (σ34.1 16 2)) 18) (Int.toNat 2)) + (if (if v35 < 0 then (0 : Int) else (1 : Int)) = 0 then (0 : Int) else (1 : Int)))).2 (rfo (Int.toNat (σ34.1 16 2)) 18) (Int.toNat 3))) d_KReader_element_246 (drI_18 (dyD_doc y36)) p79 rfl ?_
                    refine k_aload_n d_KReader_element_247 rfl ?_
                    refine k_iload d_KReader_element_248 rfl ?_
                    refine k_aload_n d_KReader_element_250 rfl ?_
                    refine k_getI (x := (σ34.1 16 58)) d_KReader_element_251 fl_15_218 ob_16 rfl rfl ?_
                    refine k_iload d_KReader_element_254 rfl ?_
                    obtain ⟨p78, h⟩ := h
                    refine k_isub d_KReader_element_256 p78 ?_
                    refine k_cvi [.inl (σ5.1 16 58), .inl ((σ34.1 16 58) - (σ5.1 16 58))] d_KReader_element_257 ml_15_564 rfl rfl ob_16 rfl (s_KReader_doubles hL (by omega)  h) (fun v75 σ74 h => ?_)
                    obtain ⟨p77, h⟩ := h
                    refine k_iadd d_KReader_element_260 p77 ?_
                    obtain ⟨p76, h⟩ := h
                    refine k_ist d_KReader_element_261 (drI_18 (dyD_doc y36)) p76 ?_
                    exact k_sb (sb_s (sb_n (sb_n (sb_s (sb_s (sb_s (sb_s (sb_s (sb_s (sb_s (sb_s sb_nil))))))))))) (hJ38 () _ h)
              refine k_ifeq d_KReader_element_221 rfl (fun c83 => ?_) (fun c83 => ?_)
              · have hV84 := k_eqI (if_pos c83) hV82
                refine k_iconst d_KReader_element_228 cI_0 ?_
                exact hV84
              · have hV85 := k_eqI (if_neg c83) hV82
                refine k_iconst d_KReader_element_224 cI_1 ?_
                refine k_goto d_KReader_element_225 rfl ?_
                exact hV85
            refine k_iflt d_KReader_element_199 rfl (fun c88 => ?_) (fun c88 => ?_)
            · have hV89 := k_eqI (if_pos c88) hV87
              refine k_iconst d_KReader_element_206 cI_0 ?_
              exact hV89
            · have hV90 := k_eqI (if_neg c88) hV87
              refine k_iconst d_KReader_element_202 cI_1 ?_
              refine k_goto d_KReader_element_203 rfl ?_
              exact hV90
          · refine k_icne d_KReader_element_156 rfl (fun c92 => ?_) (fun c92 => ?_)
            · have h := ineg c92 h
              exact k_sb (sb_s (sb_s (sb_s (sb_s (sb_s (sb_s (sb_s (sb_s (sb_s (sb_s (sb_s sb_nil))))))))))) (hJ29 () _ h)
            · have h := ipos c92 h
              refine k_aload_n d_KReader_element_159 rfl ?_
              refine k_getI (x := (σ25.1 16 76)) d_KReader_element_160 fl_15_542 ob_16 rfl rfl ?_
              refine k_sipush d_KReader_element_163 cS_255 ?_
              have hX95 : (255 < (σ25.1 16 76) ∨ (¬ (σ25.1 16 77) = 0)) → OkI BF L (d + 1) 15 b_KReader_element 11 0 176 [] [some (.inr 16), some (.inl v2), some (.inl v4), some (.inl v6), some (.inl (σ5.1 16 47)), some (.inl (σ5.1 16 58)), some (.inl s19.1), some (.inl s19.2.1), some (.inl v24), none, none] σ25 (qv Q) := fun e97 => by
                have h := ipos e97 h
                refine k_aload_n d_KReader_element_176 rfl ?_
                refine k_iconst d_KReader_element_177 cI_4 ?_
                refine k_cvi [.inl 4] d_KReader_element_178 ml_15_392 rfl rfl ob_16 rfl (s_KReader_fail hL (by omega)  h) (fun v94 σ93 h => ?_)
                refine k_pop d_KReader_element_181 ?_
                exact k_ret d_KReader_element_182 h
              have hY96 : ¬ (255 < (σ25.1 16 76) ∨ (¬ (σ25.1 16 77) = 0)) → OkI BF L (d + 1) 15 b_KReader_element 11 0 183 [] [some (.inr 16), some (.inl v2), some (.inl v4), some (.inl v6), some (.inl (σ5.1 16 47)), some (.inl (σ5.1 16 58)), some (.inl s19.1), some (.inl s19.2.1), some (.inl v24), none, none] σ25 (qv Q) := fun e97 => by
                have h := ineg e97 h
                exact k_sb (sb_s (sb_s (sb_s (sb_s (sb_s (sb_s (sb_s (sb_s (sb_s (sb_s (sb_s sb_nil))))))))))) (hJ29 () _ h)
              refine k_icgt d_KReader_element_166 rfl (fun c98 => ?_) (fun c98 => ?_)
              · exact hX95 (Or.inl c98)
              · refine k_aload_n d_KReader_element_169 rfl ?_
                refine k_getI (x := (σ25.1 16 77)) d_KReader_element_170 fl_15_545 ob_16 rfl rfl ?_
                refine k_ifeq d_KReader_element_173 rfl (fun c99 => ?_) (fun c99 => ?_)
                · exact hY96 (fun z => z.elim c98 (fun z => z c99))
                · exact hX95 (Or.inr (c99))
        · have h := ipos c27 h
          exact k_ret d_KReader_element_152 h
      · refine k_ifge d_KReader_element_97 rfl (fun c100 => ?_) (fun c100 => ?_)
        · have h := ineg c100 h
          exact k_sb (sb_s (sb_s (sb_s (sb_s (sb_s (sb_s (sb_s (sb_s (sb_s (sb_s (sb_s sb_nil))))))))))) (hJ18 ((-1), s15.1, s15.2) _ h)
        · have h := ipos c100 h
          refine k_aload_n d_KReader_element_100 rfl ?_
          refine k_iload d_KReader_element_101 rfl ?_
          refine k_putI d_KReader_element_103 fl_15_218 ob_16 rfl ?_
          refine k_iconst d_KReader_element_106 cI_4 ?_
          refine k_istore (lv' := [some (.inr 16), some (.inl v2), some (.inl v4), some (.inl v6), some (.inl (σ5.1 16 47)), some (.inl (σ5.1 16 58)), some (.inl (-1)), some (.inl 4), some (.inl s15.2), none, none]) d_KReader_element_107 rfl rfl ?_
          refine k_iload_n d_KReader_element_109 rfl ?_
          refine k_join (S := Int) (pc' := 122) (st' := fun s103 => [.inl s103]) (lv' := fun s103 => [some (.inr 16), some (.inl v2), some (.inl v4), some (.inl v6), some (.inl (σ5.1 16 47)), some (.inl (σ5.1 16 58)), none, some (.inl 4), none, none, none]) (fun s103 σ104 h => ?_) (fun J101 hJ102 h => ?_) h
          · refine k_istore (lv' := [some (.inr 16), some (.inl v2), some (.inl v4), some (.inl v6), some (.inl (σ5.1 16 47)), some (.inl (σ5.1 16 58)), none, some (.inl 4), some (.inl s103), none, none]) d_KReader_element_122 rfl rfl ?_
            refine k_iload d_KReader_element_124 rfl ?_
            refine k_istore (lv' := [some (.inr 16), some (.inl v2), some (.inl v4), some (.inl v6), some (.inl (σ5.1 16 47)), some (.inl (σ5.1 16 58)), some (.inl s103), some (.inl 4), some (.inl s103), none, none]) d_KReader_element_126 rfl rfl ?_
            exact k_sb (sb_s (sb_s (sb_s (sb_s (sb_s (sb_s (sb_s (sb_s (sb_s (sb_s (sb_s sb_nil))))))))))) (hJ18 (s103, 4, s103) _ h)
          · refine k_ifge d_KReader_element_110 rfl (fun c105 => ?_) (fun c105 => ?_)
            · have h := ineg c105 h
              refine k_aload_n d_KReader_element_117 rfl ?_
              refine k_iload_n d_KReader_element_118 rfl ?_
              refine k_cvi [.inl v6] d_KReader_element_119 ml_15_555 rfl rfl ob_16 rfl (s_KReader_model hL (by omega)  h) (fun v107 σ106 h => ?_)
              exact k_sb (sb_s (sb_s (sb_s (sb_s (sb_s (sb_s (sb_n (sb_s (sb_n (sb_s (sb_s sb_nil))))))))))) (hJ102 v107 _ h)
            · have h := ipos c105 h
              refine k_iconst d_KReader_element_113 cI_m1 ?_
              refine k_goto d_KReader_element_114 rfl ?_
              exact k_sb (sb_s (sb_s (sb_s (sb_s (sb_s (sb_s (sb_n (sb_s (sb_n (sb_s (sb_s sb_nil))))))))))) (hJ102 (-1) _ h)
    · refine k_ifge d_KReader_element_82 rfl (fun c108 => ?_) (fun c108 => ?_)
      · have h := ineg c108 h
        exact k_sb (sb_s (sb_s (sb_s (sb_s (sb_s (sb_s (sb_s (sb_s (sb_s (sb_s (sb_s sb_nil))))))))))) (hJ14 (s11.1, s11.2) _ h)
      · have h := ipos c108 h
        refine k_iconst d_KReader_element_85 cI_3 ?_
        refine k_istore (lv' := [some (.inr 16), some (.inl v2), some (.inl v4), some (.inl v6), some (.inl (σ5.1 16 47)), some (.inl (σ5.1 16 58)), some (.inl (-1)), some (.inl 3), some (.inl s11.2), none, none]) d_KReader_element_86 rfl rfl ?_
        refine k_aload_n d_KReader_element_88 rfl ?_
        refine k_iload_n d_KReader_element_89 rfl ?_
        refine k_cvi [.inl v6] d_KReader_element_90 ml_15_552 rfl rfl ob_16 rfl (s_KReader_mixed hL (by omega)  h) (fun v110 σ109 h => ?_)
        refine k_istore (lv' := [some (.inr 16), some (.inl v2), some (.inl v4), some (.inl v6), some (.inl (σ5.1 16 47)), some (.inl (σ5.1 16 58)), some (.inl (-1)), some (.inl 3), some (.inl v110), none, none]) d_KReader_element_93 rfl rfl ?_
        exact k_sb (sb_s (sb_s (sb_s (sb_s (sb_s (sb_s (sb_s (sb_s (sb_s (sb_s (sb_s sb_nil))))))))))) (hJ14 (3, v110) _ h)
  · refine k_ifge d_KReader_element_64 rfl (fun c111 => ?_) (fun c111 => ?_)
    · have h := ineg c111 h
      exact k_sb (sb_s (sb_s (sb_s (sb_s (sb_s (sb_s (sb_s (sb_s (sb_s (sb_s (sb_s sb_nil))))))))))) (hJ10 (1, v8) _ h)
    · have h := ipos c111 h
      refine k_iconst d_KReader_element_67 cI_2 ?_
      refine k_istore (lv' := [some (.inr 16), some (.inl v2), some (.inl v4), some (.inl v6), some (.inl (σ5.1 16 47)), some (.inl (σ5.1 16 58)), some (.inl (-1)), some (.inl 2), some (.inl v8), none, none]) d_KReader_element_68 rfl rfl ?_
      refine k_aload_n d_KReader_element_70 rfl ?_
      refine k_iload_n d_KReader_element_71 rfl ?_
      refine k_ldcw d_KReader_element_72 ks_15_550 rfl ?_
      refine k_cvi [.inl v6, .inr 1126] d_KReader_element_75 ml_15_329 rfl rfl ob_16 rfl (s_KReader_word hL (by omega) it_1126 h) (fun v113 σ112 h => ?_)
      refine k_istore (lv' := [some (.inr 16), some (.inl v2), some (.inl v4), some (.inl v6), some (.inl (σ5.1 16 47)), some (.inl (σ5.1 16 58)), some (.inl (-1)), some (.inl 2), some (.inl v113), none, none]) d_KReader_element_78 rfl rfl ?_
      exact k_sb (sb_s (sb_s (sb_s (sb_s (sb_s (sb_s (sb_s (sb_s (sb_s (sb_s (sb_s sb_nil))))))))))) (hJ10 (2, v113) _ h)
theorem d_KReader_bracketed_0 : decode b_KReader_bracketed 0 = .ok (.aload_n 0, 1) := by decide +kernel
theorem d_KReader_bracketed_1 : decode b_KReader_bracketed 1 = .ok (.iload_n 1, 1) := by decide +kernel
theorem d_KReader_bracketed_2 : decode b_KReader_bracketed 2 = .ok (.ldc_w 573, 3) := by decide +kernel
theorem d_KReader_bracketed_5 : decode b_KReader_bracketed 5 = .ok (.invokevirtual 329, 3) := by decide +kernel
theorem d_KReader_bracketed_8 : decode b_KReader_bracketed 8 = .ok (.istore_n 3, 1) := by decide +kernel
theorem d_KReader_bracketed_9 : decode b_KReader_bracketed 9 = .ok (.iload_n 3, 1) := by decide +kernel
theorem d_KReader_bracketed_10 : decode b_KReader_bracketed 10 = .ok (.ifCond .lt 63, 3) := by decide +kernel
theorem d_KReader_bracketed_13 : decode b_KReader_bracketed 13 = .ok (.aload_n 0, 1) := by decide +kernel
theorem d_KReader_bracketed_14 : decode b_KReader_bracketed 14 = .ok (.iload_n 3, 1) := by decide +kernel
theorem d_KReader_bracketed_15 : decode b_KReader_bracketed 15 = .ok (.invokevirtual 297, 3) := by decide +kernel
theorem d_KReader_bracketed_18 : decode b_KReader_bracketed 18 = .ok (.istore 4, 2) := by decide +kernel
theorem d_KReader_bracketed_20 : decode b_KReader_bracketed 20 = .ok (.aload_n 0, 1) := by decide +kernel
theorem d_KReader_bracketed_21 : decode b_KReader_bracketed 21 = .ok (.iload 4, 2) := by decide +kernel
theorem d_KReader_bracketed_23 : decode b_KReader_bracketed 23 = .ok (.iload_n 2, 1) := by decide +kernel
theorem d_KReader_bracketed_24 : decode b_KReader_bracketed 24 = .ok (.invokevirtual 306, 3) := by decide +kernel
theorem d_KReader_bracketed_27 : decode b_KReader_bracketed 27 = .ok (.istore_n 3, 1) := by decide +kernel
theorem d_KReader_bracketed_28 : decode b_KReader_bracketed 28 = .ok (.iload_n 3, 1) := by decide +kernel
theorem d_KReader_bracketed_29 : decode b_KReader_bracketed 29 = .ok (.ifCond .ge 5, 3) := by decide +kernel
theorem d_KReader_bracketed_32 : decode b_KReader_bracketed 32 = .ok (.iconst (-1), 1) := by decide +kernel
theorem d_KReader_bracketed_33 : decode b_KReader_bracketed 33 = .ok (.ireturn, 1) := by decide +kernel
theorem d_KReader_bracketed_34 : decode b_KReader_bracketed 34 = .ok (.aload_n 0, 1) := by decide +kernel
theorem d_KReader_bracketed_35 : decode b_KReader_bracketed 35 = .ok (.iload 4, 2) := by decide +kernel
theorem d_KReader_bracketed_37 : decode b_KReader_bracketed 37 = .ok (.iload_n 3, 1) := by decide +kernel
theorem d_KReader_bracketed_38 : decode b_KReader_bracketed 38 = .ok (.invokevirtual 579, 3) := by decide +kernel
theorem d_KReader_bracketed_41 : decode b_KReader_bracketed 41 = .ok (.aload_n 0, 1) := by decide +kernel
theorem d_KReader_bracketed_42 : decode b_KReader_bracketed 42 = .ok (.iload_n 3, 1) := by decide +kernel
theorem d_KReader_bracketed_43 : decode b_KReader_bracketed 43 = .ok (.invokevirtual 297, 3) := by decide +kernel
theorem d_KReader_bracketed_46 : decode b_KReader_bracketed 46 = .ok (.istore_n 3, 1) := by decide +kernel
theorem d_KReader_bracketed_47 : decode b_KReader_bracketed 47 = .ok (.aload_n 0, 1) := by decide +kernel
theorem d_KReader_bracketed_48 : decode b_KReader_bracketed 48 = .ok (.iload_n 3, 1) := by decide +kernel
theorem d_KReader_bracketed_49 : decode b_KReader_bracketed 49 = .ok (.invokevirtual 282, 3) := by decide +kernel
theorem d_KReader_bracketed_52 : decode b_KReader_bracketed 52 = .ok (.bipush 41, 2) := by decide +kernel
theorem d_KReader_bracketed_54 : decode b_KReader_bracketed 54 = .ok (.if_icmp .ne 7, 3) := by decide +kernel
theorem d_KReader_bracketed_57 : decode b_KReader_bracketed 57 = .ok (.iload_n 3, 1) := by decide +kernel
theorem d_KReader_bracketed_58 : decode b_KReader_bracketed 58 = .ok (.iconst 1, 1) := by decide +kernel
theorem d_KReader_bracketed_59 : decode b_KReader_bracketed 59 = .ok (.iadd, 1) := by decide +kernel
theorem d_KReader_bracketed_60 : decode b_KReader_bracketed 60 = .ok (.ireturn, 1) := by decide +kernel
theorem d_KReader_bracketed_61 : decode b_KReader_bracketed 61 = .ok (.aload_n 0, 1) := by decide +kernel
theorem d_KReader_bracketed_62 : decode b_KReader_bracketed 62 = .ok (.iload_n 3, 1) := by decide +kernel
theorem d_KReader_bracketed_63 : decode b_KReader_bracketed 63 = .ok (.ldc_w 577, 3) := by decide +kernel
theorem d_KReader_bracketed_66 : decode b_KReader_bracketed 66 = .ok (.invokevirtual 329, 3) := by decide +kernel
theorem d_KReader_bracketed_69 : decode b_KReader_bracketed 69 = .ok (.istore_n 3, 1) := by decide +kernel
theorem d_KReader_bracketed_70 : decode b_KReader_bracketed 70 = .ok (.goto (-61), 3) := by decide +kernel
theorem d_KReader_bracketed_73 : decode b_KReader_bracketed 73 = .ok (.iconst (-1), 1) := by decide +kernel
theorem d_KReader_bracketed_74 : decode b_KReader_bracketed 74 = .ok (.ireturn, 1) := by decide +kernel
/-- KReader_bracketed -/
def w_KReader_bracketed (L : Nat → Nat) (a1 : Int) (a2 : Int) (Q : Int → IS → Prop) (σ : IS) : Prop := w_KReader_word L a1 1127 (fun v2 σ1 => WL (fun (K3 : Int → IS → Prop) (s5 : Int) (σ6 : IS) => if s5 < 0 then Q (-1) σ6 else w_KReader_anySpaces L s5 (fun v9 σ8 => w_KReader_naming L v9 a2 (fun v11 σ10 => if v11 < 0 then Q (-1) σ10 else w_KReader_list L v9 v11 (fun σ13 => w_KReader_anySpaces L v11 (fun v16 σ15 => w_KReader_look L v16 (fun v18 σ17 => if v18 = 41 then inR (v16 + 1) ∧ Q (v16 + 1) σ17 else w_KReader_word L v16 1129 (fun v21 σ20 => K3 v21 σ20) σ17) σ15) σ13) σ10) σ8) σ6) v2 σ1) σ
set_option maxHeartbeats 4000000 in
set_option maxRecDepth 20000 in
theorem s_KReader_bracketed {L : Nat → Nat} (hL : ∀ r, L r < 2147483648) {d : Nat} (hd : 5 ≤ d) {a1 : Int} {a2 : Int} {Q : Int → IS → Prop} {σ : IS}  (h : w_KReader_bracketed L a1 a2 Q σ) : OkI BF L d 15 b_KReader_bracketed 5 1 0 [] [some (.inr 16), some (.inl a1), some (.inl a2)] σ (qi Q) := by
  unfold w_KReader_bracketed at h
  obtain ⟨d, rfl⟩ : ∃ e, d = e + 1 := ⟨d - 1, by omega⟩
  refine k_sb (lv' := [some (.inr 16), some (.inl a1), some (.inl a2), none, none]) (sb_s (sb_s (sb_s (sb_e (sb_e sb_nil))))) ?_
  refine k_aload_n d_KReader_bracketed_0 rfl ?_
  refine k_iload_n d_KReader_bracketed_1 rfl ?_
  refine k_ldcw d_KReader_bracketed_2 ks_15_573 rfl ?_
  refine k_cvi [.inl a1, .inr 1127] d_KReader_bracketed_5 ml_15_329 rfl rfl ob_16 rfl (s_KReader_word hL (by omega) it_1127 h) (fun v2 σ1 h => ?_)
  refine k_istore_n (lv' := [some (.inr 16), some (.inl a1), some (.inl a2), some (.inl v2), none]) d_KReader_bracketed_8 rfl rfl ?_
  refine k_sb (lv' := [some (.inr 16), none, some (.inl a2), some (.inl v2), none]) (sb_s (sb_n (sb_s (sb_s (sb_s sb_nil))))) ?_
  refine k_loop (S := Int) (st := fun _ => []) (lv := fun s5 => [some (.inr 16), none, some (.inl a2), some (.inl s5), none]) (fun K3 hK4 s5 σ6 h => ?_) v2 _ h
  refine k_iload_n d_KReader_bracketed_9 rfl ?_
  refine k_iflt d_KReader_bracketed_10 rfl (fun c7 => ?_) (fun c7 => ?_)
  · have h := ipos c7 h
    refine k_iconst d_KReader_bracketed_73 cI_m1 ?_
    exact k_iret d_KReader_bracketed_74 (Or.inl rfl) h
  · have h := ineg c7 h
    refine k_aload_n d_KReader_bracketed_13 rfl ?_
    refine k_iload_n d_KReader_bracketed_14 rfl ?_
    refine k_cvi [.inl s5] d_KReader_bracketed_15 ml_15_297 rfl rfl ob_16 rfl (s_KReader_anySpaces hL (by omega)  h) (fun v9 σ8 h => ?_)
    refine k_istore (lv' := [some (.inr 16), none, some (.inl a2), some (.inl s5), some (.inl v9)]) d_KReader_bracketed_18 rfl rfl ?_
    refine k_aload_n d_KReader_bracketed_20 rfl ?_
    refine k_iload d_KReader_bracketed_21 rfl ?_
    refine k_iload_n d_KReader_bracketed_23 rfl ?_
    refine k_cvi [.inl v9, .inl a2] d_KReader_bracketed_24 ml_15_306 rfl rfl ob_16 rfl (s_KReader_naming hL (by omega)  h) (fun v11 σ10 h => ?_)
    refine k_istore_n (lv' := [some (.inr 16), none, some (.inl a2), some (.inl v11), some (.inl v9)]) d_KReader_bracketed_27 rfl rfl ?_
    refine k_iload_n d_KReader_bracketed_28 rfl ?_
    refine k_ifge d_KReader_bracketed_29 rfl (fun c12 => ?_) (fun c12 => ?_)
    · have h := ineg c12 h
      refine k_aload_n d_KReader_bracketed_34 rfl ?_
      refine k_iload d_KReader_bracketed_35 rfl ?_
      refine k_iload_n d_KReader_bracketed_37 rfl ?_
      refine k_cvv [.inl v9, .inl v11] d_KReader_bracketed_38 ml_15_579 rfl rfl ob_16 rfl (s_KReader_list hL (by omega)  h) (fun σ13 h => ?_)
      refine k_aload_n d_KReader_bracketed_41 rfl ?_
      refine k_iload_n d_KReader_bracketed_42 rfl ?_
      refine k_cvi [.inl v11] d_KReader_bracketed_43 ml_15_297 rfl rfl ob_16 rfl (s_KReader_anySpaces hL (by omega)  h) (fun v16 σ15 h => ?_)
      refine k_istore_n (lv' := [some (.inr 16), none, some (.inl a2), some (.inl v16), some (.inl v9)]) d_KReader_bracketed_46 rfl rfl ?_
      refine k_aload_n d_KReader_bracketed_47 rfl ?_
      refine k_iload_n d_KReader_bracketed_48 rfl ?_
      refine k_cvi [.inl v16] d_KReader_bracketed_49 ml_15_282 rfl rfl ob_16 rfl (s_KReader_look hL (by omega)  h) (fun v18 σ17 h => ?_)
      refine k_bipush d_KReader_bracketed_52 cB_41 ?_
      refine k_icne d_KReader_bracketed_54 rfl (fun c19 => ?_) (fun c19 => ?_)
      · have h := ineg c19 h
        refine k_aload_n d_KReader_bracketed_61 rfl ?_
        refine k_iload_n d_KReader_bracketed_62 rfl ?_
        refine k_ldcw d_KReader_bracketed_63 ks_15_577 rfl ?_
        refine k_cvi [.inl v16, .inr 1129] d_KReader_bracketed_66 ml_15_329 rfl rfl ob_16 rfl (s_KReader_word hL (by omega) it_1129 h) (fun v21 σ20 h => ?_)
        refine k_istore_n (lv' := [some (.inr 16), none, some (.inl a2), some (.inl v21), some (.inl v9)]) d_KReader_bracketed_69 rfl rfl ?_
        refine k_goto d_KReader_bracketed_70 rfl ?_
        exact k_sb (sb_s (sb_s (sb_s (sb_s (sb_n sb_nil))))) (hK4 v21 _ h)
      · have h := ipos c19 h
        refine k_iload_n d_KReader_bracketed_57 rfl ?_
        refine k_iconst d_KReader_bracketed_58 cI_1 ?_
        obtain ⟨p22, h⟩ := h
        refine k_iadd d_KReader_bracketed_59 p22 ?_
        exact k_iret d_KReader_bracketed_60 (Or.inl rfl) h
    · have h := ipos c12 h
      refine k_iconst d_KReader_bracketed_32 cI_m1 ?_
      exact k_iret d_KReader_bracketed_33 (Or.inl rfl) h
theorem d_KReader_typeAt_0 : decode b_KReader_typeAt 0 = .ok (.aload_n 0, 1) := by decide +kernel
theorem d_KReader_typeAt_1 : decode b_KReader_typeAt 1 = .ok (.aload_n 0, 1) := by decide +kernel
theorem d_KReader_typeAt_2 : decode b_KReader_typeAt 2 = .ok (.getfield 218, 3) := by decide +kernel
theorem d_KReader_typeAt_5 : decode b_KReader_typeAt 5 = .ok (.putfield 613, 3) := by decide +kernel
theorem d_KReader_typeAt_8 : decode b_KReader_typeAt 8 = .ok (.iload_n 1, 1) := by decide +kernel
theorem d_KReader_typeAt_9 : decode b_KReader_typeAt 9 = .ok (.ifCond .ge 5, 3) := by decide +kernel
theorem d_KReader_typeAt_12 : decode b_KReader_typeAt 12 = .ok (.iconst (-1), 1) := by decide +kernel
theorem d_KReader_typeAt_13 : decode b_KReader_typeAt 13 = .ok (.ireturn, 1) := by decide +kernel
theorem d_KReader_typeAt_14 : decode b_KReader_typeAt 14 = .ok (.aload_n 0, 1) := by decide +kernel
theorem d_KReader_typeAt_15 : decode b_KReader_typeAt 15 = .ok (.iload_n 1, 1) := by decide +kernel
theorem d_KReader_typeAt_16 : decode b_KReader_typeAt 16 = .ok (.invokevirtual 282, 3) := by decide +kernel
theorem d_KReader_typeAt_19 : decode b_KReader_typeAt 19 = .ok (.bipush 40, 2) := by decide +kernel
theorem d_KReader_typeAt_21 : decode b_KReader_typeAt 21 = .ok (.if_icmp .ne 16, 3) := by decide +kernel
theorem d_KReader_typeAt_24 : decode b_KReader_typeAt 24 = .ok (.aload_n 0, 1) := by decide +kernel
theorem d_KReader_typeAt_25 : decode b_KReader_typeAt 25 = .ok (.bipush 9, 2) := by decide +kernel
theorem d_KReader_typeAt_27 : decode b_KReader_typeAt 27 = .ok (.putfield 616, 3) := by decide +kernel
theorem d_KReader_typeAt_30 : decode b_KReader_typeAt 30 = .ok (.aload_n 0, 1) := by decide +kernel
theorem d_KReader_typeAt_31 : decode b_KReader_typeAt 31 = .ok (.iload_n 1, 1) := by decide +kernel
theorem d_KReader_typeAt_32 : decode b_KReader_typeAt 32 = .ok (.iconst 0, 1) := by decide +kernel
theorem d_KReader_typeAt_33 : decode b_KReader_typeAt 33 = .ok (.invokevirtual 619, 3) := by decide +kernel
theorem d_KReader_typeAt_36 : decode b_KReader_typeAt 36 = .ok (.ireturn, 1) := by decide +kernel
theorem d_KReader_typeAt_37 : decode b_KReader_typeAt 37 = .ok (.aload_n 0, 1) := by decide +kernel
theorem d_KReader_typeAt_38 : decode b_KReader_typeAt 38 = .ok (.iload_n 1, 1) := by decide +kernel
theorem d_KReader_typeAt_39 : decode b_KReader_typeAt 39 = .ok (.ldc_w 622, 3) := by decide +kernel
theorem d_KReader_typeAt_42 : decode b_KReader_typeAt 42 = .ok (.invokevirtual 329, 3) := by decide +kernel
theorem d_KReader_typeAt_45 : decode b_KReader_typeAt 45 = .ok (.istore_n 2, 1) := by decide +kernel
theorem d_KReader_typeAt_46 : decode b_KReader_typeAt 46 = .ok (.iload_n 2, 1) := by decide +kernel
theorem d_KReader_typeAt_47 : decode b_KReader_typeAt 47 = .ok (.ifCond .lt 20, 3) := by decide +kernel
theorem d_KReader_typeAt_50 : decode b_KReader_typeAt 50 = .ok (.aload_n 0, 1) := by decide +kernel
theorem d_KReader_typeAt_51 : decode b_KReader_typeAt 51 = .ok (.bipush 8, 2) := by decide +kernel
theorem d_KReader_typeAt_53 : decode b_KReader_typeAt 53 = .ok (.putfield 616, 3) := by decide +kernel
theorem d_KReader_typeAt_56 : decode b_KReader_typeAt 56 = .ok (.aload_n 0, 1) := by decide +kernel
theorem d_KReader_typeAt_57 : decode b_KReader_typeAt 57 = .ok (.aload_n 0, 1) := by decide +kernel
theorem d_KReader_typeAt_58 : decode b_KReader_typeAt 58 = .ok (.iload_n 2, 1) := by decide +kernel
theorem d_KReader_typeAt_59 : decode b_KReader_typeAt 59 = .ok (.invokevirtual 333, 3) := by decide +kernel
theorem d_KReader_typeAt_62 : decode b_KReader_typeAt 62 = .ok (.iconst 1, 1) := by decide +kernel
theorem d_KReader_typeAt_63 : decode b_KReader_typeAt 63 = .ok (.invokevirtual 619, 3) := by decide +kernel
theorem d_KReader_typeAt_66 : decode b_KReader_typeAt 66 = .ok (.ireturn, 1) := by decide +kernel
theorem d_KReader_typeAt_67 : decode b_KReader_typeAt 67 = .ok (.bipush 7, 2) := by decide +kernel
theorem d_KReader_typeAt_69 : decode b_KReader_typeAt 69 = .ok (.istore_n 3, 1) := by decide +kernel
theorem d_KReader_typeAt_70 : decode b_KReader_typeAt 70 = .ok (.iload_n 3, 1) := by decide +kernel
theorem d_KReader_typeAt_71 : decode b_KReader_typeAt 71 = .ok (.ifCond .lt 28, 3) := by decide +kernel
theorem d_KReader_typeAt_74 : decode b_KReader_typeAt 74 = .ok (.iload_n 2, 1) := by decide +kernel
theorem d_KReader_typeAt_75 : decode b_KReader_typeAt 75 = .ok (.ifCond .ge 24, 3) := by decide +kernel
theorem d_KReader_typeAt_78 : decode b_KReader_typeAt 78 = .ok (.aload_n 0, 1) := by decide +kernel
theorem d_KReader_typeAt_79 : decode b_KReader_typeAt 79 = .ok (.iload_n 1, 1) := by decide +kernel
theorem d_KReader_typeAt_80 : decode b_KReader_typeAt 80 = .ok (.iload_n 3, 1) := by decide +kernel
theorem d_KReader_typeAt_81 : decode b_KReader_typeAt 81 = .ok (.invokestatic 624, 3) := by decide +kernel
theorem d_KReader_typeAt_84 : decode b_KReader_typeAt 84 = .ok (.invokevirtual 329, 3) := by decide +kernel
theorem d_KReader_typeAt_87 : decode b_KReader_typeAt 87 = .ok (.istore_n 2, 1) := by decide +kernel
theorem d_KReader_typeAt_88 : decode b_KReader_typeAt 88 = .ok (.aload_n 0, 1) := by decide +kernel
theorem d_KReader_typeAt_89 : decode b_KReader_typeAt 89 = .ok (.iload_n 3, 1) := by decide +kernel
theorem d_KReader_typeAt_90 : decode b_KReader_typeAt 90 = .ok (.putfield 616, 3) := by decide +kernel
theorem d_KReader_typeAt_93 : decode b_KReader_typeAt 93 = .ok (.iinc 3 (-1), 3) := by decide +kernel
theorem d_KReader_typeAt_96 : decode b_KReader_typeAt 96 = .ok (.goto (-26), 3) := by decide +kernel
theorem d_KReader_typeAt_99 : decode b_KReader_typeAt 99 = .ok (.iload_n 2, 1) := by decide +kernel
theorem d_KReader_typeAt_100 : decode b_KReader_typeAt 100 = .ok (.ireturn, 1) := by decide +kernel
/-- KReader_typeAt -/
def w_KReader_typeAt (L : Nat → Nat) (a1 : Int) (Q : Int → IS → Prop) (σ : IS) : Prop := if a1 < 0 then Q (-1) (pf σ 16 79 (σ.1 16 58)) else w_KReader_look L a1 (fun v3 σ2 => if v3 = 40 then w_KReader_bracketed L a1 0 (fun v25 σ24 => Q v25 σ24) (pf σ2 16 78 9) else w_KReader_word L a1 1132 (fun v6 σ5 => if v6 < 0 then WL (fun (K8 : Int × Int → IS → Prop) (s10 : Int × Int) (σ11 : IS) => if ¬ s10.2 < 0 ∧ (s10.1 < 0) then w_KReader_word L a1 (wo s10.2) (fun v13 σ12 => inR (s10.2 + (-1)) ∧ K8 (v13, (s10.2 + (-1))) (pf σ12 16 78 s10.2)) σ11 else Q s10.1 σ11) (v6, 7) σ5 else w_KReader_spaces L v6 (fun v21 σ20 => w_KReader_bracketed L v21 1 (fun v23 σ22 => Q v23 σ22) σ20) (pf σ5 16 78 8)) σ2) (pf σ 16 79 (σ.1 16 58))
set_option maxHeartbeats 4000000 in
set_option maxRecDepth 20000 in
theorem s_KReader_typeAt {L : Nat → Nat} (hL : ∀ r, L r < 2147483648) {d : Nat} (hd : 6 ≤ d) {a1 : Int} {Q : Int → IS → Prop} {σ : IS}  (h : w_KReader_typeAt L a1 Q σ) : OkI BF L d 15 b_KReader_typeAt 4 1 0 [] [some (.inr 16), some (.inl a1)] σ (qi Q) := by
  unfold w_KReader_typeAt at h
  obtain ⟨d, rfl⟩ : ∃ e, d = e + 1 := ⟨d - 1, by omega⟩
  refine k_sb (lv' := [some (.inr 16), some (.inl a1), none, none]) (sb_s (sb_s (sb_e (sb_e sb_nil)))) ?_
  refine k_aload_n d_KReader_typeAt_0 rfl ?_
  refine k_aload_n d_KReader_typeAt_1 rfl ?_
  refine k_getI (x := (σ.1 16 58)) d_KReader_typeAt_2 fl_15_218 ob_16 rfl rfl ?_
  refine k_putI d_KReader_typeAt_5 fl_15_613 ob_16 rfl ?_
  refine k_iload_n d_KReader_typeAt_8 rfl ?_
  refine k_ifge d_KReader_typeAt_9 rfl (fun c1 => ?_) (fun c1 => ?_)
  · have h := ineg c1 h
    refine k_aload_n d_KReader_typeAt_14 rfl ?_
    refine k_iload_n d_KReader_typeAt_15 rfl ?_
    refine k_cvi [.inl a1] d_KReader_typeAt_16 ml_15_282 rfl rfl ob_16 rfl (s_KReader_look hL (by omega)  h) (fun v3 σ2 h => ?_)
    refine k_bipush d_KReader_typeAt_19 cB_40 ?_
    refine k_icne d_KReader_typeAt_21 rfl (fun c4 => ?_) (fun c4 => ?_)
    · have h := ineg c4 h
      refine k_aload_n d_KReader_typeAt_37 rfl ?_
      refine k_iload_n d_KReader_typeAt_38 rfl ?_
      refine k_ldcw d_KReader_typeAt_39 ks_15_622 rfl ?_
      refine k_cvi [.inl a1, .inr 1132] d_KReader_typeAt_42 ml_15_329 rfl rfl ob_16 rfl (s_KReader_word hL (by omega) it_1132 h) (fun v6 σ5 h => ?_)
      refine k_istore_n (lv' := [some (.inr 16), some (.inl a1), some (.inl v6), none]) d_KReader_typeAt_45 rfl rfl ?_
      refine k_iload_n d_KReader_typeAt_46 rfl ?_
      refine k_iflt d_KReader_typeAt_47 rfl (fun c7 => ?_) (fun c7 => ?_)
      · have h := ipos c7 h
        refine k_bipush d_KReader_typeAt_67 cB_7 ?_
        refine k_istore_n (lv' := [some (.inr 16), some (.inl a1), some (.inl v6), some (.inl 7)]) d_KReader_typeAt_69 rfl rfl ?_
        refine k_sb (lv' := [some (.inr 16), some (.inl a1), some (.inl v6), some (.inl 7)]) (sb_s (sb_s (sb_s (sb_s sb_nil)))) ?_
        refine k_loop (S := Int × Int) (st := fun _ => []) (lv := fun s10 => [some (.inr 16), some (.inl a1), some (.inl s10.1), some (.inl s10.2)]) (fun K8 hK9 s10 σ11 h => ?_) (v6, 7) _ h
        refine k_iload_n d_KReader_typeAt_70 rfl ?_
        have hX15 : (¬ s10.2 < 0 ∧ (s10.1 < 0)) → OkI BF L (d + 1) 15 b_KReader_typeAt 4 1 78 [] [some (.inr 16), some (.inl a1), some (.inl s10.1), some (.inl s10.2)] σ11 (qi Q) := fun e17 => by
          have h := ipos e17 h
          refine k_aload_n d_KReader_typeAt_78 rfl ?_
          refine k_iload_n d_KReader_typeAt_79 rfl ?_
          refine k_iload_n d_KReader_typeAt_80 rfl ?_
          refine k_word d_KReader_typeAt_81 ml_15_624 rfl ?_
          refine k_cvi [.inl a1, .inr (wo s10.2)] d_KReader_typeAt_84 ml_15_329 rfl rfl ob_16 rfl (s_KReader_word hL (by omega) (wo_T _) h) (fun v13 σ12 h => ?_)
          refine k_istore_n (lv' := [some (.inr 16), some (.inl a1), some (.inl v13), some (.inl s10.2)]) d_KReader_typeAt_87 rfl rfl ?_
          refine k_aload_n d_KReader_typeAt_88 rfl ?_
          refine k_iload_n d_KReader_typeAt_89 rfl ?_
          refine k_putI d_KReader_typeAt_90 fl_15_616 ob_16 rfl ?_
          obtain ⟨p14, h⟩ := h
          refine k_iinc (lv' := [some (.inr 16), some (.inl a1), some (.inl v13), some (.inl (s10.2 + (-1)))]) d_KReader_typeAt_93 cI_m1 rfl rfl p14 rfl ?_
          refine k_goto d_KReader_typeAt_96 rfl ?_
          exact k_sb (sb_s (sb_s (sb_s (sb_s sb_nil)))) (hK9 (v13, (s10.2 + (-1))) _ h)
        have hY16 : ¬ (¬ s10.2 < 0 ∧ (s10.1 < 0)) → OkI BF L (d + 1) 15 b_KReader_typeAt 4 1 99 [] [some (.inr 16), some (.inl a1), some (.inl s10.1), some (.inl s10.2)] σ11 (qi Q) := fun e17 => by
          have h := ineg e17 h
          refine k_iload_n d_KReader_typeAt_99 rfl ?_
          exact k_iret d_KReader_typeAt_100 (Or.inl rfl) h
        refine k_iflt d_KReader_typeAt_71 rfl (fun c18 => ?_) (fun c18 => ?_)
        · exact hY16 (fun z => z.1 c18)
        · refine k_iload_n d_KReader_typeAt_74 rfl ?_
          refine k_ifge d_KReader_typeAt_75 rfl (fun c19 => ?_) (fun c19 => ?_)
          · exact hY16 (fun z => (c19) z.2)
          · exact hX15 (⟨c18, c19⟩)
      · have h := ineg c7 h
        refine k_aload_n d_KReader_typeAt_50 rfl ?_
        refine k_bipush d_KReader_typeAt_51 cB_8 ?_
        refine k_putI d_KReader_typeAt_53 fl_15_616 ob_16 rfl ?_
        refine k_aload_n d_KReader_typeAt_56 rfl ?_
        refine k_aload_n d_KReader_typeAt_57 rfl ?_
        refine k_iload_n d_KReader_typeAt_58 rfl ?_
        refine k_cvi [.inl v6] d_KReader_typeAt_59 ml_15_333 rfl rfl ob_16 rfl (s_KReader_spaces hL (by omega)  h) (fun v21 σ20 h => ?_)
        refine k_iconst d_KReader_typeAt_62 cI_1 ?_
        refine k_cvi [.inl v21, .inl 1] d_KReader_typeAt_63 ml_15_619 rfl rfl ob_16 rfl (s_KReader_bracketed hL (by omega)  h) (fun v23 σ22 h => ?_)
        exact k_iret d_KReader_typeAt_66 (Or.inl rfl) h
    · have h := ipos c4 h
      refine k_aload_n d_KReader_typeAt_24 rfl ?_
      refine k_bipush d_KReader_typeAt_25 cB_9 ?_
      refine k_putI d_KReader_typeAt_27 fl_15_616 ob_16 rfl ?_
      refine k_aload_n d_KReader_typeAt_30 rfl ?_
      refine k_iload_n d_KReader_typeAt_31 rfl ?_
      refine k_iconst d_KReader_typeAt_32 cI_0 ?_
      refine k_cvi [.inl a1, .inl 0] d_KReader_typeAt_33 ml_15_619 rfl rfl ob_16 rfl (s_KReader_bracketed hL (by omega)  h) (fun v25 σ24 h => ?_)
      exact k_iret d_KReader_typeAt_36 (Or.inl rfl) h
  · have h := ipos c1 h
    refine k_iconst d_KReader_typeAt_12 cI_m1 ?_
    exact k_iret d_KReader_typeAt_13 (Or.inl rfl) h
theorem d_KReader_reference_0 : decode b_KReader_reference 0 = .ok (.iload_n 1, 1) := by decide +kernel
theorem d_KReader_reference_1 : decode b_KReader_reference 1 = .ok (.ifCond .lt 13, 3) := by decide +kernel
theorem d_KReader_reference_4 : decode b_KReader_reference 4 = .ok (.aload_n 0, 1) := by decide +kernel
theorem d_KReader_reference_5 : decode b_KReader_reference 5 = .ok (.iload_n 1, 1) := by decide +kernel
theorem d_KReader_reference_6 : decode b_KReader_reference 6 = .ok (.invokevirtual 282, 3) := by decide +kernel
theorem d_KReader_reference_9 : decode b_KReader_reference 9 = .ok (.bipush 38, 2) := by decide +kernel
theorem d_KReader_reference_11 : decode b_KReader_reference 11 = .ok (.if_icmp .eq 5, 3) := by decide +kernel
theorem d_KReader_reference_14 : decode b_KReader_reference 14 = .ok (.iconst (-1), 1) := by decide +kernel
theorem d_KReader_reference_15 : decode b_KReader_reference 15 = .ok (.ireturn, 1) := by decide +kernel
theorem d_KReader_reference_16 : decode b_KReader_reference 16 = .ok (.aload_n 0, 1) := by decide +kernel
theorem d_KReader_reference_17 : decode b_KReader_reference 17 = .ok (.iload_n 1, 1) := by decide +kernel
theorem d_KReader_reference_18 : decode b_KReader_reference 18 = .ok (.iconst 1, 1) := by decide +kernel
theorem d_KReader_reference_19 : decode b_KReader_reference 19 = .ok (.iadd, 1) := by decide +kernel
theorem d_KReader_reference_20 : decode b_KReader_reference 20 = .ok (.invokevirtual 282, 3) := by decide +kernel
theorem d_KReader_reference_23 : decode b_KReader_reference 23 = .ok (.bipush 35, 2) := by decide +kernel
theorem d_KReader_reference_25 : decode b_KReader_reference 25 = .ok (.if_icmp .eq 18, 3) := by decide +kernel
theorem d_KReader_reference_28 : decode b_KReader_reference 28 = .ok (.aload_n 0, 1) := by decide +kernel
theorem d_KReader_reference_29 : decode b_KReader_reference 29 = .ok (.aload_n 0, 1) := by decide +kernel
theorem d_KReader_reference_30 : decode b_KReader_reference 30 = .ok (.iload_n 1, 1) := by decide +kernel
theorem d_KReader_reference_31 : decode b_KReader_reference 31 = .ok (.iconst 1, 1) := by decide +kernel
theorem d_KReader_reference_32 : decode b_KReader_reference 32 = .ok (.iadd, 1) := by decide +kernel
theorem d_KReader_reference_33 : decode b_KReader_reference 33 = .ok (.invokevirtual 341, 3) := by decide +kernel
theorem d_KReader_reference_36 : decode b_KReader_reference 36 = .ok (.ldc_w 344, 3) := by decide +kernel
theorem d_KReader_reference_39 : decode b_KReader_reference 39 = .ok (.invokevirtual 329, 3) := by decide +kernel
theorem d_KReader_reference_42 : decode b_KReader_reference 42 = .ok (.ireturn, 1) := by decide +kernel
theorem d_KReader_reference_43 : decode b_KReader_reference 43 = .ok (.aload_n 0, 1) := by decide +kernel
theorem d_KReader_reference_44 : decode b_KReader_reference 44 = .ok (.iload_n 1, 1) := by decide +kernel
theorem d_KReader_reference_45 : decode b_KReader_reference 45 = .ok (.iconst 2, 1) := by decide +kernel
theorem d_KReader_reference_46 : decode b_KReader_reference 46 = .ok (.iadd, 1) := by decide +kernel
theorem d_KReader_reference_47 : decode b_KReader_reference 47 = .ok (.invokevirtual 282, 3) := by decide +kernel
theorem d_KReader_reference_50 : decode b_KReader_reference 50 = .ok (.bipush 120, 2) := by decide +kernel
theorem d_KReader_reference_52 : decode b_KReader_reference 52 = .ok (.if_icmp .ne 7, 3) := by decide +kernel
theorem d_KReader_reference_55 : decode b_KReader_reference 55 = .ok (.iconst 1, 1) := by decide +kernel
theorem d_KReader_reference_56 : decode b_KReader_reference 56 = .ok (.goto 4, 3) := by decide +kernel
theorem d_KReader_reference_59 : decode b_KReader_reference 59 = .ok (.iconst 0, 1) := by decide +kernel
theorem d_KReader_reference_60 : decode b_KReader_reference 60 = .ok (.istore_n 2, 1) := by decide +kernel
theorem d_KReader_reference_61 : decode b_KReader_reference 61 = .ok (.iload_n 2, 1) := by decide +kernel
theorem d_KReader_reference_62 : decode b_KReader_reference 62 = .ok (.ifCond .eq 9, 3) := by decide +kernel
theorem d_KReader_reference_65 : decode b_KReader_reference 65 = .ok (.iload_n 1, 1) := by decide +kernel
theorem d_KReader_reference_66 : decode b_KReader_reference 66 = .ok (.iconst 3, 1) := by decide +kernel
theorem d_KReader_reference_67 : decode b_KReader_reference 67 = .ok (.iadd, 1) := by decide +kernel
theorem d_KReader_reference_68 : decode b_KReader_reference 68 = .ok (.goto 6, 3) := by decide +kernel
theorem d_KReader_reference_71 : decode b_KReader_reference 71 = .ok (.iload_n 1, 1) := by decide +kernel
theorem d_KReader_reference_72 : decode b_KReader_reference 72 = .ok (.iconst 2, 1) := by decide +kernel
theorem d_KReader_reference_73 : decode b_KReader_reference 73 = .ok (.iadd, 1) := by decide +kernel
theorem d_KReader_reference_74 : decode b_KReader_reference 74 = .ok (.istore_n 3, 1) := by decide +kernel
theorem d_KReader_reference_75 : decode b_KReader_reference 75 = .ok (.iload_n 3, 1) := by decide +kernel
theorem d_KReader_reference_76 : decode b_KReader_reference 76 = .ok (.istore 4, 2) := by decide +kernel
theorem d_KReader_reference_78 : decode b_KReader_reference 78 = .ok (.aload_n 0, 1) := by decide +kernel
theorem d_KReader_reference_79 : decode b_KReader_reference 79 = .ok (.iload_n 3, 1) := by decide +kernel
theorem d_KReader_reference_80 : decode b_KReader_reference 80 = .ok (.invokevirtual 282, 3) := by decide +kernel
theorem d_KReader_reference_83 : decode b_KReader_reference 83 = .ok (.invokestatic 319, 3) := by decide +kernel
theorem d_KReader_reference_86 : decode b_KReader_reference 86 = .ok (.ifCond .ne 25, 3) := by decide +kernel
theorem d_KReader_reference_89 : decode b_KReader_reference 89 = .ok (.iload_n 2, 1) := by decide +kernel
theorem d_KReader_reference_90 : decode b_KReader_reference 90 = .ok (.ifCond .eq 27, 3) := by decide +kernel
theorem d_KReader_reference_93 : decode b_KReader_reference 93 = .ok (.aload_n 0, 1) := by decide +kernel
theorem d_KReader_reference_94 : decode b_KReader_reference 94 = .ok (.iload_n 3, 1) := by decide +kernel
theorem d_KReader_reference_95 : decode b_KReader_reference 95 = .ok (.invokevirtual 282, 3) := by decide +kernel
theorem d_KReader_reference_98 : decode b_KReader_reference 98 = .ok (.invokestatic 346, 3) := by decide +kernel
theorem d_KReader_reference_101 : decode b_KReader_reference 101 = .ok (.bipush 97, 2) := by decide +kernel
theorem d_KReader_reference_103 : decode b_KReader_reference 103 = .ok (.bipush 102, 2) := by decide +kernel
theorem d_KReader_reference_105 : decode b_KReader_reference 105 = .ok (.invokestatic 267, 3) := by decide +kernel
theorem d_KReader_reference_108 : decode b_KReader_reference 108 = .ok (.ifCond .eq 9, 3) := by decide +kernel
theorem d_KReader_reference_111 : decode b_KReader_reference 111 = .ok (.iinc 3 1, 3) := by decide +kernel
theorem d_KReader_reference_114 : decode b_KReader_reference 114 = .ok (.goto (-36), 3) := by decide +kernel
theorem d_KReader_reference_117 : decode b_KReader_reference 117 = .ok (.iload_n 3, 1) := by decide +kernel
theorem d_KReader_reference_118 : decode b_KReader_reference 118 = .ok (.iload 4, 2) := by decide +kernel
theorem d_KReader_reference_120 : decode b_KReader_reference 120 = .ok (.if_icmp .ne 7, 3) := by decide +kernel
theorem d_KReader_reference_123 : decode b_KReader_reference 123 = .ok (.iconst (-1), 1) := by decide +kernel
theorem d_KReader_reference_124 : decode b_KReader_reference 124 = .ok (.goto 11, 3) := by decide +kernel
theorem d_KReader_reference_127 : decode b_KReader_reference 127 = .ok (.aload_n 0, 1) := by decide +kernel
theorem d_KReader_reference_128 : decode b_KReader_reference 128 = .ok (.iload_n 3, 1) := by decide +kernel
theorem d_KReader_reference_129 : decode b_KReader_reference 129 = .ok (.ldc_w 344, 3) := by decide +kernel
theorem d_KReader_reference_132 : decode b_KReader_reference 132 = .ok (.invokevirtual 329, 3) := by decide +kernel
theorem d_KReader_reference_135 : decode b_KReader_reference 135 = .ok (.ireturn, 1) := by decide +kernel
/-- KReader_reference -/
def w_KReader_reference (L : Nat → Nat) (a1 : Int) (Q : Int → IS → Prop) (σ : IS) : Prop := WJ (fun (s3 : Unit) (σ4 : IS) => Q (-1) σ4) (fun J1 => if a1 < 0 then J1 () σ else w_KReader_look L a1 (fun v7 σ6 => if v7 = 38 then inR (a1 + 1) ∧ w_KReader_look L (a1 + 1) (fun v10 σ9 => if v10 = 35 then inR (a1 + 2) ∧ w_KReader_look L (a1 + 2) (fun v13 σ12 => ((((if v13 = 120 then (1 : Int) else (0 : Int)) = 0 → inR (a1 + 2)) ∧ (¬ (if v13 = 120 then (1 : Int) else (0 : Int)) = 0 → inR (a1 + 3)))) ∧ WL (fun (K16 : Int → IS → Prop) (s18 : Int) (σ19 : IS) => w_KReader_look L s18 (fun v21 σ20 => w_K_isDigit L v21 (fun v23 σ22 => WJ (fun (s26 : Unit) (σ27 : IS) => inR (s18 + 1) ∧ K16 (s18 + 1) σ27) (fun J24 => if v23 = 0 then WJ (fun (s32 : Unit) (σ33 : IS) => WJ (fun (s36 : Int) (σ37 : IS) => Q s36 σ37) (fun J34 => if s18 = (if (if v13 = 120 then (1 : Int) else (0 : Int)) = 0 then (a1 + 2) else (a1 + 3)) then J34 (-1) σ33 else w_KReader_word L s18 1100 (fun v40 σ39 => J34 v40 σ39) σ33)) (fun J30 => if (if v13 = 120 then (1 : Int) else (0 : Int)) = 0 then J30 () σ22 else w_KReader_look L s18 (fun v43 σ42 => w_K_lower L v43 (fun v45 σ44 => w_K_isIn L v45 97 102 (fun v47 σ46 => if v47 = 0 then J30 () σ46 else J24 () σ46) σ44) σ42) σ22) else J24 () σ22)) σ20) σ19) (if (if v13 = 120 then (1 : Int) else (0 : Int)) = 0 then (a1 + 2) else (a1 + 3)) σ12) σ9 else inR (a1 + 1) ∧ w_KReader_name L (a1 + 1) (fun v62 σ61 => w_KReader_word L v62 1100 (fun v64 σ63 => Q v64 σ63) σ61) σ9) σ6 else J1 () σ6) σ)
set_option maxHeartbeats 4000000 in
set_option maxRecDepth 20000 in
theorem s_KReader_reference {L : Nat → Nat} (hL : ∀ r, L r < 2147483648) {d : Nat} (hd : 5 ≤ d) {a1 : Int} {Q : Int → IS → Prop} {σ : IS}  (h : w_KReader_reference L a1 Q σ) : OkI BF L d 15 b_KReader_reference 5 1 0 [] [some (.inr 16), some (.inl a1)] σ (qi Q) := by
  unfold w_KReader_reference at h
  obtain ⟨d, rfl⟩ : ∃ e, d = e + 1 := ⟨d - 1, by omega⟩
  refine k_sb (lv' := [some (.inr 16), some (.inl a1), none, none, none]) (sb_s (sb_s (sb_e (sb_e (sb_e sb_nil))))) ?_
  refine k_iload_n d_KReader_reference_0 rfl ?_
  refine k_join (S := Unit) (pc' := 14) (st' := fun s3 => []) (lv' := fun s3 => [none, none, none, none, none]) (fun s3 σ4 h => ?_) (fun J1 hJ2 h => ?_) h
  · refine k_iconst d_KReader_reference_14 cI_m1 ?_
    exact k_iret d_KReader_reference_15 (Or.inl rfl) h
  · refine k_iflt d_KReader_reference_1 rfl (fun c5 => ?_) (fun c5 => ?_)
    · have h := ipos c5 h
      exact k_sb (sb_n (sb_n (sb_s (sb_s (sb_s sb_nil))))) (hJ2 () _ h)
    · have h := ineg c5 h
      refine k_aload_n d_KReader_reference_4 rfl ?_
      refine k_iload_n d_KReader_reference_5 rfl ?_
      refine k_cvi [.inl a1] d_KReader_reference_6 ml_15_282 rfl rfl ob_16 rfl (s_KReader_look hL (by omega)  h) (fun v7 σ6 h => ?_)
      refine k_bipush d_KReader_reference_9 cB_38 ?_
      refine k_iceq d_KReader_reference_11 rfl (fun c8 => ?_) (fun c8 => ?_)
      · have h := ipos c8 h
        refine k_aload_n d_KReader_reference_16 rfl ?_
        refine k_iload_n d_KReader_reference_17 rfl ?_
        refine k_iconst d_KReader_reference_18 cI_1 ?_
        obtain ⟨p66, h⟩ := h
        refine k_iadd d_KReader_reference_19 p66 ?_
        refine k_cvi [.inl (a1 + 1)] d_KReader_reference_20 ml_15_282 rfl rfl ob_16 rfl (s_KReader_look hL (by omega)  h) (fun v10 σ9 h => ?_)
        refine k_bipush d_KReader_reference_23 cB_35 ?_
        refine k_iceq d_KReader_reference_25 rfl (fun c11 => ?_) (fun c11 => ?_)
        · have h := ipos c11 h
          refine k_aload_n d_KReader_reference_43 rfl ?_
          refine k_iload_n d_KReader_reference_44 rfl ?_
          refine k_iconst d_KReader_reference_45 cI_2 ?_
          obtain ⟨p60, h⟩ := h
          refine k_iadd d_KReader_reference_46 p60 ?_
          refine k_cvi [.inl (a1 + 2)] d_KReader_reference_47 ml_15_282 rfl rfl ob_16 rfl (s_KReader_look hL (by omega)  h) (fun v13 σ12 h => ?_)
          refine k_bipush d_KReader_reference_50 cB_120 ?_
          have hV56 : OkI BF L (d + 1) 15 b_KReader_reference 5 1 60 [.inl (if v13 = 120 then (1 : Int) else (0 : Int))] [some (.inr 16), some (.inl a1), none, none, none] σ12 (qi Q) := by
            refine k_istore_n (lv' := [some (.inr 16), some (.inl a1), some (.inl (if v13 = 120 then (1 : Int) else (0 : Int))), none, none]) d_KReader_reference_60 rfl rfl ?_
            refine k_iload_n d_KReader_reference_61 rfl ?_
            obtain ⟨pt50, h⟩ := h
            have hV49 : OkI BF L (d + 1) 15 b_KReader_reference 5 1 74 [.inl (if (if v13 = 120 then (1 : Int) else (0 : Int)) = 0 then (a1 + 2) else (a1 + 3))] [some (.inr 16), some (.inl a1), some (.inl (if v13 = 120 then (1 : Int) else (0 : Int))), none, none] σ12 (qi Q) := by
              refine k_istore_n (lv' := [some (.inr 16), some (.inl a1), some (.inl (if v13 = 120 then (1 : Int) else (0 : Int))), some (.inl (if (if v13 = 120 then (1 : Int) else (0 : Int)) = 0 then (a1 + 2) else (a1 + 3))), none]) d_KReader_reference_74 rfl rfl ?_
              refine k_iload_n d_KReader_reference_75 rfl ?_
              refine k_istore (lv' := [some (.inr 16), some (.inl a1), some (.inl (if v13 = 120 then (1 : Int) else (0 : Int))), some (.inl (if (if v13 = 120 then (1 : Int) else (0 : Int)) = 0 then (a1 + 2) else (a1 + 3))), some (.inl (if (if v13 = 120 then (1 : Int) else (0 : Int)) = 0 then (a1 + 2) else (a1 + 3)))]) d_KReader_reference_76 rfl rfl ?_
              refine k_sb (lv' := [some (.inr 16), none, some (.inl (if v13 = 120 then (1 : Int) else (0 : Int))), some (.inl (if (if v13 = 120 then (1 : Int) else (0 : Int)) = 0 then (a1 + 2) else (a1 + 3))), some (.inl (if (if v13 = 120 then (1 : Int) else (0 : Int)) = 0 then (a1 + 2) else (a1 + 3)))]) (sb_s (sb_n (sb_s (sb_s (sb_s sb_nil))))) ?_
              refine k_loop (S := Int) (st := fun _ => []) (lv := fun s18 => [some (.inr 16), none, some (.inl (if v13 = 120 then (1 : Int) else (0 : Int))), some (.inl s18), some (.inl (if (if v13 = 120 then (1 : Int) else (0 : Int)) = 0 then (a1 + 2) else (a1 + 3)))]) (fun K16 hK17 s18 σ19 h => ?_) (if (if v13 = 120 then (1 : Int) else (0 : Int)) = 0 then (a1 + 2) else (a1 + 3)) _ h
              refine k_aload_n d_KReader_reference_78 rfl ?_
              refine k_iload_n d_KReader_reference_79 rfl ?_
              refine k_cvi [.inl s18] d_KReader_reference_80 ml_15_282 rfl rfl ob_16 rfl (s_KReader_look hL (by omega)  h) (fun v21 σ20 h => ?_)
              refine k_csi [.inl v21] d_KReader_reference_83 ml_15_319 (Or.inr rfl) rfl rfl rfl (s_K_isDigit hL (by omega)  h) (fun v23 σ22 h => ?_)
              refine k_join (S := Unit) (pc' := 111) (st' := fun s26 => []) (lv' := fun s26 => [some (.inr 16), none, some (.inl (if v13 = 120 then (1 : Int) else (0 : Int))), some (.inl s18), some (.inl (if (if v13 = 120 then (1 : Int) else (0 : Int)) = 0 then (a1 + 2) else (a1 + 3)))]) (fun s26 σ27 h => ?_) (fun J24 hJ25 h => ?_) h
              · obtain ⟨p28, h⟩ := h
                refine k_iinc (lv' := [some (.inr 16), none, some (.inl (if v13 = 120 then (1 : Int) else (0 : Int))), some (.inl (s18 + 1)), some (.inl (if (if v13 = 120 then (1 : Int) else (0 : Int)) = 0 then (a1 + 2) else (a1 + 3)))]) d_KReader_reference_111 cI_1 rfl rfl p28 rfl ?_
                refine k_goto d_KReader_reference_114 rfl ?_
                exact k_sb (sb_s (sb_s (sb_s (sb_s (sb_s sb_nil))))) (hK17 (s18 + 1) _ h)
              · refine k_ifne d_KReader_reference_86 rfl (fun c29 => ?_) (fun c29 => ?_)
                · have h := ineg c29 h
                  exact k_sb (sb_s (sb_s (sb_s (sb_s (sb_s sb_nil))))) (hJ25 () _ h)
                · have h := ipos c29 h
                  refine k_iload_n d_KReader_reference_89 rfl ?_
                  refine k_join (S := Unit) (pc' := 117) (st' := fun s32 => []) (lv' := fun s32 => [some (.inr 16), none, none, some (.inl s18), some (.inl (if (if v13 = 120 then (1 : Int) else (0 : Int)) = 0 then (a1 + 2) else (a1 + 3)))]) (fun s32 σ33 h => ?_) (fun J30 hJ31 h => ?_) h
                  · refine k_iload_n d_KReader_reference_117 rfl ?_
                    refine k_iload d_KReader_reference_118 rfl ?_
                    refine k_join (S := Int) (pc' := 135) (st' := fun s36 => [.inl s36]) (lv' := fun s36 => [none, none, none, none, none]) (fun s36 σ37 h => ?_) (fun J34 hJ35 h => ?_) h
                    · exact k_iret d_KReader_reference_135 (Or.inl rfl) h
                    · refine k_icne d_KReader_reference_120 rfl (fun c38 => ?_) (fun c38 => ?_)
                      · have h := ineg c38 h
                        refine k_aload_n d_KReader_reference_127 rfl ?_
                        refine k_iload_n d_KReader_reference_128 rfl ?_
                        refine k_ldcw d_KReader_reference_129 ks_15_344 rfl ?_
                        refine k_cvi [.inl s18, .inr 1100] d_KReader_reference_132 ml_15_329 rfl rfl ob_16 rfl (s_KReader_word hL (by omega) it_1100 h) (fun v40 σ39 h => ?_)
                        exact k_sb (sb_n (sb_s (sb_s (sb_n (sb_n sb_nil))))) (hJ35 v40 _ h)
                      · have h := ipos c38 h
                        refine k_iconst d_KReader_reference_123 cI_m1 ?_
                        refine k_goto d_KReader_reference_124 rfl ?_
                        exact k_sb (sb_n (sb_s (sb_s (sb_n (sb_n sb_nil))))) (hJ35 (-1) _ h)
                  · refine k_ifeq d_KReader_reference_90 rfl (fun c41 => ?_) (fun c41 => ?_)
                    · have h := ipos c41 h
                      exact k_sb (sb_s (sb_s (sb_n (sb_s (sb_s sb_nil))))) (hJ31 () _ h)
                    · have h := ineg c41 h
                      refine k_aload_n d_KReader_reference_93 rfl ?_
                      refine k_iload_n d_KReader_reference_94 rfl ?_
                      refine k_cvi [.inl s18] d_KReader_reference_95 ml_15_282 rfl rfl ob_16 rfl (s_KReader_look hL (by omega)  h) (fun v43 σ42 h => ?_)
                      refine k_csi [.inl v43] d_KReader_reference_98 ml_15_346 (Or.inr rfl) rfl rfl rfl (s_K_lower hL (by omega)  h) (fun v45 σ44 h => ?_)
                      refine k_bipush d_KReader_reference_101 cB_97 ?_
                      refine k_bipush d_KReader_reference_103 cB_102 ?_
                      refine k_csi [.inl v45, .inl 97, .inl 102] d_KReader_reference_105 ml_15_267 (Or.inr rfl) rfl rfl rfl (s_K_isIn hL (by omega)  h) (fun v47 σ46 h => ?_)
                      refine k_ifeq d_KReader_reference_108 rfl (fun c48 => ?_) (fun c48 => ?_)
                      · have h := ipos c48 h
                        exact k_sb (sb_s (sb_s (sb_n (sb_s (sb_s sb_nil))))) (hJ31 () _ h)
                      · have h := ineg c48 h
                        exact k_sb (sb_s (sb_s (sb_s (sb_s (sb_s sb_nil))))) (hJ25 () _ h)
            obtain ⟨pa51, pb52⟩ := pt50
            refine k_ifeq d_KReader_reference_62 rfl (fun c53 => ?_) (fun c53 => ?_)
            · have pa51 := pa51 c53
              have hV54 := k_eqI (if_pos c53) hV49
              have p14 := pa51
              refine k_iload_n d_KReader_reference_71 rfl ?_
              refine k_iconst d_KReader_reference_72 cI_2 ?_
              refine k_iadd d_KReader_reference_73 p14 ?_
              exact hV54
            · have pb52 := pb52 c53
              have hV55 := k_eqI (if_neg c53) hV49
              have p15 := pb52
              refine k_iload_n d_KReader_reference_65 rfl ?_
              refine k_iconst d_KReader_reference_66 cI_3 ?_
              refine k_iadd d_KReader_reference_67 p15 ?_
              refine k_goto d_KReader_reference_68 rfl ?_
              exact hV55
          refine k_icne d_KReader_reference_52 rfl (fun c57 => ?_) (fun c57 => ?_)
          · have hV59 := k_eqI (if_neg c57) hV56
            refine k_iconst d_KReader_reference_59 cI_0 ?_
            exact hV59
          · have hV58 := k_eqI (if_pos c57) hV56
            refine k_iconst d_KReader_reference_55 cI_1 ?_
            refine k_goto d_KReader_reference_56 rfl ?_
            exact hV58
        · have h := ineg c11 h
          refine k_aload_n d_KReader_reference_28 rfl ?_
          refine k_aload_n d_KReader_reference_29 rfl ?_
          refine k_iload_n d_KReader_reference_30 rfl ?_
          refine k_iconst d_KReader_reference_31 cI_1 ?_
          obtain ⟨p65, h⟩ := h
          refine k_iadd d_KReader_reference_32 p65 ?_
          refine k_cvi [.inl (a1 + 1)] d_KReader_reference_33 ml_15_341 rfl rfl ob_16 rfl (s_KReader_name hL (by omega)  h) (fun v62 σ61 h => ?_)
          refine k_ldcw d_KReader_reference_36 ks_15_344 rfl ?_
          refine k_cvi [.inl v62, .inr 1100] d_KReader_reference_39 ml_15_329 rfl rfl ob_16 rfl (s_KReader_word hL (by omega) it_1100 h) (fun v64 σ63 h => ?_)
          exact k_iret d_KReader_reference_42 (Or.inl rfl) h
      · have h := ineg c8 h
        exact k_sb (sb_n (sb_n (sb_s (sb_s (sb_s sb_nil))))) (hJ2 () _ h)
theorem d_KReader_value_0 : decode b_KReader_value 0 = .ok (.iload_n 1, 1) := by decide +kernel
theorem d_KReader_value_1 : decode b_KReader_value 1 = .ok (.ifCond .lt 14, 3) := by decide +kernel
theorem d_KReader_value_4 : decode b_KReader_value 4 = .ok (.aload_n 0, 1) := by decide +kernel
theorem d_KReader_value_5 : decode b_KReader_value 5 = .ok (.iload_n 1, 1) := by decide +kernel
theorem d_KReader_value_6 : decode b_KReader_value 6 = .ok (.invokevirtual 282, 3) := by decide +kernel
theorem d_KReader_value_9 : decode b_KReader_value 9 = .ok (.invokestatic 310, 3) := by decide +kernel
theorem d_KReader_value_12 : decode b_KReader_value 12 = .ok (.ifCond .ne 5, 3) := by decide +kernel
theorem d_KReader_value_15 : decode b_KReader_value 15 = .ok (.iconst (-1), 1) := by decide +kernel
theorem d_KReader_value_16 : decode b_KReader_value 16 = .ok (.ireturn, 1) := by decide +kernel
theorem d_KReader_value_17 : decode b_KReader_value 17 = .ok (.iload_n 1, 1) := by decide +kernel
theorem d_KReader_value_18 : decode b_KReader_value 18 = .ok (.iconst 1, 1) := by decide +kernel
theorem d_KReader_value_19 : decode b_KReader_value 19 = .ok (.iadd, 1) := by decide +kernel
theorem d_KReader_value_20 : decode b_KReader_value 20 = .ok (.istore_n 2, 1) := by decide +kernel
theorem d_KReader_value_21 : decode b_KReader_value 21 = .ok (.iload_n 2, 1) := by decide +kernel
theorem d_KReader_value_22 : decode b_KReader_value 22 = .ok (.ifCond .lt 64, 3) := by decide +kernel
theorem d_KReader_value_25 : decode b_KReader_value 25 = .ok (.iload_n 2, 1) := by decide +kernel
theorem d_KReader_value_26 : decode b_KReader_value 26 = .ok (.aload_n 0, 1) := by decide +kernel
theorem d_KReader_value_27 : decode b_KReader_value 27 = .ok (.getfield 273, 3) := by decide +kernel
theorem d_KReader_value_30 : decode b_KReader_value 30 = .ok (.if_icmp .ge 56, 3) := by decide +kernel
theorem d_KReader_value_33 : decode b_KReader_value 33 = .ok (.aload_n 0, 1) := by decide +kernel
theorem d_KReader_value_34 : decode b_KReader_value 34 = .ok (.getfield 45, 3) := by decide +kernel
theorem d_KReader_value_37 : decode b_KReader_value 37 = .ok (.iload_n 2, 1) := by decide +kernel
theorem d_KReader_value_38 : decode b_KReader_value 38 = .ok (.iaload, 1) := by decide +kernel
theorem d_KReader_value_39 : decode b_KReader_value 39 = .ok (.aload_n 0, 1) := by decide +kernel
theorem d_KReader_value_40 : decode b_KReader_value 40 = .ok (.getfield 45, 3) := by decide +kernel
theorem d_KReader_value_43 : decode b_KReader_value 43 = .ok (.iload_n 1, 1) := by decide +kernel
theorem d_KReader_value_44 : decode b_KReader_value 44 = .ok (.iaload, 1) := by decide +kernel
theorem d_KReader_value_45 : decode b_KReader_value 45 = .ok (.if_icmp .eq 41, 3) := by decide +kernel
theorem d_KReader_value_48 : decode b_KReader_value 48 = .ok (.aload_n 0, 1) := by decide +kernel
theorem d_KReader_value_49 : decode b_KReader_value 49 = .ok (.getfield 45, 3) := by decide +kernel
theorem d_KReader_value_52 : decode b_KReader_value 52 = .ok (.iload_n 2, 1) := by decide +kernel
theorem d_KReader_value_53 : decode b_KReader_value 53 = .ok (.iaload, 1) := by decide +kernel
theorem d_KReader_value_54 : decode b_KReader_value 54 = .ok (.istore_n 3, 1) := by decide +kernel
theorem d_KReader_value_55 : decode b_KReader_value 55 = .ok (.iload_n 3, 1) := by decide +kernel
theorem d_KReader_value_56 : decode b_KReader_value 56 = .ok (.bipush 60, 2) := by decide +kernel
theorem d_KReader_value_58 : decode b_KReader_value 58 = .ok (.if_icmp .ne 7, 3) := by decide +kernel
theorem d_KReader_value_61 : decode b_KReader_value 61 = .ok (.iconst (-1), 1) := by decide +kernel
theorem d_KReader_value_62 : decode b_KReader_value 62 = .ok (.goto 20, 3) := by decide +kernel
theorem d_KReader_value_65 : decode b_KReader_value 65 = .ok (.iload_n 3, 1) := by decide +kernel
theorem d_KReader_value_66 : decode b_KReader_value 66 = .ok (.bipush 38, 2) := by decide +kernel
theorem d_KReader_value_68 : decode b_KReader_value 68 = .ok (.if_icmp .ne 11, 3) := by decide +kernel
theorem d_KReader_value_71 : decode b_KReader_value 71 = .ok (.aload_n 0, 1) := by decide +kernel
theorem d_KReader_value_72 : decode b_KReader_value 72 = .ok (.iload_n 2, 1) := by decide +kernel
theorem d_KReader_value_73 : decode b_KReader_value 73 = .ok (.invokevirtual 350, 3) := by decide +kernel
theorem d_KReader_value_76 : decode b_KReader_value 76 = .ok (.goto 6, 3) := by decide +kernel
theorem d_KReader_value_79 : decode b_KReader_value 79 = .ok (.iload_n 2, 1) := by decide +kernel
theorem d_KReader_value_80 : decode b_KReader_value 80 = .ok (.iconst 1, 1) := by decide +kernel
theorem d_KReader_value_81 : decode b_KReader_value 81 = .ok (.iadd, 1) := by decide +kernel
theorem d_KReader_value_82 : decode b_KReader_value 82 = .ok (.istore_n 2, 1) := by decide +kernel
theorem d_KReader_value_83 : decode b_KReader_value 83 = .ok (.goto (-62), 3) := by decide +kernel
theorem d_KReader_value_86 : decode b_KReader_value 86 = .ok (.iload_n 2, 1) := by decide +kernel
theorem d_KReader_value_87 : decode b_KReader_value 87 = .ok (.ifCond .lt 17, 3) := by decide +kernel
theorem d_KReader_value_90 : decode b_KReader_value 90 = .ok (.iload_n 2, 1) := by decide +kernel
theorem d_KReader_value_91 : decode b_KReader_value 91 = .ok (.aload_n 0, 1) := by decide +kernel
theorem d_KReader_value_92 : decode b_KReader_value 92 = .ok (.getfield 273, 3) := by decide +kernel
theorem d_KReader_value_95 : decode b_KReader_value 95 = .ok (.if_icmp .ge 9, 3) := by decide +kernel
theorem d_KReader_value_98 : decode b_KReader_value 98 = .ok (.iload_n 2, 1) := by decide +kernel
theorem d_KReader_value_99 : decode b_KReader_value 99 = .ok (.iconst 1, 1) := by decide +kernel
theorem d_KReader_value_100 : decode b_KReader_value 100 = .ok (.iadd, 1) := by decide +kernel
theorem d_KReader_value_101 : decode b_KReader_value 101 = .ok (.goto 4, 3) := by decide +kernel
theorem d_KReader_value_104 : decode b_KReader_value 104 = .ok (.iconst (-1), 1) := by decide +kernel
theorem d_KReader_value_105 : decode b_KReader_value 105 = .ok (.ireturn, 1) := by decide +kernel
/-- KReader_value -/
def w_KReader_value (L : Nat → Nat) (a1 : Int) (Q : Int → IS → Prop) (σ : IS) : Prop := WJ (fun (s3 : Unit) (σ4 : IS) => Q (-1) σ4) (fun J1 => if a1 < 0 then J1 () σ else w_KReader_look L a1 (fun v7 σ6 => w_KReader_isQuote L v7 (fun v9 σ8 => if v9 = 0 then J1 () σ8 else inR (a1 + 1) ∧ WL (fun (K11 : Int → IS → Prop) (s13 : Int) (σ14 : IS) => ((¬ s13 < 0 → (s13 < (σ14.1 16 17) → (inL L 176 s13 ∧ inL L 176 a1)))) ∧ if ¬ s13 < 0 ∧ (s13 < (σ14.1 16 17) ∧ (¬ (σ14.2 176 (Int.toNat s13)) = (σ14.2 176 (Int.toNat a1)))) then inL L 176 s13 ∧ WJ (fun (s19 : Int) (σ20 : IS) => K11 s19 σ20) (fun J17 => if (σ14.2 176 (Int.toNat s13)) = 60 then J17 (-1) σ14 else if (σ14.2 176 (Int.toNat s13)) = 38 then w_KReader_reference L s13 (fun v25 σ24 => J17 v25 σ24) σ14 else inR (s13 + 1) ∧ J17 (s13 + 1) σ14) else ((¬ s13 < 0 → (s13 < (σ14.1 16 17) → inR (s13 + 1)))) ∧ Q (if s13 < 0 then ((-1) : Int) else (if s13 < (σ14.1 16 17) then (s13 + 1) else ((-1) : Int))) σ14) (a1 + 1) σ8) σ6) σ)
set_option maxHeartbeats 4000000 in
set_option maxRecDepth 20000 in
theorem s_KReader_value {L : Nat → Nat} (hL : ∀ r, L r < 2147483648) {d : Nat} (hd : 6 ≤ d) {a1 : Int} {Q : Int → IS → Prop} {σ : IS}  (h : w_KReader_value L a1 Q σ) : OkI BF L d 15 b_KReader_value 4 1 0 [] [some (.inr 16), some (.inl a1)] σ (qi Q) := by
  unfold w_KReader_value at h
  obtain ⟨d, rfl⟩ : ∃ e, d = e + 1 := ⟨d - 1, by omega⟩
  refine k_sb (lv' := [some (.inr 16), some (.inl a1), none, none]) (sb_s (sb_s (sb_e (sb_e sb_nil)))) ?_
  refine k_iload_n d_KReader_value_0 rfl ?_
  refine k_join (S := Unit) (pc' := 15) (st' := fun s3 => []) (lv' := fun s3 => [none, none, none, none]) (fun s3 σ4 h => ?_) (fun J1 hJ2 h => ?_) h
  · refine k_iconst d_KReader_value_15 cI_m1 ?_
    exact k_iret d_KReader_value_16 (Or.inl rfl) h
  · refine k_iflt d_KReader_value_1 rfl (fun c5 => ?_) (fun c5 => ?_)
    · have h := ipos c5 h
      exact k_sb (sb_n (sb_n (sb_s (sb_s sb_nil)))) (hJ2 () _ h)
    · have h := ineg c5 h
      refine k_aload_n d_KReader_value_4 rfl ?_
      refine k_iload_n d_KReader_value_5 rfl ?_
      refine k_cvi [.inl a1] d_KReader_value_6 ml_15_282 rfl rfl ob_16 rfl (s_KReader_look hL (by omega)  h) (fun v7 σ6 h => ?_)
      refine k_csi [.inl v7] d_KReader_value_9 ml_15_310 (Or.inl rfl) rfl rfl rfl (s_KReader_isQuote hL (by omega)  h) (fun v9 σ8 h => ?_)
      refine k_ifne d_KReader_value_12 rfl (fun c10 => ?_) (fun c10 => ?_)
      · have h := ineg c10 h
        refine k_iload_n d_KReader_value_17 rfl ?_
        refine k_iconst d_KReader_value_18 cI_1 ?_
        obtain ⟨p47, h⟩ := h
        refine k_iadd d_KReader_value_19 p47 ?_
        refine k_istore_n (lv' := [some (.inr 16), some (.inl a1), some (.inl (a1 + 1)), none]) d_KReader_value_20 rfl rfl ?_
        refine k_sb (lv' := [some (.inr 16), some (.inl a1), some (.inl (a1 + 1)), none]) (sb_s (sb_s (sb_s (sb_s sb_nil)))) ?_
        refine k_loop (S := Int) (st := fun _ => []) (lv := fun s13 => [some (.inr 16), some (.inl a1), some (.inl s13), none]) (fun K11 hK12 s13 σ14 h => ?_) (a1 + 1) _ h
        refine k_iload_n d_KReader_value_21 rfl ?_
        obtain ⟨pt41, h⟩ := h
        have hX38 : (¬ s13 < 0 ∧ (s13 < (σ14.1 16 17) ∧ (¬ (σ14.2 176 (Int.toNat s13)) = (σ14.2 176 (Int.toNat a1))))) → OkI BF L (d + 1) 15 b_KReader_value 4 1 48 [] [some (.inr 16), some (.inl a1), some (.inl s13), none] σ14 (qi Q) := fun e40 => by
          have h := ipos e40 h
          refine k_aload_n d_KReader_value_48 rfl ?_
          refine k_getR d_KReader_value_49 fl_15_45 ob_16 rfl ?_
          refine k_iload_n d_KReader_value_52 rfl ?_
          obtain ⟨p26, h⟩ := h
          refine k_ild (x := (σ14.2 176 (Int.toNat s13))) d_KReader_value_53 rI_176 p26 rfl ?_
          refine k_istore_n (lv' := [some (.inr 16), some (.inl a1), some (.inl s13), some (.inl (σ14.2 176 (Int.toNat s13)))]) d_KReader_value_54 rfl rfl ?_
          refine k_iload_n d_KReader_value_55 rfl ?_
          refine k_bipush d_KReader_value_56 cB_60 ?_
          refine k_join (S := Int) (pc' := 82) (st' := fun s19 => [.inl s19]) (lv' := fun s19 => [some (.inr 16), some (.inl a1), none, none]) (fun s19 σ20 h => ?_) (fun J17 hJ18 h => ?_) h
          · refine k_istore_n (lv' := [some (.inr 16), some (.inl a1), some (.inl s19), none]) d_KReader_value_82 rfl rfl ?_
            refine k_goto d_KReader_value_83 rfl ?_
            exact k_sb (sb_s (sb_s (sb_s (sb_s sb_nil)))) (hK12 s19 _ h)
          · refine k_icne d_KReader_value_58 rfl (fun c21 => ?_) (fun c21 => ?_)
            · have h := ineg c21 h
              refine k_iload_n d_KReader_value_65 rfl ?_
              refine k_bipush d_KReader_value_66 cB_38 ?_
              refine k_icne d_KReader_value_68 rfl (fun c22 => ?_) (fun c22 => ?_)
              · have h := ineg c22 h
                refine k_iload_n d_KReader_value_79 rfl ?_
                refine k_iconst d_KReader_value_80 cI_1 ?_
                obtain ⟨p23, h⟩ := h
                refine k_iadd d_KReader_value_81 p23 ?_
                exact k_sb (sb_s (sb_s (sb_n (sb_n sb_nil)))) (hJ18 (s13 + 1) _ h)
              · have h := ipos c22 h
                refine k_aload_n d_KReader_value_71 rfl ?_
                refine k_iload_n d_KReader_value_72 rfl ?_
                refine k_cvi [.inl s13] d_KReader_value_73 ml_15_350 rfl rfl ob_16 rfl (s_KReader_reference hL (by omega)  h) (fun v25 σ24 h => ?_)
                refine k_goto d_KReader_value_76 rfl ?_
                exact k_sb (sb_s (sb_s (sb_n (sb_n sb_nil)))) (hJ18 v25 _ h)
            · have h := ipos c21 h
              refine k_iconst d_KReader_value_61 cI_m1 ?_
              refine k_goto d_KReader_value_62 rfl ?_
              exact k_sb (sb_s (sb_s (sb_n (sb_n sb_nil)))) (hJ18 (-1) _ h)
        have hY39 : ¬ (¬ s13 < 0 ∧ (s13 < (σ14.1 16 17) ∧ (¬ (σ14.2 176 (Int.toNat s13)) = (σ14.2 176 (Int.toNat a1))))) → OkI BF L (d + 1) 15 b_KReader_value 4 1 86 [] [some (.inr 16), some (.inl a1), some (.inl s13), none] σ14 (qi Q) := fun e40 => by
          have h := ineg e40 h
          refine k_iload_n d_KReader_value_86 rfl ?_
          obtain ⟨pt29, h⟩ := h
          have hV28 : OkI BF L (d + 1) 15 b_KReader_value 4 1 105 [.inl (if s13 < 0 then ((-1) : Int) else (if s13 < (σ14.1 16 17) then (s13 + 1) else ((-1) : Int)))] [some (.inr 16), some (.inl a1), some (.inl s13), none] σ14 (qi Q) := by
            exact k_iret d_KReader_value_105 (Or.inl rfl) h
          have pb30 := pt29
          refine k_iflt d_KReader_value_87 rfl (fun c31 => ?_) (fun c31 => ?_)
          · have hV32 := k_eqI (if_pos c31) hV28
            refine k_iconst d_KReader_value_104 cI_m1 ?_
            exact hV32
          · have pb30 := pb30 c31
            have hV33 := k_eqI (if_neg c31) hV28
            have pa34 := pb30
            refine k_iload_n d_KReader_value_90 rfl ?_
            refine k_aload_n d_KReader_value_91 rfl ?_
            refine k_getI (x := (σ14.1 16 17)) d_KReader_value_92 fl_15_273 ob_16 rfl rfl ?_
            refine k_icge d_KReader_value_95 rfl (fun c35 => ?_) (fun c35 => ?_)
            · have hV37 := k_eqI (if_neg c35) hV33
              refine k_iconst d_KReader_value_104 cI_m1 ?_
              exact hV37
            · have pa34 := pa34 c35
              have hV36 := k_eqI (if_pos c35) hV33
              have p27 := pa34
              refine k_iload_n d_KReader_value_98 rfl ?_
              refine k_iconst d_KReader_value_99 cI_1 ?_
              refine k_iadd d_KReader_value_100 p27 ?_
              refine k_goto d_KReader_value_101 rfl ?_
              exact hV36
        have pb42 := pt41
        refine k_iflt d_KReader_value_22 rfl (fun c43 => ?_) (fun c43 => ?_)
        · exact hY39 (fun z => z.1 c43)
        · have pb42 := pb42 c43
          have pa44 := pb42
          refine k_iload_n d_KReader_value_25 rfl ?_
          refine k_aload_n d_KReader_value_26 rfl ?_
          refine k_getI (x := (σ14.1 16 17)) d_KReader_value_27 fl_15_273 ob_16 rfl rfl ?_
          refine k_icge d_KReader_value_30 rfl (fun c45 => ?_) (fun c45 => ?_)
          · exact hY39 (fun z => (fun z => c45 z.1) z.2)
          · have pa44 := pa44 c45
            obtain ⟨p15, p16⟩ := pa44
            refine k_aload_n d_KReader_value_33 rfl ?_
            refine k_getR d_KReader_value_34 fl_15_45 ob_16 rfl ?_
            refine k_iload_n d_KReader_value_37 rfl ?_
            refine k_ild (x := (σ14.2 176 (Int.toNat s13))) d_KReader_value_38 rI_176 p15 rfl ?_
            refine k_aload_n d_KReader_value_39 rfl ?_
            refine k_getR d_KReader_value_40 fl_15_45 ob_16 rfl ?_
            refine k_iload_n d_KReader_value_43 rfl ?_
            refine k_ild (x := (σ14.2 176 (Int.toNat a1))) d_KReader_value_44 rI_176 p16 rfl ?_
            refine k_iceq d_KReader_value_45 rfl (fun c46 => ?_) (fun c46 => ?_)
            · exact hY39 (fun z => (fun z => (fun z => z c46) z.2) z.2)
            · exact hX38 (⟨c43, ⟨c45, c46⟩⟩)
      · have h := ipos c10 h
        exact k_sb (sb_n (sb_n (sb_s (sb_s sb_nil)))) (hJ2 () _ h)
theorem d_KReader_defaultAt_0 : decode b_KReader_defaultAt 0 = .ok (.aload_n 0, 1) := by decide +kernel
theorem d_KReader_defaultAt_1 : decode b_KReader_defaultAt 1 = .ok (.iconst (-1), 1) := by decide +kernel
theorem d_KReader_defaultAt_2 : decode b_KReader_defaultAt 2 = .ok (.putfield 644, 3) := by decide +kernel
theorem d_KReader_defaultAt_5 : decode b_KReader_defaultAt 5 = .ok (.aload_n 0, 1) := by decide +kernel
theorem d_KReader_defaultAt_6 : decode b_KReader_defaultAt 6 = .ok (.iload_n 1, 1) := by decide +kernel
theorem d_KReader_defaultAt_7 : decode b_KReader_defaultAt 7 = .ok (.ldc_w 647, 3) := by decide +kernel
theorem d_KReader_defaultAt_10 : decode b_KReader_defaultAt 10 = .ok (.invokevirtual 329, 3) := by decide +kernel
theorem d_KReader_defaultAt_13 : decode b_KReader_defaultAt 13 = .ok (.istore_n 2, 1) := by decide +kernel
theorem d_KReader_defaultAt_14 : decode b_KReader_defaultAt 14 = .ok (.aload_n 0, 1) := by decide +kernel
theorem d_KReader_defaultAt_15 : decode b_KReader_defaultAt 15 = .ok (.iconst 1, 1) := by decide +kernel
theorem d_KReader_defaultAt_16 : decode b_KReader_defaultAt 16 = .ok (.putfield 649, 3) := by decide +kernel
theorem d_KReader_defaultAt_19 : decode b_KReader_defaultAt 19 = .ok (.iload_n 2, 1) := by decide +kernel
theorem d_KReader_defaultAt_20 : decode b_KReader_defaultAt 20 = .ok (.ifCond .ge 17, 3) := by decide +kernel
theorem d_KReader_defaultAt_23 : decode b_KReader_defaultAt 23 = .ok (.aload_n 0, 1) := by decide +kernel
theorem d_KReader_defaultAt_24 : decode b_KReader_defaultAt 24 = .ok (.iload_n 1, 1) := by decide +kernel
theorem d_KReader_defaultAt_25 : decode b_KReader_defaultAt 25 = .ok (.ldc_w 652, 3) := by decide +kernel
theorem d_KReader_defaultAt_28 : decode b_KReader_defaultAt 28 = .ok (.invokevirtual 329, 3) := by decide +kernel
theorem d_KReader_defaultAt_31 : decode b_KReader_defaultAt 31 = .ok (.istore_n 2, 1) := by decide +kernel
theorem d_KReader_defaultAt_32 : decode b_KReader_defaultAt 32 = .ok (.aload_n 0, 1) := by decide +kernel
theorem d_KReader_defaultAt_33 : decode b_KReader_defaultAt 33 = .ok (.iconst 2, 1) := by decide +kernel
theorem d_KReader_defaultAt_34 : decode b_KReader_defaultAt 34 = .ok (.putfield 649, 3) := by decide +kernel
theorem d_KReader_defaultAt_37 : decode b_KReader_defaultAt 37 = .ok (.iload_n 2, 1) := by decide +kernel
theorem d_KReader_defaultAt_38 : decode b_KReader_defaultAt 38 = .ok (.ifCond .ge 51, 3) := by decide +kernel
theorem d_KReader_defaultAt_41 : decode b_KReader_defaultAt 41 = .ok (.aload_n 0, 1) := by decide +kernel
theorem d_KReader_defaultAt_42 : decode b_KReader_defaultAt 42 = .ok (.aload_n 0, 1) := by decide +kernel
theorem d_KReader_defaultAt_43 : decode b_KReader_defaultAt 43 = .ok (.iload_n 1, 1) := by decide +kernel
theorem d_KReader_defaultAt_44 : decode b_KReader_defaultAt 44 = .ok (.ldc_w 654, 3) := by decide +kernel
theorem d_KReader_defaultAt_47 : decode b_KReader_defaultAt 47 = .ok (.invokevirtual 329, 3) := by decide +kernel
theorem d_KReader_defaultAt_50 : decode b_KReader_defaultAt 50 = .ok (.invokevirtual 333, 3) := by decide +kernel
theorem d_KReader_defaultAt_53 : decode b_KReader_defaultAt 53 = .ok (.istore_n 3, 1) := by decide +kernel
theorem d_KReader_defaultAt_54 : decode b_KReader_defaultAt 54 = .ok (.aload_n 0, 1) := by decide +kernel
theorem d_KReader_defaultAt_55 : decode b_KReader_defaultAt 55 = .ok (.iload_n 3, 1) := by decide +kernel
theorem d_KReader_defaultAt_56 : decode b_KReader_defaultAt 56 = .ok (.ifCond .lt 7, 3) := by decide +kernel
theorem d_KReader_defaultAt_59 : decode b_KReader_defaultAt 59 = .ok (.iconst 3, 1) := by decide +kernel
theorem d_KReader_defaultAt_60 : decode b_KReader_defaultAt 60 = .ok (.goto 4, 3) := by decide +kernel
theorem d_KReader_defaultAt_63 : decode b_KReader_defaultAt 63 = .ok (.iconst 4, 1) := by decide +kernel
theorem d_KReader_defaultAt_64 : decode b_KReader_defaultAt 64 = .ok (.putfield 649, 3) := by decide +kernel
theorem d_KReader_defaultAt_67 : decode b_KReader_defaultAt 67 = .ok (.aload_n 0, 1) := by decide +kernel
theorem d_KReader_defaultAt_68 : decode b_KReader_defaultAt 68 = .ok (.iload_n 3, 1) := by decide +kernel
theorem d_KReader_defaultAt_69 : decode b_KReader_defaultAt 69 = .ok (.ifCond .lt 7, 3) := by decide +kernel
theorem d_KReader_defaultAt_72 : decode b_KReader_defaultAt 72 = .ok (.iload_n 3, 1) := by decide +kernel
theorem d_KReader_defaultAt_73 : decode b_KReader_defaultAt 73 = .ok (.goto 4, 3) := by decide +kernel
theorem d_KReader_defaultAt_76 : decode b_KReader_defaultAt 76 = .ok (.iload_n 1, 1) := by decide +kernel
theorem d_KReader_defaultAt_77 : decode b_KReader_defaultAt 77 = .ok (.putfield 644, 3) := by decide +kernel
theorem d_KReader_defaultAt_80 : decode b_KReader_defaultAt 80 = .ok (.aload_n 0, 1) := by decide +kernel
theorem d_KReader_defaultAt_81 : decode b_KReader_defaultAt 81 = .ok (.aload_n 0, 1) := by decide +kernel
theorem d_KReader_defaultAt_82 : decode b_KReader_defaultAt 82 = .ok (.getfield 644, 3) := by decide +kernel
theorem d_KReader_defaultAt_85 : decode b_KReader_defaultAt 85 = .ok (.invokevirtual 656, 3) := by decide +kernel
theorem d_KReader_defaultAt_88 : decode b_KReader_defaultAt 88 = .ok (.istore_n 2, 1) := by decide +kernel
theorem d_KReader_defaultAt_89 : decode b_KReader_defaultAt 89 = .ok (.iload_n 2, 1) := by decide +kernel
theorem d_KReader_defaultAt_90 : decode b_KReader_defaultAt 90 = .ok (.ireturn, 1) := by decide +kernel
/-- KReader_defaultAt -/
def w_KReader_defaultAt (L : Nat → Nat) (a1 : Int) (Q : Int → IS → Prop) (σ : IS) : Prop := w_KReader_word L a1 1141 (fun v2 σ1 => WJ (fun (s5 : Int) (σ6 : IS) => WJ (fun (s9 : Int) (σ10 : IS) => Q s9 σ10) (fun J7 => if s5 < 0 then w_KReader_word L a1 1143 (fun v13 σ12 => w_KReader_spaces L v13 (fun v15 σ14 => w_KReader_value L (if v15 < 0 then a1 else v15) (fun v17 σ16 => J7 v17 σ16) (pf (pf σ14 16 81 (if v15 < 0 then (4 : Int) else (3 : Int))) 16 82 (if v15 < 0 then a1 else v15))) σ12) σ6 else J7 s5 σ6)) (fun J3 => if v2 < 0 then w_KReader_word L a1 1142 (fun v28 σ27 => J3 v28 (pf σ27 16 81 2)) (pf σ1 16 81 1) else J3 v2 (pf σ1 16 81 1))) (pf σ 16 82 (-1))
set_option maxHeartbeats 4000000 in
set_option maxRecDepth 20000 in
theorem s_KReader_defaultAt {L : Nat → Nat} (hL : ∀ r, L r < 2147483648) {d : Nat} (hd : 7 ≤ d) {a1 : Int} {Q : Int → IS → Prop} {σ : IS}  (h : w_KReader_defaultAt L a1 Q σ) : OkI BF L d 15 b_KReader_defaultAt 4 1 0 [] [some (.inr 16), some (.inl a1)] σ (qi Q) := by
  unfold w_KReader_defaultAt at h
  obtain ⟨d, rfl⟩ : ∃ e, d = e + 1 := ⟨d - 1, by omega⟩
  refine k_sb (lv' := [some (.inr 16), some (.inl a1), none, none]) (sb_s (sb_s (sb_e (sb_e sb_nil)))) ?_
  refine k_aload_n d_KReader_defaultAt_0 rfl ?_
  refine k_iconst d_KReader_defaultAt_1 cI_m1 ?_
  refine k_putI d_KReader_defaultAt_2 fl_15_644 ob_16 rfl ?_
  refine k_aload_n d_KReader_defaultAt_5 rfl ?_
  refine k_iload_n d_KReader_defaultAt_6 rfl ?_
  refine k_ldcw d_KReader_defaultAt_7 ks_15_647 rfl ?_
  refine k_cvi [.inl a1, .inr 1141] d_KReader_defaultAt_10 ml_15_329 rfl rfl ob_16 rfl (s_KReader_word hL (by omega) it_1141 h) (fun v2 σ1 h => ?_)
  refine k_istore_n (lv' := [some (.inr 16), some (.inl a1), some (.inl v2), none]) d_KReader_defaultAt_13 rfl rfl ?_
  refine k_aload_n d_KReader_defaultAt_14 rfl ?_
  refine k_iconst d_KReader_defaultAt_15 cI_1 ?_
  refine k_putI d_KReader_defaultAt_16 fl_15_649 ob_16 rfl ?_
  refine k_iload_n d_KReader_defaultAt_19 rfl ?_
  refine k_join (S := Int) (pc' := 37) (st' := fun s5 => []) (lv' := fun s5 => [some (.inr 16), some (.inl a1), some (.inl s5), none]) (fun s5 σ6 h => ?_) (fun J3 hJ4 h => ?_) h
  · refine k_iload_n d_KReader_defaultAt_37 rfl ?_
    refine k_join (S := Int) (pc' := 89) (st' := fun s9 => []) (lv' := fun s9 => [none, none, some (.inl s9), none]) (fun s9 σ10 h => ?_) (fun J7 hJ8 h => ?_) h
    · refine k_iload_n d_KReader_defaultAt_89 rfl ?_
      exact k_iret d_KReader_defaultAt_90 (Or.inl rfl) h
    · refine k_ifge d_KReader_defaultAt_38 rfl (fun c11 => ?_) (fun c11 => ?_)
      · have h := ineg c11 h
        exact k_sb (sb_n (sb_n (sb_s (sb_s sb_nil)))) (hJ8 s5 _ h)
      · have h := ipos c11 h
        refine k_aload_n d_KReader_defaultAt_41 rfl ?_
        refine k_aload_n d_KReader_defaultAt_42 rfl ?_
        refine k_iload_n d_KReader_defaultAt_43 rfl ?_
        refine k_ldcw d_KReader_defaultAt_44 ks_15_654 rfl ?_
        refine k_cvi [.inl a1, .inr 1143] d_KReader_defaultAt_47 ml_15_329 rfl rfl ob_16 rfl (s_KReader_word hL (by omega) it_1143 h) (fun v13 σ12 h => ?_)
        refine k_cvi [.inl v13] d_KReader_defaultAt_50 ml_15_333 rfl rfl ob_16 rfl (s_KReader_spaces hL (by omega)  h) (fun v15 σ14 h => ?_)
        refine k_istore_n (lv' := [some (.inr 16), some (.inl a1), some (.inl s5), some (.inl v15)]) d_KReader_defaultAt_53 rfl rfl ?_
        refine k_aload_n d_KReader_defaultAt_54 rfl ?_
        refine k_iload_n d_KReader_defaultAt_55 rfl ?_
        have hV22 : OkI BF L (d + 1) 15 b_KReader_defaultAt 4 1 64 [.inl (if v15 < 0 then (4 : Int) else (3 : Int)), .inr 16] [some (.inr 16), some (.inl a1), some (.inl s5), some (.inl v15)] σ14 (qi Q) := by
          refine k_putI d_KReader_defaultAt_64 fl_15_649 ob_16 rfl ?_
          refine k_aload_n d_KReader_defaultAt_67 rfl ?_
          refine k_iload_n d_KReader_defaultAt_68 rfl ?_
          have hV18 : OkI BF L (d + 1) 15 b_KReader_defaultAt 4 1 77 [.inl (if v15 < 0 then a1 else v15), .inr 16] [some (.inr 16), some (.inl a1), some (.inl s5), some (.inl v15)] (pf σ14 16 81 (if v15 < 0 then (4 : Int) else (3 : Int))) (qi Q) := by
            refine k_putI d_KReader_defaultAt_77 fl_15_644 ob_16 rfl ?_
            refine k_aload_n d_KReader_defaultAt_80 rfl ?_
            refine k_aload_n d_KReader_defaultAt_81 rfl ?_
            refine k_getI (x := (if v15 < 0 then a1 else v15)) d_KReader_defaultAt_82 fl_15_644 ob_16 rfl rfl ?_
            refine k_cvi [.inl (if v15 < 0 then a1 else v15)] d_KReader_defaultAt_85 ml_15_656 rfl rfl ob_16 rfl (s_KReader_value hL (by omega)  h) (fun v17 σ16 h => ?_)
            refine k_istore_n (lv' := [some (.inr 16), some (.inl a1), some (.inl v17), some (.inl v15)]) d_KReader_defaultAt_88 rfl rfl ?_
            exact k_sb (sb_n (sb_n (sb_s (sb_n sb_nil)))) (hJ8 v17 _ h)
          refine k_iflt d_KReader_defaultAt_69 rfl (fun c19 => ?_) (fun c19 => ?_)
          · have hV20 := k_eqI (if_pos c19) hV18
            refine k_iload_n d_KReader_defaultAt_76 rfl ?_
            exact hV20
          · have hV21 := k_eqI (if_neg c19) hV18
            refine k_iload_n d_KReader_defaultAt_72 rfl ?_
            refine k_goto d_KReader_defaultAt_73 rfl ?_
            exact hV21
        refine k_iflt d_KReader_defaultAt_56 rfl (fun c23 => ?_) (fun c23 => ?_)
        · have hV24 := k_eqI (if_pos c23) hV22
          refine k_iconst d_KReader_defaultAt_63 cI_4 ?_
          exact hV24
        · have hV25 := k_eqI (if_neg c23) hV22
          refine k_iconst d_KReader_defaultAt_59 cI_3 ?_
          refine k_goto d_KReader_defaultAt_60 rfl ?_
          exact hV25
  · refine k_ifge d_KReader_defaultAt_20 rfl (fun c26 => ?_) (fun c26 => ?_)
    · have h := ineg c26 h
      exact k_sb (sb_s (sb_s (sb_s (sb_s sb_nil)))) (hJ4 v2 _ h)
    · have h := ipos c26 h
      refine k_aload_n d_KReader_defaultAt_23 rfl ?_
      refine k_iload_n d_KReader_defaultAt_24 rfl ?_
      refine k_ldcw d_KReader_defaultAt_25 ks_15_652 rfl ?_
      refine k_cvi [.inl a1, .inr 1142] d_KReader_defaultAt_28 ml_15_329 rfl rfl ob_16 rfl (s_KReader_word hL (by omega) it_1142 h) (fun v28 σ27 h => ?_)
      refine k_istore_n (lv' := [some (.inr 16), some (.inl a1), some (.inl v28), none]) d_KReader_defaultAt_31 rfl rfl ?_
      refine k_aload_n d_KReader_defaultAt_32 rfl ?_
      refine k_iconst d_KReader_defaultAt_33 cI_2 ?_
      refine k_putI d_KReader_defaultAt_34 fl_15_649 ob_16 rfl ?_
      exact k_sb (sb_s (sb_s (sb_s (sb_s sb_nil)))) (hJ4 v28 _ h)
theorem d_KReader_definition_0 : decode b_KReader_definition 0 = .ok (.aload_n 0, 1) := by decide +kernel
theorem d_KReader_definition_1 : decode b_KReader_definition 1 = .ok (.iload_n 1, 1) := by decide +kernel
theorem d_KReader_definition_2 : decode b_KReader_definition 2 = .ok (.invokevirtual 341, 3) := by decide +kernel
theorem d_KReader_definition_5 : decode b_KReader_definition 5 = .ok (.istore_n 2, 1) := by decide +kernel
theorem d_KReader_definition_6 : decode b_KReader_definition 6 = .ok (.aload_n 0, 1) := by decide +kernel
theorem d_KReader_definition_7 : decode b_KReader_definition 7 = .ok (.aload_n 0, 1) := by decide +kernel
theorem d_KReader_definition_8 : decode b_KReader_definition 8 = .ok (.iload_n 2, 1) := by decide +kernel
theorem d_KReader_definition_9 : decode b_KReader_definition 9 = .ok (.invokevirtual 333, 3) := by decide +kernel
theorem d_KReader_definition_12 : decode b_KReader_definition 12 = .ok (.invokevirtual 659, 3) := by decide +kernel
theorem d_KReader_definition_15 : decode b_KReader_definition 15 = .ok (.istore_n 3, 1) := by decide +kernel
theorem d_KReader_definition_16 : decode b_KReader_definition 16 = .ok (.aload_n 0, 1) := by decide +kernel
theorem d_KReader_definition_17 : decode b_KReader_definition 17 = .ok (.aload_n 0, 1) := by decide +kernel
theorem d_KReader_definition_18 : decode b_KReader_definition 18 = .ok (.iload_n 3, 1) := by decide +kernel
theorem d_KReader_definition_19 : decode b_KReader_definition 19 = .ok (.invokevirtual 333, 3) := by decide +kernel
theorem d_KReader_definition_22 : decode b_KReader_definition 22 = .ok (.invokevirtual 662, 3) := by decide +kernel
theorem d_KReader_definition_25 : decode b_KReader_definition 25 = .ok (.ireturn, 1) := by decide +kernel
/-- KReader_definition -/
def w_KReader_definition (L : Nat → Nat) (a1 : Int) (Q : Int → IS → Prop) (σ : IS) : Prop := w_KReader_name L a1 (fun v2 σ1 => w_KReader_spaces L v2 (fun v4 σ3 => w_KReader_typeAt L v4 (fun v6 σ5 => w_KReader_spaces L v6 (fun v8 σ7 => w_KReader_defaultAt L v8 (fun v10 σ9 => Q v10 σ9) σ7) σ5) σ3) σ1) σ
set_option maxHeartbeats 4000000 in
set_option maxRecDepth 20000 in
theorem s_KReader_definition {L : Nat → Nat} (hL : ∀ r, L r < 2147483648) {d : Nat} (hd : 8 ≤ d) {a1 : Int} {Q : Int → IS → Prop} {σ : IS}  (h : w_KReader_definition L a1 Q σ) : OkI BF L d 15 b_KReader_definition 4 1 0 [] [some (.inr 16), some (.inl a1)] σ (qi Q) := by
  unfold w_KReader_definition at h
  obtain ⟨d, rfl⟩ : ∃ e, d = e + 1 := ⟨d - 1, by omega⟩
  refine k_sb (lv' := [some (.inr 16), some (.inl a1), none, none]) (sb_s (sb_s (sb_e (sb_e sb_nil)))) ?_
  refine k_aload_n d_KReader_definition_0 rfl ?_
  refine k_iload_n d_KReader_definition_1 rfl ?_
  refine k_cvi [.inl a1] d_KReader_definition_2 ml_15_341 rfl rfl ob_16 rfl (s_KReader_name hL (by omega)  h) (fun v2 σ1 h => ?_)
  refine k_istore_n (lv' := [some (.inr 16), some (.inl a1), some (.inl v2), none]) d_KReader_definition_5 rfl rfl ?_
  refine k_aload_n d_KReader_definition_6 rfl ?_
  refine k_aload_n d_KReader_definition_7 rfl ?_
  refine k_iload_n d_KReader_definition_8 rfl ?_
  refine k_cvi [.inl v2] d_KReader_definition_9 ml_15_333 rfl rfl ob_16 rfl (s_KReader_spaces hL (by omega)  h) (fun v4 σ3 h => ?_)
  refine k_cvi [.inl v4] d_KReader_definition_12 ml_15_659 rfl rfl ob_16 rfl (s_KReader_typeAt hL (by omega)  h) (fun v6 σ5 h => ?_)
  refine k_istore_n (lv' := [some (.inr 16), some (.inl a1), some (.inl v2), some (.inl v6)]) d_KReader_definition_15 rfl rfl ?_
  refine k_aload_n d_KReader_definition_16 rfl ?_
  refine k_aload_n d_KReader_definition_17 rfl ?_
  refine k_iload_n d_KReader_definition_18 rfl ?_
  refine k_cvi [.inl v6] d_KReader_definition_19 ml_15_333 rfl rfl ob_16 rfl (s_KReader_spaces hL (by omega)  h) (fun v8 σ7 h => ?_)
  refine k_cvi [.inl v8] d_KReader_definition_22 ml_15_662 rfl rfl ob_16 rfl (s_KReader_defaultAt hL (by omega)  h) (fun v10 σ9 h => ?_)
  exact k_iret d_KReader_definition_25 (Or.inl rfl) h
theorem d_KReader_literal_0 : decode b_KReader_literal 0 = .ok (.iload_n 1, 1) := by decide +kernel
theorem d_KReader_literal_1 : decode b_KReader_literal 1 = .ok (.ifCond .lt 14, 3) := by decide +kernel
theorem d_KReader_literal_4 : decode b_KReader_literal 4 = .ok (.aload_n 0, 1) := by decide +kernel
theorem d_KReader_literal_5 : decode b_KReader_literal 5 = .ok (.iload_n 1, 1) := by decide +kernel
theorem d_KReader_literal_6 : decode b_KReader_literal 6 = .ok (.invokevirtual 282, 3) := by decide +kernel
theorem d_KReader_literal_9 : decode b_KReader_literal 9 = .ok (.invokestatic 310, 3) := by decide +kernel
theorem d_KReader_literal_12 : decode b_KReader_literal 12 = .ok (.ifCond .ne 5, 3) := by decide +kernel
theorem d_KReader_literal_15 : decode b_KReader_literal 15 = .ok (.iconst (-1), 1) := by decide +kernel
theorem d_KReader_literal_16 : decode b_KReader_literal 16 = .ok (.ireturn, 1) := by decide +kernel
theorem d_KReader_literal_17 : decode b_KReader_literal 17 = .ok (.iload_n 1, 1) := by decide +kernel
theorem d_KReader_literal_18 : decode b_KReader_literal 18 = .ok (.iconst 1, 1) := by decide +kernel
theorem d_KReader_literal_19 : decode b_KReader_literal 19 = .ok (.iadd, 1) := by decide +kernel
theorem d_KReader_literal_20 : decode b_KReader_literal 20 = .ok (.istore_n 2, 1) := by decide +kernel
theorem d_KReader_literal_21 : decode b_KReader_literal 21 = .ok (.iload_n 2, 1) := by decide +kernel
theorem d_KReader_literal_22 : decode b_KReader_literal 22 = .ok (.aload_n 0, 1) := by decide +kernel
theorem d_KReader_literal_23 : decode b_KReader_literal 23 = .ok (.getfield 273, 3) := by decide +kernel
theorem d_KReader_literal_26 : decode b_KReader_literal 26 = .ok (.if_icmp .ge 24, 3) := by decide +kernel
theorem d_KReader_literal_29 : decode b_KReader_literal 29 = .ok (.aload_n 0, 1) := by decide +kernel
theorem d_KReader_literal_30 : decode b_KReader_literal 30 = .ok (.getfield 45, 3) := by decide +kernel
theorem d_KReader_literal_33 : decode b_KReader_literal 33 = .ok (.iload_n 2, 1) := by decide +kernel
theorem d_KReader_literal_34 : decode b_KReader_literal 34 = .ok (.iaload, 1) := by decide +kernel
theorem d_KReader_literal_35 : decode b_KReader_literal 35 = .ok (.aload_n 0, 1) := by decide +kernel
theorem d_KReader_literal_36 : decode b_KReader_literal 36 = .ok (.getfield 45, 3) := by decide +kernel
theorem d_KReader_literal_39 : decode b_KReader_literal 39 = .ok (.iload_n 1, 1) := by decide +kernel
theorem d_KReader_literal_40 : decode b_KReader_literal 40 = .ok (.iaload, 1) := by decide +kernel
theorem d_KReader_literal_41 : decode b_KReader_literal 41 = .ok (.if_icmp .eq 9, 3) := by decide +kernel
theorem d_KReader_literal_44 : decode b_KReader_literal 44 = .ok (.iinc 2 1, 3) := by decide +kernel
theorem d_KReader_literal_47 : decode b_KReader_literal 47 = .ok (.goto (-26), 3) := by decide +kernel
theorem d_KReader_literal_50 : decode b_KReader_literal 50 = .ok (.iload_n 2, 1) := by decide +kernel
theorem d_KReader_literal_51 : decode b_KReader_literal 51 = .ok (.aload_n 0, 1) := by decide +kernel
theorem d_KReader_literal_52 : decode b_KReader_literal 52 = .ok (.getfield 273, 3) := by decide +kernel
theorem d_KReader_literal_55 : decode b_KReader_literal 55 = .ok (.if_icmp .ge 9, 3) := by decide +kernel
theorem d_KReader_literal_58 : decode b_KReader_literal 58 = .ok (.iload_n 2, 1) := by decide +kernel
theorem d_KReader_literal_59 : decode b_KReader_literal 59 = .ok (.iconst 1, 1) := by decide +kernel
theorem d_KReader_literal_60 : decode b_KReader_literal 60 = .ok (.iadd, 1) := by decide +kernel
theorem d_KReader_literal_61 : decode b_KReader_literal 61 = .ok (.goto 4, 3) := by decide +kernel
theorem d_KReader_literal_64 : decode b_KReader_literal 64 = .ok (.iconst (-1), 1) := by decide +kernel
theorem d_KReader_literal_65 : decode b_KReader_literal 65 = .ok (.ireturn, 1) := by decide +kernel
/-- KReader_literal -/
def w_KReader_literal (L : Nat → Nat) (a1 : Int) (Q : Int → IS → Prop) (σ : IS) : Prop := WJ (fun (s3 : Unit) (σ4 : IS) => Q (-1) σ4) (fun J1 => if a1 < 0 then J1 () σ else w_KReader_look L a1 (fun v7 σ6 => w_KReader_isQuote L v7 (fun v9 σ8 => if v9 = 0 then J1 () σ8 else inR (a1 + 1) ∧ WL (fun (K11 : Int → IS → Prop) (s13 : Int) (σ14 : IS) => ((s13 < (σ14.1 16 17) → (inL L 176 s13 ∧ inL L 176 a1))) ∧ if s13 < (σ14.1 16 17) ∧ (¬ (σ14.2 176 (Int.toNat s13)) = (σ14.2 176 (Int.toNat a1))) then inR (s13 + 1) ∧ K11 (s13 + 1) σ14 else ((s13 < (σ14.1 16 17) → inR (s13 + 1))) ∧ Q (if s13 < (σ14.1 16 17) then (s13 + 1) else ((-1) : Int)) σ14) (a1 + 1) σ8) σ6) σ)
set_option maxHeartbeats 4000000 in
set_option maxRecDepth 20000 in
theorem s_KReader_literal {L : Nat → Nat} (hL : ∀ r, L r < 2147483648) {d : Nat} (hd : 1 ≤ d) {a1 : Int} {Q : Int → IS → Prop} {σ : IS}  (h : w_KReader_literal L a1 Q σ) : OkI BF L d 15 b_KReader_literal 3 1 0 [] [some (.inr 16), some (.inl a1)] σ (qi Q) := by
  unfold w_KReader_literal at h
  obtain ⟨d, rfl⟩ : ∃ e, d = e + 1 := ⟨d - 1, by omega⟩
  refine k_sb (lv' := [some (.inr 16), some (.inl a1), none]) (sb_s (sb_s (sb_e sb_nil))) ?_
  refine k_iload_n d_KReader_literal_0 rfl ?_
  refine k_join (S := Unit) (pc' := 15) (st' := fun s3 => []) (lv' := fun s3 => [none, none, none]) (fun s3 σ4 h => ?_) (fun J1 hJ2 h => ?_) h
  · refine k_iconst d_KReader_literal_15 cI_m1 ?_
    exact k_iret d_KReader_literal_16 (Or.inl rfl) h
  · refine k_iflt d_KReader_literal_1 rfl (fun c5 => ?_) (fun c5 => ?_)
    · have h := ipos c5 h
      exact k_sb (sb_n (sb_n (sb_s sb_nil))) (hJ2 () _ h)
    · have h := ineg c5 h
      refine k_aload_n d_KReader_literal_4 rfl ?_
      refine k_iload_n d_KReader_literal_5 rfl ?_
      refine k_cvi [.inl a1] d_KReader_literal_6 ml_15_282 rfl rfl ob_16 rfl (s_KReader_look hL (by omega)  h) (fun v7 σ6 h => ?_)
      refine k_csi [.inl v7] d_KReader_literal_9 ml_15_310 (Or.inl rfl) rfl rfl rfl (s_KReader_isQuote hL (by omega)  h) (fun v9 σ8 h => ?_)
      refine k_ifne d_KReader_literal_12 rfl (fun c10 => ?_) (fun c10 => ?_)
      · have h := ineg c10 h
        refine k_iload_n d_KReader_literal_17 rfl ?_
        refine k_iconst d_KReader_literal_18 cI_1 ?_
        obtain ⟨p32, h⟩ := h
        refine k_iadd d_KReader_literal_19 p32 ?_
        refine k_istore_n (lv' := [some (.inr 16), some (.inl a1), some (.inl (a1 + 1))]) d_KReader_literal_20 rfl rfl ?_
        refine k_sb (lv' := [some (.inr 16), some (.inl a1), some (.inl (a1 + 1))]) (sb_s (sb_s (sb_s sb_nil))) ?_
        refine k_loop (S := Int) (st := fun _ => []) (lv := fun s13 => [some (.inr 16), some (.inl a1), some (.inl s13)]) (fun K11 hK12 s13 σ14 h => ?_) (a1 + 1) _ h
        refine k_iload_n d_KReader_literal_21 rfl ?_
        refine k_aload_n d_KReader_literal_22 rfl ?_
        refine k_getI (x := (σ14.1 16 17)) d_KReader_literal_23 fl_15_273 ob_16 rfl rfl ?_
        obtain ⟨pt28, h⟩ := h
        have hX25 : (s13 < (σ14.1 16 17) ∧ (¬ (σ14.2 176 (Int.toNat s13)) = (σ14.2 176 (Int.toNat a1)))) → OkI BF L (d + 1) 15 b_KReader_literal 3 1 44 [] [some (.inr 16), some (.inl a1), some (.inl s13)] σ14 (qi Q) := fun e27 => by
          have h := ipos e27 h
          obtain ⟨p17, h⟩ := h
          refine k_iinc (lv' := [some (.inr 16), some (.inl a1), some (.inl (s13 + 1))]) d_KReader_literal_44 cI_1 rfl rfl p17 rfl ?_
          refine k_goto d_KReader_literal_47 rfl ?_
          exact k_sb (sb_s (sb_s (sb_s sb_nil))) (hK12 (s13 + 1) _ h)
        have hY26 : ¬ (s13 < (σ14.1 16 17) ∧ (¬ (σ14.2 176 (Int.toNat s13)) = (σ14.2 176 (Int.toNat a1)))) → OkI BF L (d + 1) 15 b_KReader_literal 3 1 50 [] [some (.inr 16), some (.inl a1), some (.inl s13)] σ14 (qi Q) := fun e27 => by
          have h := ineg e27 h
          refine k_iload_n d_KReader_literal_50 rfl ?_
          refine k_aload_n d_KReader_literal_51 rfl ?_
          refine k_getI (x := (σ14.1 16 17)) d_KReader_literal_52 fl_15_273 ob_16 rfl rfl ?_
          obtain ⟨pt20, h⟩ := h
          have hV19 : OkI BF L (d + 1) 15 b_KReader_literal 3 1 65 [.inl (if s13 < (σ14.1 16 17) then (s13 + 1) else ((-1) : Int))] [some (.inr 16), some (.inl a1), some (.inl s13)] σ14 (qi Q) := by
            exact k_iret d_KReader_literal_65 (Or.inl rfl) h
          have pa21 := pt20
          refine k_icge d_KReader_literal_55 rfl (fun c22 => ?_) (fun c22 => ?_)
          · have hV24 := k_eqI (if_neg c22) hV19
            refine k_iconst d_KReader_literal_64 cI_m1 ?_
            exact hV24
          · have pa21 := pa21 c22
            have hV23 := k_eqI (if_pos c22) hV19
            have p18 := pa21
            refine k_iload_n d_KReader_literal_58 rfl ?_
            refine k_iconst d_KReader_literal_59 cI_1 ?_
            refine k_iadd d_KReader_literal_60 p18 ?_
            refine k_goto d_KReader_literal_61 rfl ?_
            exact hV23
        have pa29 := pt28
        refine k_icge d_KReader_literal_26 rfl (fun c30 => ?_) (fun c30 => ?_)
        · exact hY26 (fun z => c30 z.1)
        · have pa29 := pa29 c30
          obtain ⟨p15, p16⟩ := pa29
          refine k_aload_n d_KReader_literal_29 rfl ?_
          refine k_getR d_KReader_literal_30 fl_15_45 ob_16 rfl ?_
          refine k_iload_n d_KReader_literal_33 rfl ?_
          refine k_ild (x := (σ14.2 176 (Int.toNat s13))) d_KReader_literal_34 rI_176 p15 rfl ?_
          refine k_aload_n d_KReader_literal_35 rfl ?_
          refine k_getR d_KReader_literal_36 fl_15_45 ob_16 rfl ?_
          refine k_iload_n d_KReader_literal_39 rfl ?_
          refine k_ild (x := (σ14.2 176 (Int.toNat a1))) d_KReader_literal_40 rI_176 p16 rfl ?_
          refine k_iceq d_KReader_literal_41 rfl (fun c31 => ?_) (fun c31 => ?_)
          · exact hY26 (fun z => (fun z => z c31) z.2)
          · exact hX25 (⟨c30, c31⟩)
      · have h := ipos c10 h
        exact k_sb (sb_n (sb_n (sb_s sb_nil))) (hJ2 () _ h)
theorem d_KReader_meant_0 : decode b_KReader_meant 0 = .ok (.aload_n 0, 1) := by decide +kernel
theorem d_KReader_meant_1 : decode b_KReader_meant 1 = .ok (.iload_n 1, 1) := by decide +kernel
theorem d_KReader_meant_2 : decode b_KReader_meant 2 = .ok (.iconst 2, 1) := by decide +kernel
theorem d_KReader_meant_3 : decode b_KReader_meant 3 = .ok (.iadd, 1) := by decide +kernel
theorem d_KReader_meant_4 : decode b_KReader_meant 4 = .ok (.iaload, 1) := by decide +kernel
theorem d_KReader_meant_5 : decode b_KReader_meant 5 = .ok (.bipush 120, 2) := by decide +kernel
theorem d_KReader_meant_7 : decode b_KReader_meant 7 = .ok (.if_icmp .ne 7, 3) := by decide +kernel
theorem d_KReader_meant_10 : decode b_KReader_meant 10 = .ok (.iconst 1, 1) := by decide +kernel
theorem d_KReader_meant_11 : decode b_KReader_meant 11 = .ok (.goto 4, 3) := by decide +kernel
theorem d_KReader_meant_14 : decode b_KReader_meant 14 = .ok (.iconst 0, 1) := by decide +kernel
theorem d_KReader_meant_15 : decode b_KReader_meant 15 = .ok (.istore_n 2, 1) := by decide +kernel
theorem d_KReader_meant_16 : decode b_KReader_meant 16 = .ok (.iconst 0, 1) := by decide +kernel
theorem d_KReader_meant_17 : decode b_KReader_meant 17 = .ok (.istore_n 3, 1) := by decide +kernel
theorem d_KReader_meant_18 : decode b_KReader_meant 18 = .ok (.iload_n 2, 1) := by decide +kernel
theorem d_KReader_meant_19 : decode b_KReader_meant 19 = .ok (.ifCond .eq 9, 3) := by decide +kernel
theorem d_KReader_meant_22 : decode b_KReader_meant 22 = .ok (.iload_n 1, 1) := by decide +kernel
theorem d_KReader_meant_23 : decode b_KReader_meant 23 = .ok (.iconst 3, 1) := by decide +kernel
theorem d_KReader_meant_24 : decode b_KReader_meant 24 = .ok (.iadd, 1) := by decide +kernel
theorem d_KReader_meant_25 : decode b_KReader_meant 25 = .ok (.goto 6, 3) := by decide +kernel
theorem d_KReader_meant_28 : decode b_KReader_meant 28 = .ok (.iload_n 1, 1) := by decide +kernel
theorem d_KReader_meant_29 : decode b_KReader_meant 29 = .ok (.iconst 2, 1) := by decide +kernel
theorem d_KReader_meant_30 : decode b_KReader_meant 30 = .ok (.iadd, 1) := by decide +kernel
theorem d_KReader_meant_31 : decode b_KReader_meant 31 = .ok (.istore 4, 2) := by decide +kernel
theorem d_KReader_meant_33 : decode b_KReader_meant 33 = .ok (.aload_n 0, 1) := by decide +kernel
theorem d_KReader_meant_34 : decode b_KReader_meant 34 = .ok (.iload 4, 2) := by decide +kernel
theorem d_KReader_meant_36 : decode b_KReader_meant 36 = .ok (.iaload, 1) := by decide +kernel
theorem d_KReader_meant_37 : decode b_KReader_meant 37 = .ok (.bipush 59, 2) := by decide +kernel
theorem d_KReader_meant_39 : decode b_KReader_meant 39 = .ok (.if_icmp .eq 76, 3) := by decide +kernel
theorem d_KReader_meant_42 : decode b_KReader_meant 42 = .ok (.aload_n 0, 1) := by decide +kernel
theorem d_KReader_meant_43 : decode b_KReader_meant 43 = .ok (.iload 4, 2) := by decide +kernel
theorem d_KReader_meant_45 : decode b_KReader_meant 45 = .ok (.iaload, 1) := by decide +kernel
theorem d_KReader_meant_46 : decode b_KReader_meant 46 = .ok (.invokestatic 319, 3) := by decide +kernel
theorem d_KReader_meant_49 : decode b_KReader_meant 49 = .ok (.ifCond .eq 13, 3) := by decide +kernel
theorem d_KReader_meant_52 : decode b_KReader_meant 52 = .ok (.aload_n 0, 1) := by decide +kernel
theorem d_KReader_meant_53 : decode b_KReader_meant 53 = .ok (.iload 4, 2) := by decide +kernel
theorem d_KReader_meant_55 : decode b_KReader_meant 55 = .ok (.iaload, 1) := by decide +kernel
theorem d_KReader_meant_56 : decode b_KReader_meant 56 = .ok (.bipush 48, 2) := by decide +kernel
theorem d_KReader_meant_58 : decode b_KReader_meant 58 = .ok (.isub, 1) := by decide +kernel
theorem d_KReader_meant_59 : decode b_KReader_meant 59 = .ok (.goto 16, 3) := by decide +kernel
theorem d_KReader_meant_62 : decode b_KReader_meant 62 = .ok (.aload_n 0, 1) := by decide +kernel
theorem d_KReader_meant_63 : decode b_KReader_meant 63 = .ok (.iload 4, 2) := by decide +kernel
theorem d_KReader_meant_65 : decode b_KReader_meant 65 = .ok (.iaload, 1) := by decide +kernel
theorem d_KReader_meant_66 : decode b_KReader_meant 66 = .ok (.invokestatic 346, 3) := by decide +kernel
theorem d_KReader_meant_69 : decode b_KReader_meant 69 = .ok (.bipush 97, 2) := by decide +kernel
theorem d_KReader_meant_71 : decode b_KReader_meant 71 = .ok (.isub, 1) := by decide +kernel
theorem d_KReader_meant_72 : decode b_KReader_meant 72 = .ok (.bipush 10, 2) := by decide +kernel
theorem d_KReader_meant_74 : decode b_KReader_meant 74 = .ok (.iadd, 1) := by decide +kernel
theorem d_KReader_meant_75 : decode b_KReader_meant 75 = .ok (.istore 5, 2) := by decide +kernel
theorem d_KReader_meant_77 : decode b_KReader_meant 77 = .ok (.iload_n 3, 1) := by decide +kernel
theorem d_KReader_meant_78 : decode b_KReader_meant 78 = .ok (.iload_n 2, 1) := by decide +kernel
theorem d_KReader_meant_79 : decode b_KReader_meant 79 = .ok (.ifCond .eq 8, 3) := by decide +kernel
theorem d_KReader_meant_82 : decode b_KReader_meant 82 = .ok (.bipush 16, 2) := by decide +kernel
theorem d_KReader_meant_84 : decode b_KReader_meant 84 = .ok (.goto 5, 3) := by decide +kernel
theorem d_KReader_meant_87 : decode b_KReader_meant 87 = .ok (.bipush 10, 2) := by decide +kernel
theorem d_KReader_meant_89 : decode b_KReader_meant 89 = .ok (.imul, 1) := by decide +kernel
theorem d_KReader_meant_90 : decode b_KReader_meant 90 = .ok (.iload 5, 2) := by decide +kernel
theorem d_KReader_meant_92 : decode b_KReader_meant 92 = .ok (.iadd, 1) := by decide +kernel
theorem d_KReader_meant_93 : decode b_KReader_meant 93 = .ok (.istore_n 3, 1) := by decide +kernel
theorem d_KReader_meant_94 : decode b_KReader_meant 94 = .ok (.iload_n 3, 1) := by decide +kernel
theorem d_KReader_meant_95 : decode b_KReader_meant 95 = .ok (.ldc_w 349, 3) := by decide +kernel
theorem d_KReader_meant_98 : decode b_KReader_meant 98 = .ok (.if_icmp .le 9, 3) := by decide +kernel
theorem d_KReader_meant_101 : decode b_KReader_meant 101 = .ok (.ldc_w 349, 3) := by decide +kernel
theorem d_KReader_meant_104 : decode b_KReader_meant 104 = .ok (.goto 4, 3) := by decide +kernel
theorem d_KReader_meant_107 : decode b_KReader_meant 107 = .ok (.iload_n 3, 1) := by decide +kernel
theorem d_KReader_meant_108 : decode b_KReader_meant 108 = .ok (.istore_n 3, 1) := by decide +kernel
theorem d_KReader_meant_109 : decode b_KReader_meant 109 = .ok (.iinc 4 1, 3) := by decide +kernel
theorem d_KReader_meant_112 : decode b_KReader_meant 112 = .ok (.goto (-79), 3) := by decide +kernel
theorem d_KReader_meant_115 : decode b_KReader_meant 115 = .ok (.iload_n 3, 1) := by decide +kernel
theorem d_KReader_meant_116 : decode b_KReader_meant 116 = .ok (.invokestatic 251, 3) := by decide +kernel
theorem d_KReader_meant_119 : decode b_KReader_meant 119 = .ok (.ifCond .eq 7, 3) := by decide +kernel
theorem d_KReader_meant_122 : decode b_KReader_meant 122 = .ok (.iload_n 3, 1) := by decide +kernel
theorem d_KReader_meant_123 : decode b_KReader_meant 123 = .ok (.goto 4, 3) := by decide +kernel
theorem d_KReader_meant_126 : decode b_KReader_meant 126 = .ok (.iconst (-1), 1) := by decide +kernel
theorem d_KReader_meant_127 : decode b_KReader_meant 127 = .ok (.ireturn, 1) := by decide +kernel
/-- KReader_meant -/
def w_KReader_meant (L : Nat → Nat) (a0 : Nat) (a1 : Int) (Q : Int → IS → Prop) (σ : IS) : Prop := inR (a1 + 2) ∧ inL L a0 (a1 + 2) ∧ ((((if (σ.2 a0 (Int.toNat (a1 + 2))) = 120 then (1 : Int) else (0 : Int)) = 0 → inR (a1 + 2)) ∧ (¬ (if (σ.2 a0 (Int.toNat (a1 + 2))) = 120 then (1 : Int) else (0 : Int)) = 0 → inR (a1 + 3)))) ∧ WL (fun (K3 : Int × Int → IS → Prop) (s5 : Int × Int) (σ6 : IS) => inL L a0 s5.2 ∧ if (σ6.2 a0 (Int.toNat s5.2)) = 59 then w_K_isCharacter L s5.1 (fun v9 σ8 => Q (if v9 = 0 then ((-1) : Int) else s5.1) σ8) σ6 else inL L a0 s5.2 ∧ w_K_isDigit L (σ6.2 a0 (Int.toNat s5.2)) (fun v15 σ14 => WJ (fun (s18 : Int) (σ19 : IS) => inR (s5.1 * (if (if (σ.2 a0 (Int.toNat (a1 + 2))) = 120 then (1 : Int) else (0 : Int)) = 0 then (10 : Int) else (16 : Int))) ∧ inR ((s5.1 * (if (if (σ.2 a0 (Int.toNat (a1 + 2))) = 120 then (1 : Int) else (0 : Int)) = 0 then (10 : Int) else (16 : Int))) + s18) ∧ LETI (if 2000000 < ((s5.1 * (if (if (σ.2 a0 (Int.toNat (a1 + 2))) = 120 then (1 : Int) else (0 : Int)) = 0 then (10 : Int) else (16 : Int))) + s18) then (2000000 : Int) else ((s5.1 * (if (if (σ.2 a0 (Int.toNat (a1 + 2))) = 120 then (1 : Int) else (0 : Int)) = 0 then (10 : Int) else (16 : Int))) + s18)) (fun t20 => inR (s5.2 + 1) ∧ K3 (t20, (s5.2 + 1)) σ19)) (fun J16 => if v15 = 0 then inL L a0 s5.2 ∧ w_K_lower L (σ14.2 a0 (Int.toNat s5.2)) (fun v35 σ34 => inR (v35 - 97) ∧ inR ((v35 - 97) + 10) ∧ J16 ((v35 - 97) + 10) σ34) σ14 else inL L a0 s5.2 ∧ inR ((σ14.2 a0 (Int.toNat s5.2)) - 48) ∧ J16 ((σ14.2 a0 (Int.toNat s5.2)) - 48) σ14)) σ6) (0, (if (if (σ.2 a0 (Int.toNat (a1 + 2))) = 120 then (1 : Int) else (0 : Int)) = 0 then (a1 + 2) else (a1 + 3))) σ
set_option maxHeartbeats 4000000 in
set_option maxRecDepth 20000 in
theorem s_KReader_meant {L : Nat → Nat} (hL : ∀ r, L r < 2147483648) {d : Nat} (hd : 2 ≤ d) {a0 : Nat} {a1 : Int} {Q : Int → IS → Prop} {σ : IS} (ha0 : rwI BF a0) (h : w_KReader_meant L a0 a1 Q σ) : OkI BF L d 15 b_KReader_meant 6 1 0 [] [some (.inr a0), some (.inl a1)] σ (qi Q) := by
  unfold w_KReader_meant at h
  obtain ⟨d, rfl⟩ : ∃ e, d = e + 1 := ⟨d - 1, by omega⟩
  refine k_sb (lv' := [some (.inr a0), some (.inl a1), none, none, none, none]) (sb_s (sb_s (sb_e (sb_e (sb_e (sb_e sb_nil)))))) ?_
  refine k_aload_n d_KReader_meant_0 rfl ?_
  refine k_iload_n d_KReader_meant_1 rfl ?_
  refine k_iconst d_KReader_meant_2 cI_2 ?_
  obtain ⟨p55, h⟩ := h
  refine k_iadd d_KReader_meant_3 p55 ?_
  obtain ⟨p54, h⟩ := h
  refine k_ild (x := (σ.2 a0 (Int.toNat (a1 + 2)))) d_KReader_meant_4 ha0 p54 rfl ?_
  refine k_bipush d_KReader_meant_5 cB_120 ?_
  have hV50 : OkI BF L (d + 1) 15 b_KReader_meant 6 1 15 [.inl (if (σ.2 a0 (Int.toNat (a1 + 2))) = 120 then (1 : Int) else (0 : Int))] [some (.inr a0), some (.inl a1), none, none, none, none] σ (qi Q) := by
    refine k_istore_n (lv' := [some (.inr a0), some (.inl a1), some (.inl (if (σ.2 a0 (Int.toNat (a1 + 2))) = 120 then (1 : Int) else (0 : Int))), none, none, none]) d_KReader_meant_15 rfl rfl ?_
    refine k_iconst d_KReader_meant_16 cI_0 ?_
    refine k_istore_n (lv' := [some (.inr a0), some (.inl a1), some (.inl (if (σ.2 a0 (Int.toNat (a1 + 2))) = 120 then (1 : Int) else (0 : Int))), some (.inl 0), none, none]) d_KReader_meant_17 rfl rfl ?_
    refine k_iload_n d_KReader_meant_18 rfl ?_
    obtain ⟨pt44, h⟩ := h
    have hV43 : OkI BF L (d + 1) 15 b_KReader_meant 6 1 31 [.inl (if (if (σ.2 a0 (Int.toNat (a1 + 2))) = 120 then (1 : Int) else (0 : Int)) = 0 then (a1 + 2) else (a1 + 3))] [some (.inr a0), some (.inl a1), some (.inl (if (σ.2 a0 (Int.toNat (a1 + 2))) = 120 then (1 : Int) else (0 : Int))), some (.inl 0), none, none] σ (qi Q) := by
      refine k_istore (lv' := [some (.inr a0), some (.inl a1), some (.inl (if (σ.2 a0 (Int.toNat (a1 + 2))) = 120 then (1 : Int) else (0 : Int))), some (.inl 0), some (.inl (if (if (σ.2 a0 (Int.toNat (a1 + 2))) = 120 then (1 : Int) else (0 : Int)) = 0 then (a1 + 2) else (a1 + 3))), none]) d_KReader_meant_31 rfl rfl ?_
      refine k_sb (lv' := [some (.inr a0), none, some (.inl (if (σ.2 a0 (Int.toNat (a1 + 2))) = 120 then (1 : Int) else (0 : Int))), some (.inl 0), some (.inl (if (if (σ.2 a0 (Int.toNat (a1 + 2))) = 120 then (1 : Int) else (0 : Int)) = 0 then (a1 + 2) else (a1 + 3))), none]) (sb_s (sb_n (sb_s (sb_s (sb_s (sb_s sb_nil)))))) ?_
      refine k_loop (S := Int × Int) (st := fun _ => []) (lv := fun s5 => [some (.inr a0), none, some (.inl (if (σ.2 a0 (Int.toNat (a1 + 2))) = 120 then (1 : Int) else (0 : Int))), some (.inl s5.1), some (.inl s5.2), none]) (fun K3 hK4 s5 σ6 h => ?_) (0, (if (if (σ.2 a0 (Int.toNat (a1 + 2))) = 120 then (1 : Int) else (0 : Int)) = 0 then (a1 + 2) else (a1 + 3))) _ h
      refine k_aload_n d_KReader_meant_33 rfl ?_
      refine k_iload d_KReader_meant_34 rfl ?_
      obtain ⟨p42, h⟩ := h
      refine k_ild (x := (σ6.2 a0 (Int.toNat s5.2))) d_KReader_meant_36 ha0 p42 rfl ?_
      refine k_bipush d_KReader_meant_37 cB_59 ?_
      refine k_iceq d_KReader_meant_39 rfl (fun c7 => ?_) (fun c7 => ?_)
      · have h := ipos c7 h
        refine k_iload_n d_KReader_meant_115 rfl ?_
        refine k_csi [.inl s5.1] d_KReader_meant_116 ml_15_251 (Or.inr rfl) rfl rfl rfl (s_K_isCharacter hL (by omega)  h) (fun v9 σ8 h => ?_)
        have hV10 : OkI BF L (d + 1) 15 b_KReader_meant 6 1 127 [.inl (if v9 = 0 then ((-1) : Int) else s5.1)] [some (.inr a0), none, some (.inl (if (σ.2 a0 (Int.toNat (a1 + 2))) = 120 then (1 : Int) else (0 : Int))), some (.inl s5.1), some (.inl s5.2), none] σ8 (qi Q) := by
          exact k_iret d_KReader_meant_127 (Or.inl rfl) h
        refine k_ifeq d_KReader_meant_119 rfl (fun c11 => ?_) (fun c11 => ?_)
        · have hV12 := k_eqI (if_pos c11) hV10
          refine k_iconst d_KReader_meant_126 cI_m1 ?_
          exact hV12
        · have hV13 := k_eqI (if_neg c11) hV10
          refine k_iload_n d_KReader_meant_122 rfl ?_
          refine k_goto d_KReader_meant_123 rfl ?_
          exact hV13
      · have h := ineg c7 h
        refine k_aload_n d_KReader_meant_42 rfl ?_
        refine k_iload d_KReader_meant_43 rfl ?_
        obtain ⟨p41, h⟩ := h
        refine k_ild (x := (σ6.2 a0 (Int.toNat s5.2))) d_KReader_meant_45 ha0 p41 rfl ?_
        refine k_csi [.inl (σ6.2 a0 (Int.toNat s5.2))] d_KReader_meant_46 ml_15_319 (Or.inr rfl) rfl rfl rfl (s_K_isDigit hL (by omega)  h) (fun v15 σ14 h => ?_)
        refine k_join (S := Int) (pc' := 75) (st' := fun s18 => [.inl s18]) (lv' := fun s18 => [some (.inr a0), none, some (.inl (if (σ.2 a0 (Int.toNat (a1 + 2))) = 120 then (1 : Int) else (0 : Int))), some (.inl s5.1), some (.inl s5.2), none]) (fun s18 σ19 h => ?_) (fun J16 hJ17 h => ?_) h
        · refine k_istore (lv' := [some (.inr a0), none, some (.inl (if (σ.2 a0 (Int.toNat (a1 + 2))) = 120 then (1 : Int) else (0 : Int))), some (.inl s5.1), some (.inl s5.2), some (.inl s18)]) d_KReader_meant_75 rfl rfl ?_
          refine k_iload_n d_KReader_meant_77 rfl ?_
          refine k_iload_n d_KReader_meant_78 rfl ?_
          have hV29 : OkI BF L (d + 1) 15 b_KReader_meant 6 1 89 [.inl (if (if (σ.2 a0 (Int.toNat (a1 + 2))) = 120 then (1 : Int) else (0 : Int)) = 0 then (10 : Int) else (16 : Int)), .inl s5.1] [some (.inr a0), none, some (.inl (if (σ.2 a0 (Int.toNat (a1 + 2))) = 120 then (1 : Int) else (0 : Int))), some (.inl s5.1), some (.inl s5.2), some (.inl s18)] σ19 (qi Q) := by
            obtain ⟨p28, h⟩ := h
            refine k_imul d_KReader_meant_89 p28 ?_
            refine k_iload d_KReader_meant_90 rfl ?_
            obtain ⟨p27, h⟩ := h
            refine k_iadd d_KReader_meant_92 p27 ?_
            refine k_istore_n (lv' := [some (.inr a0), none, some (.inl (if (σ.2 a0 (Int.toNat (a1 + 2))) = 120 then (1 : Int) else (0 : Int))), some (.inl ((s5.1 * (if (if (σ.2 a0 (Int.toNat (a1 + 2))) = 120 then (1 : Int) else (0 : Int)) = 0 then (10 : Int) else (16 : Int))) + s18)), some (.inl s5.2), some (.inl s18)]) d_KReader_meant_93 rfl rfl ?_
            refine k_iload_n d_KReader_meant_94 rfl ?_
            refine k_ldcw d_KReader_meant_95 ks_15_349 cL_2000000 ?_
            have hV23 : OkI BF L (d + 1) 15 b_KReader_meant 6 1 108 [.inl (if 2000000 < ((s5.1 * (if (if (σ.2 a0 (Int.toNat (a1 + 2))) = 120 then (1 : Int) else (0 : Int)) = 0 then (10 : Int) else (16 : Int))) + s18) then (2000000 : Int) else ((s5.1 * (if (if (σ.2 a0 (Int.toNat (a1 + 2))) = 120 then (1 : Int) else (0 : Int)) = 0 then (10 : Int) else (16 : Int))) + s18))] [some (.inr a0), none, some (.inl (if (σ.2 a0 (Int.toNat (a1 + 2))) = 120 then (1 : Int) else (0 : Int))), some (.inl ((s5.1 * (if (if (σ.2 a0 (Int.toNat (a1 + 2))) = 120 then (1 : Int) else (0 : Int)) = 0 then (10 : Int) else (16 : Int))) + s18)), some (.inl s5.2), some (.inl s18)] σ19 (qi Q) := by
              refine k_letI (fun t20 ht21 h => ?_) h
              refine k_istore_n (lv' := [some (.inr a0), none, some (.inl (if (σ.2 a0 (Int.toNat (a1 + 2))) = 120 then (1 : Int) else (0 : Int))), some (.inl t20), some (.inl s5.2), some (.inl s18)]) d_KReader_meant_108 rfl rfl ?_
              obtain ⟨p22, h⟩ := h
              refine k_iinc (lv' := [some (.inr a0), none, some (.inl (if (σ.2 a0 (Int.toNat (a1 + 2))) = 120 then (1 : Int) else (0 : Int))), some (.inl t20), some (.inl (s5.2 + 1)), some (.inl s18)]) d_KReader_meant_109 cI_1 rfl rfl p22 rfl ?_
              refine k_goto d_KReader_meant_112 rfl ?_
              exact k_sb (sb_s (sb_s (sb_s (sb_s (sb_s (sb_n sb_nil)))))) (hK4 (t20, (s5.2 + 1)) _ h)
            refine k_icle d_KReader_meant_98 rfl (fun c24 => ?_) (fun c24 => ?_)
            · have hV26 := k_eqI (if_neg c24) hV23
              refine k_iload_n d_KReader_meant_107 rfl ?_
              exact hV26
            · have hV25 := k_eqI (if_pos c24) hV23
              refine k_ldcw d_KReader_meant_101 ks_15_349 cL_2000000 ?_
              refine k_goto d_KReader_meant_104 rfl ?_
              exact hV25
          refine k_ifeq d_KReader_meant_79 rfl (fun c30 => ?_) (fun c30 => ?_)
          · have hV31 := k_eqI (if_pos c30) hV29
            refine k_bipush d_KReader_meant_87 cB_10 ?_
            exact hV31
          · have hV32 := k_eqI (if_neg c30) hV29
            refine k_bipush d_KReader_meant_82 cB_16 ?_
            refine k_goto d_KReader_meant_84 rfl ?_
            exact hV32
        · refine k_ifeq d_KReader_meant_49 rfl (fun c33 => ?_) (fun c33 => ?_)
          · have h := ipos c33 h
            refine k_aload_n d_KReader_meant_62 rfl ?_
            refine k_iload d_KReader_meant_63 rfl ?_
            obtain ⟨p38, h⟩ := h
            refine k_ild (x := (σ14.2 a0 (Int.toNat s5.2))) d_KReader_meant_65 ha0 p38 rfl ?_
            refine k_csi [.inl (σ14.2 a0 (Int.toNat s5.2))] d_KReader_meant_66 ml_15_346 (Or.inr rfl) rfl rfl rfl (s_K_lower hL (by omega)  h) (fun v35 σ34 h => ?_)
            refine k_bipush d_KReader_meant_69 cB_97 ?_
            obtain ⟨p37, h⟩ := h
            refine k_isub d_KReader_meant_71 p37 ?_
            refine k_bipush d_KReader_meant_72 cB_10 ?_
            obtain ⟨p36, h⟩ := h
            refine k_iadd d_KReader_meant_74 p36 ?_
            exact k_sb (sb_s (sb_s (sb_s (sb_s (sb_s (sb_s sb_nil)))))) (hJ17 ((v35 - 97) + 10) _ h)
          · have h := ineg c33 h
            refine k_aload_n d_KReader_meant_52 rfl ?_
            refine k_iload d_KReader_meant_53 rfl ?_
            obtain ⟨p40, h⟩ := h
            refine k_ild (x := (σ14.2 a0 (Int.toNat s5.2))) d_KReader_meant_55 ha0 p40 rfl ?_
            refine k_bipush d_KReader_meant_56 cB_48 ?_
            obtain ⟨p39, h⟩ := h
            refine k_isub d_KReader_meant_58 p39 ?_
            refine k_goto d_KReader_meant_59 rfl ?_
            exact k_sb (sb_s (sb_s (sb_s (sb_s (sb_s (sb_s sb_nil)))))) (hJ17 ((σ14.2 a0 (Int.toNat s5.2)) - 48) _ h)
    obtain ⟨pa45, pb46⟩ := pt44
    refine k_ifeq d_KReader_meant_19 rfl (fun c47 => ?_) (fun c47 => ?_)
    · have pa45 := pa45 c47
      have hV48 := k_eqI (if_pos c47) hV43
      have p1 := pa45
      refine k_iload_n d_KReader_meant_28 rfl ?_
      refine k_iconst d_KReader_meant_29 cI_2 ?_
      refine k_iadd d_KReader_meant_30 p1 ?_
      exact hV48
    · have pb46 := pb46 c47
      have hV49 := k_eqI (if_neg c47) hV43
      have p2 := pb46
      refine k_iload_n d_KReader_meant_22 rfl ?_
      refine k_iconst d_KReader_meant_23 cI_3 ?_
      refine k_iadd d_KReader_meant_24 p2 ?_
      refine k_goto d_KReader_meant_25 rfl ?_
      exact hV49
  refine k_icne d_KReader_meant_7 rfl (fun c51 => ?_) (fun c51 => ?_)
  · have hV53 := k_eqI (if_neg c51) hV50
    refine k_iconst d_KReader_meant_14 cI_0 ?_
    exact hV53
  · have hV52 := k_eqI (if_pos c51) hV50
    refine k_iconst d_KReader_meant_10 cI_1 ?_
    refine k_goto d_KReader_meant_11 rfl ?_
    exact hV52
theorem d_KReader_isNamedSo_0 : decode b_KReader_isNamedSo 0 = .ok (.iconst 0, 1) := by decide +kernel
theorem d_KReader_isNamedSo_1 : decode b_KReader_isNamedSo 1 = .ok (.istore 4, 2) := by decide +kernel
theorem d_KReader_isNamedSo_3 : decode b_KReader_isNamedSo 3 = .ok (.iload 4, 2) := by decide +kernel
theorem d_KReader_isNamedSo_5 : decode b_KReader_isNamedSo 5 = .ok (.iload_n 2, 1) := by decide +kernel
theorem d_KReader_isNamedSo_6 : decode b_KReader_isNamedSo 6 = .ok (.if_icmp .ge 36, 3) := by decide +kernel
theorem d_KReader_isNamedSo_9 : decode b_KReader_isNamedSo 9 = .ok (.iload 4, 2) := by decide +kernel
theorem d_KReader_isNamedSo_11 : decode b_KReader_isNamedSo 11 = .ok (.aload_n 3, 1) := by decide +kernel
theorem d_KReader_isNamedSo_12 : decode b_KReader_isNamedSo 12 = .ok (.invokevirtual 276, 3) := by decide +kernel
theorem d_KReader_isNamedSo_15 : decode b_KReader_isNamedSo 15 = .ok (.if_icmp .ge 27, 3) := by decide +kernel
theorem d_KReader_isNamedSo_18 : decode b_KReader_isNamedSo 18 = .ok (.aload_n 0, 1) := by decide +kernel
theorem d_KReader_isNamedSo_19 : decode b_KReader_isNamedSo 19 = .ok (.getfield 45, 3) := by decide +kernel
theorem d_KReader_isNamedSo_22 : decode b_KReader_isNamedSo 22 = .ok (.iload_n 1, 1) := by decide +kernel
theorem d_KReader_isNamedSo_23 : decode b_KReader_isNamedSo 23 = .ok (.iload 4, 2) := by decide +kernel
theorem d_KReader_isNamedSo_25 : decode b_KReader_isNamedSo 25 = .ok (.iadd, 1) := by decide +kernel
theorem d_KReader_isNamedSo_26 : decode b_KReader_isNamedSo 26 = .ok (.iaload, 1) := by decide +kernel
theorem d_KReader_isNamedSo_27 : decode b_KReader_isNamedSo 27 = .ok (.aload_n 3, 1) := by decide +kernel
theorem d_KReader_isNamedSo_28 : decode b_KReader_isNamedSo 28 = .ok (.iload 4, 2) := by decide +kernel
theorem d_KReader_isNamedSo_30 : decode b_KReader_isNamedSo 30 = .ok (.invokevirtual 286, 3) := by decide +kernel
theorem d_KReader_isNamedSo_33 : decode b_KReader_isNamedSo 33 = .ok (.if_icmp .ne 9, 3) := by decide +kernel
theorem d_KReader_isNamedSo_36 : decode b_KReader_isNamedSo 36 = .ok (.iinc 4 1, 3) := by decide +kernel
theorem d_KReader_isNamedSo_39 : decode b_KReader_isNamedSo 39 = .ok (.goto (-36), 3) := by decide +kernel
theorem d_KReader_isNamedSo_42 : decode b_KReader_isNamedSo 42 = .ok (.iload 4, 2) := by decide +kernel
theorem d_KReader_isNamedSo_44 : decode b_KReader_isNamedSo 44 = .ok (.iload_n 2, 1) := by decide +kernel
theorem d_KReader_isNamedSo_45 : decode b_KReader_isNamedSo 45 = .ok (.if_icmp .ne 16, 3) := by decide +kernel
theorem d_KReader_isNamedSo_48 : decode b_KReader_isNamedSo 48 = .ok (.iload 4, 2) := by decide +kernel
theorem d_KReader_isNamedSo_50 : decode b_KReader_isNamedSo 50 = .ok (.aload_n 3, 1) := by decide +kernel
theorem d_KReader_isNamedSo_51 : decode b_KReader_isNamedSo 51 = .ok (.invokevirtual 276, 3) := by decide +kernel
theorem d_KReader_isNamedSo_54 : decode b_KReader_isNamedSo 54 = .ok (.if_icmp .ne 7, 3) := by decide +kernel
theorem d_KReader_isNamedSo_57 : decode b_KReader_isNamedSo 57 = .ok (.iconst 1, 1) := by decide +kernel
theorem d_KReader_isNamedSo_58 : decode b_KReader_isNamedSo 58 = .ok (.goto 4, 3) := by decide +kernel
theorem d_KReader_isNamedSo_61 : decode b_KReader_isNamedSo 61 = .ok (.iconst 0, 1) := by decide +kernel
theorem d_KReader_isNamedSo_62 : decode b_KReader_isNamedSo 62 = .ok (.ireturn, 1) := by decide +kernel
/-- KReader_isNamedSo -/
def w_KReader_isNamedSo (L : Nat → Nat) (a1 : Int) (a2 : Int) (a3 : Nat) (Q : Int → IS → Prop) (σ : IS) : Prop := WL (fun (K1 : Int → IS → Prop) (s3 : Int) (σ4 : IS) => ((s3 < a2 → (s3 < (tN a3) → (inR (a1 + s3) ∧ inL L 176 (a1 + s3) ∧ ((0 : Int) ≤ s3 ∧ s3 < tN a3))))) ∧ if s3 < a2 ∧ (s3 < (tN a3) ∧ ((σ4.2 176 (Int.toNat (a1 + s3))) = (tC a3 s3))) then inR (s3 + 1) ∧ K1 (s3 + 1) σ4 else Q (if s3 = a2 then (if s3 = (tN a3) then (1 : Int) else (0 : Int)) else (0 : Int)) σ4) 0 σ
set_option maxHeartbeats 4000000 in
set_option maxRecDepth 20000 in
theorem s_KReader_isNamedSo {L : Nat → Nat} (hL : ∀ r, L r < 2147483648) {d : Nat} (hd : 0 ≤ d) {a1 : Int} {a2 : Int} {a3 : Nat} {Q : Int → IS → Prop} {σ : IS} (ha3 : isT a3) (h : w_KReader_isNamedSo L a1 a2 a3 Q σ) : OkI BF L d 15 b_KReader_isNamedSo 5 2 0 [] [some (.inr 16), some (.inl a1), some (.inl a2), some (.inr a3)] σ (qi Q) := by
  unfold w_KReader_isNamedSo at h
  refine k_sb (lv' := [some (.inr 16), some (.inl a1), some (.inl a2), some (.inr a3), none]) (sb_s (sb_s (sb_s (sb_s (sb_e sb_nil))))) ?_
  refine k_iconst d_KReader_isNamedSo_0 cI_0 ?_
  refine k_istore (lv' := [some (.inr 16), some (.inl a1), some (.inl a2), some (.inr a3), some (.inl 0)]) d_KReader_isNamedSo_1 rfl rfl ?_
  refine k_sb (lv' := [some (.inr 16), some (.inl a1), some (.inl a2), some (.inr a3), some (.inl 0)]) (sb_s (sb_s (sb_s (sb_s (sb_s sb_nil))))) ?_
  refine k_loop (S := Int) (st := fun _ => []) (lv := fun s3 => [some (.inr 16), some (.inl a1), some (.inl a2), some (.inr a3), some (.inl s3)]) (fun K1 hK2 s3 σ4 h => ?_) 0 _ h
  refine k_iload d_KReader_isNamedSo_3 rfl ?_
  refine k_iload_n d_KReader_isNamedSo_5 rfl ?_
  obtain ⟨pt19, h⟩ := h
  have hX16 : (s3 < a2 ∧ (s3 < (tN a3) ∧ ((σ4.2 176 (Int.toNat (a1 + s3))) = (tC a3 s3)))) → OkI BF L d 15 b_KReader_isNamedSo 5 2 36 [] [some (.inr 16), some (.inl a1), some (.inl a2), some (.inr a3), some (.inl s3)] σ4 (qi Q) := fun e18 => by
    have h := ipos e18 h
    obtain ⟨p8, h⟩ := h
    refine k_iinc (lv' := [some (.inr 16), some (.inl a1), some (.inl a2), some (.inr a3), some (.inl (s3 + 1))]) d_KReader_isNamedSo_36 cI_1 rfl rfl p8 rfl ?_
    refine k_goto d_KReader_isNamedSo_39 rfl ?_
    exact k_sb (sb_s (sb_s (sb_s (sb_s (sb_s sb_nil))))) (hK2 (s3 + 1) _ h)
  have hY17 : ¬ (s3 < a2 ∧ (s3 < (tN a3) ∧ ((σ4.2 176 (Int.toNat (a1 + s3))) = (tC a3 s3)))) → OkI BF L d 15 b_KReader_isNamedSo 5 2 42 [] [some (.inr 16), some (.inl a1), some (.inl a2), some (.inr a3), some (.inl s3)] σ4 (qi Q) := fun e18 => by
    have h := ineg e18 h
    refine k_iload d_KReader_isNamedSo_42 rfl ?_
    refine k_iload_n d_KReader_isNamedSo_44 rfl ?_
    have hV9 : OkI BF L d 15 b_KReader_isNamedSo 5 2 62 [.inl (if s3 = a2 then (if s3 = (tN a3) then (1 : Int) else (0 : Int)) else (0 : Int))] [some (.inr 16), some (.inl a1), some (.inl a2), some (.inr a3), some (.inl s3)] σ4 (qi Q) := by
      exact k_iret d_KReader_isNamedSo_62 (Or.inr ⟨rfl, it01 (it01 (Or.inr rfl) (Or.inl rfl)) (Or.inl rfl)⟩) h
    refine k_icne d_KReader_isNamedSo_45 rfl (fun c10 => ?_) (fun c10 => ?_)
    · have hV15 := k_eqI (if_neg c10) hV9
      refine k_iconst d_KReader_isNamedSo_61 cI_0 ?_
      exact hV15
    · have hV11 := k_eqI (if_pos c10) hV9
      refine k_iload d_KReader_isNamedSo_48 rfl ?_
      refine k_aload_n d_KReader_isNamedSo_50 rfl ?_
      refine k_tlen d_KReader_isNamedSo_51 ml_15_276 ha3 rfl ?_
      refine k_icne d_KReader_isNamedSo_54 rfl (fun c12 => ?_) (fun c12 => ?_)
      · have hV14 := k_eqI (if_neg c12) hV11
        refine k_iconst d_KReader_isNamedSo_61 cI_0 ?_
        exact hV14
      · have hV13 := k_eqI (if_pos c12) hV11
        refine k_iconst d_KReader_isNamedSo_57 cI_1 ?_
        refine k_goto d_KReader_isNamedSo_58 rfl ?_
        exact hV13
  have pa20 := pt19
  refine k_icge d_KReader_isNamedSo_6 rfl (fun c21 => ?_) (fun c21 => ?_)
  · exact hY17 (fun z => c21 z.1)
  · have pa20 := pa20 c21
    have pa22 := pa20
    refine k_iload d_KReader_isNamedSo_9 rfl ?_
    refine k_aload_n d_KReader_isNamedSo_11 rfl ?_
    refine k_tlen d_KReader_isNamedSo_12 ml_15_276 ha3 rfl ?_
    refine k_icge d_KReader_isNamedSo_15 rfl (fun c23 => ?_) (fun c23 => ?_)
    · exact hY17 (fun z => (fun z => c23 z.1) z.2)
    · have pa22 := pa22 c23
      obtain ⟨p5, p6, p7⟩ := pa22
      refine k_aload_n d_KReader_isNamedSo_18 rfl ?_
      refine k_getR d_KReader_isNamedSo_19 fl_15_45 ob_16 rfl ?_
      refine k_iload_n d_KReader_isNamedSo_22 rfl ?_
      refine k_iload d_KReader_isNamedSo_23 rfl ?_
      refine k_iadd d_KReader_isNamedSo_25 p5 ?_
      refine k_ild (x := (σ4.2 176 (Int.toNat (a1 + s3)))) d_KReader_isNamedSo_26 rI_176 p6 rfl ?_
      refine k_aload_n d_KReader_isNamedSo_27 rfl ?_
      refine k_iload d_KReader_isNamedSo_28 rfl ?_
      refine k_tchr d_KReader_isNamedSo_30 ml_15_286 ha3 p7 rfl ?_
      refine k_icne d_KReader_isNamedSo_33 rfl (fun c24 => ?_) (fun c24 => ?_)
      · exact hY17 (fun z => (fun z => (c24) z.2) z.2)
      · exact hX16 (⟨c21, ⟨c23, c24⟩⟩)
theorem d_KReader_always_0 : decode b_KReader_always 0 = .ok (.aload_n 0, 1) := by decide +kernel
theorem d_KReader_always_1 : decode b_KReader_always 1 = .ok (.iload_n 1, 1) := by decide +kernel
theorem d_KReader_always_2 : decode b_KReader_always 2 = .ok (.iload_n 2, 1) := by decide +kernel
theorem d_KReader_always_3 : decode b_KReader_always 3 = .ok (.ldc_w 719, 3) := by decide +kernel
theorem d_KReader_always_6 : decode b_KReader_always 6 = .ok (.invokevirtual 721, 3) := by decide +kernel
theorem d_KReader_always_9 : decode b_KReader_always 9 = .ok (.ifCond .eq 8, 3) := by decide +kernel
theorem d_KReader_always_12 : decode b_KReader_always 12 = .ok (.bipush 60, 2) := by decide +kernel
theorem d_KReader_always_14 : decode b_KReader_always 14 = .ok (.goto 72, 3) := by decide +kernel
theorem d_KReader_always_17 : decode b_KReader_always 17 = .ok (.aload_n 0, 1) := by decide +kernel
theorem d_KReader_always_18 : decode b_KReader_always 18 = .ok (.iload_n 1, 1) := by decide +kernel
theorem d_KReader_always_19 : decode b_KReader_always 19 = .ok (.iload_n 2, 1) := by decide +kernel
theorem d_KReader_always_20 : decode b_KReader_always 20 = .ok (.ldc_w 724, 3) := by decide +kernel
theorem d_KReader_always_23 : decode b_KReader_always 23 = .ok (.invokevirtual 721, 3) := by decide +kernel
theorem d_KReader_always_26 : decode b_KReader_always 26 = .ok (.ifCond .eq 8, 3) := by decide +kernel
theorem d_KReader_always_29 : decode b_KReader_always 29 = .ok (.bipush 62, 2) := by decide +kernel
theorem d_KReader_always_31 : decode b_KReader_always 31 = .ok (.goto 55, 3) := by decide +kernel
theorem d_KReader_always_34 : decode b_KReader_always 34 = .ok (.aload_n 0, 1) := by decide +kernel
theorem d_KReader_always_35 : decode b_KReader_always 35 = .ok (.iload_n 1, 1) := by decide +kernel
theorem d_KReader_always_36 : decode b_KReader_always 36 = .ok (.iload_n 2, 1) := by decide +kernel
theorem d_KReader_always_37 : decode b_KReader_always 37 = .ok (.ldc_w 726, 3) := by decide +kernel
theorem d_KReader_always_40 : decode b_KReader_always 40 = .ok (.invokevirtual 721, 3) := by decide +kernel
theorem d_KReader_always_43 : decode b_KReader_always 43 = .ok (.ifCond .eq 8, 3) := by decide +kernel
theorem d_KReader_always_46 : decode b_KReader_always 46 = .ok (.bipush 38, 2) := by decide +kernel
theorem d_KReader_always_48 : decode b_KReader_always 48 = .ok (.goto 38, 3) := by decide +kernel
theorem d_KReader_always_51 : decode b_KReader_always 51 = .ok (.aload_n 0, 1) := by decide +kernel
theorem d_KReader_always_52 : decode b_KReader_always 52 = .ok (.iload_n 1, 1) := by decide +kernel
theorem d_KReader_always_53 : decode b_KReader_always 53 = .ok (.iload_n 2, 1) := by decide +kernel
theorem d_KReader_always_54 : decode b_KReader_always 54 = .ok (.ldc_w 728, 3) := by decide +kernel
theorem d_KReader_always_57 : decode b_KReader_always 57 = .ok (.invokevirtual 721, 3) := by decide +kernel
theorem d_KReader_always_60 : decode b_KReader_always 60 = .ok (.ifCond .eq 8, 3) := by decide +kernel
theorem d_KReader_always_63 : decode b_KReader_always 63 = .ok (.bipush 39, 2) := by decide +kernel
theorem d_KReader_always_65 : decode b_KReader_always 65 = .ok (.goto 21, 3) := by decide +kernel
theorem d_KReader_always_68 : decode b_KReader_always 68 = .ok (.aload_n 0, 1) := by decide +kernel
theorem d_KReader_always_69 : decode b_KReader_always 69 = .ok (.iload_n 1, 1) := by decide +kernel
theorem d_KReader_always_70 : decode b_KReader_always 70 = .ok (.iload_n 2, 1) := by decide +kernel
theorem d_KReader_always_71 : decode b_KReader_always 71 = .ok (.ldc_w 730, 3) := by decide +kernel
theorem d_KReader_always_74 : decode b_KReader_always 74 = .ok (.invokevirtual 721, 3) := by decide +kernel
theorem d_KReader_always_77 : decode b_KReader_always 77 = .ok (.ifCond .eq 8, 3) := by decide +kernel
theorem d_KReader_always_80 : decode b_KReader_always 80 = .ok (.bipush 34, 2) := by decide +kernel
theorem d_KReader_always_82 : decode b_KReader_always 82 = .ok (.goto 4, 3) := by decide +kernel
theorem d_KReader_always_85 : decode b_KReader_always 85 = .ok (.iconst (-1), 1) := by decide +kernel
theorem d_KReader_always_86 : decode b_KReader_always 86 = .ok (.ireturn, 1) := by decide +kernel
/-- KReader_always -/
def w_KReader_always (L : Nat → Nat) (a1 : Int) (a2 : Int) (Q : Int → IS → Prop) (σ : IS) : Prop := w_KReader_isNamedSo L a1 a2 1147 (fun v2 σ1 => WJ (fun (s5 : Int) (σ6 : IS) => Q s5 σ6) (fun J3 => if v2 = 0 then w_KReader_isNamedSo L a1 a2 1148 (fun v9 σ8 => if v9 = 0 then w_KReader_isNamedSo L a1 a2 1149 (fun v12 σ11 => if v12 = 0 then w_KReader_isNamedSo L a1 a2 1150 (fun v15 σ14 => if v15 = 0 then w_KReader_isNamedSo L a1 a2 1151 (fun v18 σ17 => J3 (if v18 = 0 then ((-1) : Int) else (34 : Int)) σ17) σ14 else J3 39 σ14) σ11 else J3 38 σ11) σ8 else J3 62 σ8) σ1 else J3 60 σ1)) σ
set_option maxHeartbeats 4000000 in
set_option maxRecDepth 20000 in
theorem s_KReader_always {L : Nat → Nat} (hL : ∀ r, L r < 2147483648) {d : Nat} (hd : 1 ≤ d) {a1 : Int} {a2 : Int} {Q : Int → IS → Prop} {σ : IS}  (h : w_KReader_always L a1 a2 Q σ) : OkI BF L d 15 b_KReader_always 3 1 0 [] [some (.inr 16), some (.inl a1), some (.inl a2)] σ (qi Q) := by
  unfold w_KReader_always at h
  obtain ⟨d, rfl⟩ : ∃ e, d = e + 1 := ⟨d - 1, by omega⟩
  refine k_sb (lv' := [some (.inr 16), some (.inl a1), some (.inl a2)]) (sb_s (sb_s (sb_s sb_nil))) ?_
  refine k_aload_n d_KReader_always_0 rfl ?_
  refine k_iload_n d_KReader_always_1 rfl ?_
  refine k_iload_n d_KReader_always_2 rfl ?_
  refine k_ldcw d_KReader_always_3 ks_15_719 rfl ?_
  refine k_cvi [.inl a1, .inl a2, .inr 1147] d_KReader_always_6 ml_15_721 rfl rfl ob_16 rfl (s_KReader_isNamedSo hL (by omega) it_1147 h) (fun v2 σ1 h => ?_)
  refine k_join (S := Int) (pc' := 86) (st' := fun s5 => [.inl s5]) (lv' := fun s5 => [none, none, none]) (fun s5 σ6 h => ?_) (fun J3 hJ4 h => ?_) h
  · exact k_iret d_KReader_always_86 (Or.inl rfl) h
  · refine k_ifeq d_KReader_always_9 rfl (fun c7 => ?_) (fun c7 => ?_)
    · have h := ipos c7 h
      refine k_aload_n d_KReader_always_17 rfl ?_
      refine k_iload_n d_KReader_always_18 rfl ?_
      refine k_iload_n d_KReader_always_19 rfl ?_
      refine k_ldcw d_KReader_always_20 ks_15_724 rfl ?_
      refine k_cvi [.inl a1, .inl a2, .inr 1148] d_KReader_always_23 ml_15_721 rfl rfl ob_16 rfl (s_KReader_isNamedSo hL (by omega) it_1148 h) (fun v9 σ8 h => ?_)
      refine k_ifeq d_KReader_always_26 rfl (fun c10 => ?_) (fun c10 => ?_)
      · have h := ipos c10 h
        refine k_aload_n d_KReader_always_34 rfl ?_
        refine k_iload_n d_KReader_always_35 rfl ?_
        refine k_iload_n d_KReader_always_36 rfl ?_
        refine k_ldcw d_KReader_always_37 ks_15_726 rfl ?_
        refine k_cvi [.inl a1, .inl a2, .inr 1149] d_KReader_always_40 ml_15_721 rfl rfl ob_16 rfl (s_KReader_isNamedSo hL (by omega) it_1149 h) (fun v12 σ11 h => ?_)
        refine k_ifeq d_KReader_always_43 rfl (fun c13 => ?_) (fun c13 => ?_)
        · have h := ipos c13 h
          refine k_aload_n d_KReader_always_51 rfl ?_
          refine k_iload_n d_KReader_always_52 rfl ?_
          refine k_iload_n d_KReader_always_53 rfl ?_
          refine k_ldcw d_KReader_always_54 ks_15_728 rfl ?_
          refine k_cvi [.inl a1, .inl a2, .inr 1150] d_KReader_always_57 ml_15_721 rfl rfl ob_16 rfl (s_KReader_isNamedSo hL (by omega) it_1150 h) (fun v15 σ14 h => ?_)
          refine k_ifeq d_KReader_always_60 rfl (fun c16 => ?_) (fun c16 => ?_)
          · have h := ipos c16 h
            refine k_aload_n d_KReader_always_68 rfl ?_
            refine k_iload_n d_KReader_always_69 rfl ?_
            refine k_iload_n d_KReader_always_70 rfl ?_
            refine k_ldcw d_KReader_always_71 ks_15_730 rfl ?_
            refine k_cvi [.inl a1, .inl a2, .inr 1151] d_KReader_always_74 ml_15_721 rfl rfl ob_16 rfl (s_KReader_isNamedSo hL (by omega) it_1151 h) (fun v18 σ17 h => ?_)
            have hV19 : OkI BF L (d + 1) 15 b_KReader_always 3 1 86 [.inl (if v18 = 0 then ((-1) : Int) else (34 : Int))] [some (.inr 16), some (.inl a1), some (.inl a2)] σ17 (qi Q) := by
              exact k_sb (sb_n (sb_n (sb_n sb_nil))) (hJ4 (if v18 = 0 then ((-1) : Int) else (34 : Int)) _ h)
            refine k_ifeq d_KReader_always_77 rfl (fun c20 => ?_) (fun c20 => ?_)
            · have hV21 := k_eqI (if_pos c20) hV19
              refine k_iconst d_KReader_always_85 cI_m1 ?_
              exact hV21
            · have hV22 := k_eqI (if_neg c20) hV19
              refine k_bipush d_KReader_always_80 cB_34 ?_
              refine k_goto d_KReader_always_82 rfl ?_
              exact hV22
          · have h := ineg c16 h
            refine k_bipush d_KReader_always_63 cB_39 ?_
            refine k_goto d_KReader_always_65 rfl ?_
            exact k_sb (sb_n (sb_n (sb_n sb_nil))) (hJ4 39 _ h)
        · have h := ineg c13 h
          refine k_bipush d_KReader_always_46 cB_38 ?_
          refine k_goto d_KReader_always_48 rfl ?_
          exact k_sb (sb_n (sb_n (sb_n sb_nil))) (hJ4 38 _ h)
      · have h := ineg c10 h
        refine k_bipush d_KReader_always_29 cB_62 ?_
        refine k_goto d_KReader_always_31 rfl ?_
        exact k_sb (sb_n (sb_n (sb_n sb_nil))) (hJ4 62 _ h)
    · have h := ineg c7 h
      refine k_bipush d_KReader_always_12 cB_60 ?_
      refine k_goto d_KReader_always_14 rfl ?_
      exact k_sb (sb_n (sb_n (sb_n sb_nil))) (hJ4 60 _ h)
theorem d_KReader_undeclared_0 : decode b_KReader_undeclared 0 = .ok (.aload_n 0, 1) := by decide +kernel
theorem d_KReader_undeclared_1 : decode b_KReader_undeclared 1 = .ok (.getfield 184, 3) := by decide +kernel
theorem d_KReader_undeclared_4 : decode b_KReader_undeclared 4 = .ok (.ifCond .eq 17, 3) := by decide +kernel
theorem d_KReader_undeclared_7 : decode b_KReader_undeclared 7 = .ok (.aload_n 0, 1) := by decide +kernel
theorem d_KReader_undeclared_8 : decode b_KReader_undeclared 8 = .ok (.getfield 188, 3) := by decide +kernel
theorem d_KReader_undeclared_11 : decode b_KReader_undeclared 11 = .ok (.ifCond .ne 10, 3) := by decide +kernel
theorem d_KReader_undeclared_14 : decode b_KReader_undeclared 14 = .ok (.aload_n 0, 1) := by decide +kernel
theorem d_KReader_undeclared_15 : decode b_KReader_undeclared 15 = .ok (.getfield 191, 3) := by decide +kernel
theorem d_KReader_undeclared_18 : decode b_KReader_undeclared 18 = .ok (.ifCond .ne 10, 3) := by decide +kernel
theorem d_KReader_undeclared_21 : decode b_KReader_undeclared 21 = .ok (.aload_n 0, 1) := by decide +kernel
theorem d_KReader_undeclared_22 : decode b_KReader_undeclared 22 = .ok (.bipush 9, 2) := by decide +kernel
theorem d_KReader_undeclared_24 : decode b_KReader_undeclared 24 = .ok (.invokevirtual 392, 3) := by decide +kernel
theorem d_KReader_undeclared_27 : decode b_KReader_undeclared 27 = .ok (.ireturn, 1) := by decide +kernel
theorem d_KReader_undeclared_28 : decode b_KReader_undeclared 28 = .ok (.aload_n 0, 1) := by decide +kernel
theorem d_KReader_undeclared_29 : decode b_KReader_undeclared 29 = .ok (.getfield 150, 3) := by decide +kernel
theorem d_KReader_undeclared_32 : decode b_KReader_undeclared 32 = .ok (.getfield 561, 3) := by decide +kernel
theorem d_KReader_undeclared_35 : decode b_KReader_undeclared 35 = .ok (.bipush 22, 2) := by decide +kernel
theorem d_KReader_undeclared_37 : decode b_KReader_undeclared 37 = .ok (.dup2, 1) := by decide +kernel
theorem d_KReader_undeclared_38 : decode b_KReader_undeclared 38 = .ok (.iaload, 1) := by decide +kernel
theorem d_KReader_undeclared_39 : decode b_KReader_undeclared 39 = .ok (.iconst 1, 1) := by decide +kernel
theorem d_KReader_undeclared_40 : decode b_KReader_undeclared 40 = .ok (.iadd, 1) := by decide +kernel
theorem d_KReader_undeclared_41 : decode b_KReader_undeclared 41 = .ok (.iastore, 1) := by decide +kernel
theorem d_KReader_undeclared_42 : decode b_KReader_undeclared 42 = .ok (.iconst 1, 1) := by decide +kernel
theorem d_KReader_undeclared_43 : decode b_KReader_undeclared 43 = .ok (.ireturn, 1) := by decide +kernel
/-- KReader_undeclared -/
def w_KReader_undeclared (L : Nat → Nat)  (Q : Int → IS → Prop) (σ : IS) : Prop := if ¬ (σ.1 16 20) = 0 ∧ ((σ.1 16 21) = 0 ∧ (¬ (σ.1 16 22) = 0)) then dyD (σ.1 16 2) ∧ inL L (rfo (Int.toNat (σ.1 16 2)) 18) 22 ∧ inR ((σ.2 (rfo (Int.toNat (σ.1 16 2)) 18) (Int.toNat 22)) + 1) ∧ inL L (rfo (Int.toNat (σ.1 16 2)) 18) 22 ∧ Q 1 (pr σ (rfo (Int.toNat (σ.1 16 2)) 18) (Int.toNat 22) ((σ.2 (rfo (Int.toNat (σ.1 16 2)) 18) (Int.toNat 22)) + 1)) else w_KReader_fail L 9 (fun v6 σ5 => is01 v6 ∧ Q v6 σ5) σ
set_option maxHeartbeats 4000000 in
set_option maxRecDepth 20000 in
theorem s_KReader_undeclared {L : Nat → Nat} (hL : ∀ r, L r < 2147483648) {d : Nat} (hd : 1 ≤ d)  {Q : Int → IS → Prop} {σ : IS}  (h : w_KReader_undeclared L  Q σ) : OkI BF L d 15 b_KReader_undeclared 1 2 0 [] [some (.inr 16)] σ (qi Q) := by
  unfold w_KReader_undeclared at h
  obtain ⟨d, rfl⟩ : ∃ e, d = e + 1 := ⟨d - 1, by omega⟩
  refine k_sb (lv' := [some (.inr 16)]) (sb_s sb_nil) ?_
  refine k_aload_n d_KReader_undeclared_0 rfl ?_
  refine k_getI (x := (σ.1 16 20)) d_KReader_undeclared_1 fl_15_184 ob_16 rfl rfl ?_
  have hX8 : (¬ (σ.1 16 20) = 0 ∧ ((σ.1 16 21) = 0 ∧ (¬ (σ.1 16 22) = 0))) → OkI BF L (d + 1) 15 b_KReader_undeclared 1 2 28 [] [some (.inr 16)] σ (qi Q) := fun e10 => by
    have h := ipos e10 h
    refine k_aload_n d_KReader_undeclared_28 rfl ?_
    obtain ⟨y1, h⟩ := h
    refine k_getD (x := (σ.1 16 2)) d_KReader_undeclared_29 fl_15_150 ob_16 rfl rfl (dyD_pos y1) ?_
    refine k_getR d_KReader_undeclared_32 fl_15_561 (doc_ob (dyD_doc y1)) (dfr_18 (dyD_doc y1)) ?_
    refine k_bipush d_KReader_undeclared_35 cB_22 ?_
    refine k_dup2 d_KReader_undeclared_37 ?_
    obtain ⟨p4, h⟩ := h
    refine k_ild (x := (σ.2 (rfo (Int.toNat (σ.1 16 2)) 18) (Int.toNat 22))) d_KReader_undeclared_38 (drI_18 (dyD_doc y1)) p4 rfl ?_
    refine k_iconst d_KReader_undeclared_39 cI_1 ?_
    obtain ⟨p3, h⟩ := h
    refine k_iadd d_KReader_undeclared_40 p3 ?_
    obtain ⟨p2, h⟩ := h
    refine k_ist d_KReader_undeclared_41 (drI_18 (dyD_doc y1)) p2 ?_
    refine k_iconst d_KReader_undeclared_42 cI_1 ?_
    exact k_iret d_KReader_undeclared_43 (Or.inr ⟨rfl, Or.inr rfl⟩) h
  have hY9 : ¬ (¬ (σ.1 16 20) = 0 ∧ ((σ.1 16 21) = 0 ∧ (¬ (σ.1 16 22) = 0))) → OkI BF L (d + 1) 15 b_KReader_undeclared 1 2 21 [] [some (.inr 16)] σ (qi Q) := fun e10 => by
    have h := ineg e10 h
    refine k_aload_n d_KReader_undeclared_21 rfl ?_
    refine k_bipush d_KReader_undeclared_22 cB_9 ?_
    refine k_cvi [.inl 9] d_KReader_undeclared_24 ml_15_392 rfl rfl ob_16 rfl (s_KReader_fail hL (by omega)  h) (fun v6 σ5 h => ?_)
    obtain ⟨p7, h⟩ := h
    exact k_iret d_KReader_undeclared_27 (Or.inr ⟨rfl, p7⟩) h
  refine k_ifeq d_KReader_undeclared_4 rfl (fun c11 => ?_) (fun c11 => ?_)
  · exact hY9 (fun z => z.1 c11)
  · refine k_aload_n d_KReader_undeclared_7 rfl ?_
    refine k_getI (x := (σ.1 16 21)) d_KReader_undeclared_8 fl_15_188 ob_16 rfl rfl ?_
    refine k_ifne d_KReader_undeclared_11 rfl (fun c12 => ?_) (fun c12 => ?_)
    · exact hY9 (fun z => (fun z => c12 z.1) z.2)
    · refine k_aload_n d_KReader_undeclared_14 rfl ?_
      refine k_getI (x := (σ.1 16 22)) d_KReader_undeclared_15 fl_15_191 ob_16 rfl rfl ?_
      refine k_ifne d_KReader_undeclared_18 rfl (fun c13 => ?_) (fun c13 => ?_)
      · exact hX8 (⟨c11, ⟨c12, c13⟩⟩)
      · exact hY9 (fun z => (fun z => (fun z => z c13) z.2) z.2)
theorem d_KReader_valueReference_0 : decode b_KReader_valueReference 0 = .ok (.aload_n 0, 1) := by decide +kernel
theorem d_KReader_valueReference_1 : decode b_KReader_valueReference 1 = .ok (.getfield 273, 3) := by decide +kernel
theorem d_KReader_valueReference_4 : decode b_KReader_valueReference 4 = .ok (.istore_n 3, 1) := by decide +kernel
theorem d_KReader_valueReference_5 : decode b_KReader_valueReference 5 = .ok (.aload_n 0, 1) := by decide +kernel
theorem d_KReader_valueReference_6 : decode b_KReader_valueReference 6 = .ok (.aload_n 0, 1) := by decide +kernel
theorem d_KReader_valueReference_7 : decode b_KReader_valueReference 7 = .ok (.getfield 144, 3) := by decide +kernel
theorem d_KReader_valueReference_10 : decode b_KReader_valueReference 10 = .ok (.iload_n 1, 1) := by decide +kernel
theorem d_KReader_valueReference_11 : decode b_KReader_valueReference 11 = .ok (.iaload, 1) := by decide +kernel
theorem d_KReader_valueReference_12 : decode b_KReader_valueReference 12 = .ok (.putfield 273, 3) := by decide +kernel
theorem d_KReader_valueReference_15 : decode b_KReader_valueReference 15 = .ok (.aload_n 0, 1) := by decide +kernel
theorem d_KReader_valueReference_16 : decode b_KReader_valueReference 16 = .ok (.iload_n 2, 1) := by decide +kernel
theorem d_KReader_valueReference_17 : decode b_KReader_valueReference 17 = .ok (.invokevirtual 350, 3) := by decide +kernel
theorem d_KReader_valueReference_20 : decode b_KReader_valueReference 20 = .ok (.istore 4, 2) := by decide +kernel
theorem d_KReader_valueReference_22 : decode b_KReader_valueReference 22 = .ok (.aload_n 0, 1) := by decide +kernel
theorem d_KReader_valueReference_23 : decode b_KReader_valueReference 23 = .ok (.iload_n 3, 1) := by decide +kernel
theorem d_KReader_valueReference_24 : decode b_KReader_valueReference 24 = .ok (.putfield 273, 3) := by decide +kernel
theorem d_KReader_valueReference_27 : decode b_KReader_valueReference 27 = .ok (.aload_n 0, 1) := by decide +kernel
theorem d_KReader_valueReference_28 : decode b_KReader_valueReference 28 = .ok (.iload 4, 2) := by decide +kernel
theorem d_KReader_valueReference_30 : decode b_KReader_valueReference 30 = .ok (.invokevirtual 437, 3) := by decide +kernel
theorem d_KReader_valueReference_33 : decode b_KReader_valueReference 33 = .ok (.ifCond .ne 7, 3) := by decide +kernel
theorem d_KReader_valueReference_36 : decode b_KReader_valueReference 36 = .ok (.iload_n 1, 1) := by decide +kernel
theorem d_KReader_valueReference_37 : decode b_KReader_valueReference 37 = .ok (.iconst 1, 1) := by decide +kernel
theorem d_KReader_valueReference_38 : decode b_KReader_valueReference 38 = .ok (.iadd, 1) := by decide +kernel
theorem d_KReader_valueReference_39 : decode b_KReader_valueReference 39 = .ok (.ireturn, 1) := by decide +kernel
theorem d_KReader_valueReference_40 : decode b_KReader_valueReference 40 = .ok (.aload_n 0, 1) := by decide +kernel
theorem d_KReader_valueReference_41 : decode b_KReader_valueReference 41 = .ok (.getfield 141, 3) := by decide +kernel
theorem d_KReader_valueReference_44 : decode b_KReader_valueReference 44 = .ok (.iload_n 1, 1) := by decide +kernel
theorem d_KReader_valueReference_45 : decode b_KReader_valueReference 45 = .ok (.iload 4, 2) := by decide +kernel
theorem d_KReader_valueReference_47 : decode b_KReader_valueReference 47 = .ok (.iastore, 1) := by decide +kernel
theorem d_KReader_valueReference_48 : decode b_KReader_valueReference 48 = .ok (.aload_n 0, 1) := by decide +kernel
theorem d_KReader_valueReference_49 : decode b_KReader_valueReference 49 = .ok (.getfield 45, 3) := by decide +kernel
theorem d_KReader_valueReference_52 : decode b_KReader_valueReference 52 = .ok (.iload_n 2, 1) := by decide +kernel
theorem d_KReader_valueReference_53 : decode b_KReader_valueReference 53 = .ok (.iconst 1, 1) := by decide +kernel
theorem d_KReader_valueReference_54 : decode b_KReader_valueReference 54 = .ok (.iadd, 1) := by decide +kernel
theorem d_KReader_valueReference_55 : decode b_KReader_valueReference 55 = .ok (.iaload, 1) := by decide +kernel
theorem d_KReader_valueReference_56 : decode b_KReader_valueReference 56 = .ok (.bipush 35, 2) := by decide +kernel
theorem d_KReader_valueReference_58 : decode b_KReader_valueReference 58 = .ok (.if_icmp .ne 14, 3) := by decide +kernel
theorem d_KReader_valueReference_61 : decode b_KReader_valueReference 61 = .ok (.aload_n 0, 1) := by decide +kernel
theorem d_KReader_valueReference_62 : decode b_KReader_valueReference 62 = .ok (.getfield 45, 3) := by decide +kernel
theorem d_KReader_valueReference_65 : decode b_KReader_valueReference 65 = .ok (.iload_n 2, 1) := by decide +kernel
theorem d_KReader_valueReference_66 : decode b_KReader_valueReference 66 = .ok (.invokestatic 692, 3) := by decide +kernel
theorem d_KReader_valueReference_69 : decode b_KReader_valueReference 69 = .ok (.goto 16, 3) := by decide +kernel
theorem d_KReader_valueReference_72 : decode b_KReader_valueReference 72 = .ok (.aload_n 0, 1) := by decide +kernel
theorem d_KReader_valueReference_73 : decode b_KReader_valueReference 73 = .ok (.iload_n 2, 1) := by decide +kernel
theorem d_KReader_valueReference_74 : decode b_KReader_valueReference 74 = .ok (.iconst 1, 1) := by decide +kernel
theorem d_KReader_valueReference_75 : decode b_KReader_valueReference 75 = .ok (.iadd, 1) := by decide +kernel
theorem d_KReader_valueReference_76 : decode b_KReader_valueReference 76 = .ok (.iload 4, 2) := by decide +kernel
theorem d_KReader_valueReference_78 : decode b_KReader_valueReference 78 = .ok (.iload_n 2, 1) := by decide +kernel
theorem d_KReader_valueReference_79 : decode b_KReader_valueReference 79 = .ok (.isub, 1) := by decide +kernel
theorem d_KReader_valueReference_80 : decode b_KReader_valueReference 80 = .ok (.iconst 2, 1) := by decide +kernel
theorem d_KReader_valueReference_81 : decode b_KReader_valueReference 81 = .ok (.isub, 1) := by decide +kernel
theorem d_KReader_valueReference_82 : decode b_KReader_valueReference 82 = .ok (.invokevirtual 732, 3) := by decide +kernel
theorem d_KReader_valueReference_85 : decode b_KReader_valueReference 85 = .ok (.istore 5, 2) := by decide +kernel
theorem d_KReader_valueReference_87 : decode b_KReader_valueReference 87 = .ok (.iload 5, 2) := by decide +kernel
theorem d_KReader_valueReference_89 : decode b_KReader_valueReference 89 = .ok (.ifCond .lt 16, 3) := by decide +kernel
theorem d_KReader_valueReference_92 : decode b_KReader_valueReference 92 = .ok (.aload_n 0, 1) := by decide +kernel
theorem d_KReader_valueReference_93 : decode b_KReader_valueReference 93 = .ok (.getfield 150, 3) := by decide +kernel
theorem d_KReader_valueReference_96 : decode b_KReader_valueReference 96 = .ok (.iload 5, 2) := by decide +kernel
theorem d_KReader_valueReference_98 : decode b_KReader_valueReference 98 = .ok (.invokevirtual 492, 3) := by decide +kernel
theorem d_KReader_valueReference_101 : decode b_KReader_valueReference 101 = .ok (.iload_n 1, 1) := by decide +kernel
theorem d_KReader_valueReference_102 : decode b_KReader_valueReference 102 = .ok (.iconst 1, 1) := by decide +kernel
theorem d_KReader_valueReference_103 : decode b_KReader_valueReference 103 = .ok (.iadd, 1) := by decide +kernel
theorem d_KReader_valueReference_104 : decode b_KReader_valueReference 104 = .ok (.ireturn, 1) := by decide +kernel
theorem d_KReader_valueReference_105 : decode b_KReader_valueReference 105 = .ok (.aload_n 0, 1) := by decide +kernel
theorem d_KReader_valueReference_106 : decode b_KReader_valueReference 106 = .ok (.getfield 45, 3) := by decide +kernel
theorem d_KReader_valueReference_109 : decode b_KReader_valueReference 109 = .ok (.iload_n 2, 1) := by decide +kernel
theorem d_KReader_valueReference_110 : decode b_KReader_valueReference 110 = .ok (.iconst 1, 1) := by decide +kernel
theorem d_KReader_valueReference_111 : decode b_KReader_valueReference 111 = .ok (.iadd, 1) := by decide +kernel
theorem d_KReader_valueReference_112 : decode b_KReader_valueReference 112 = .ok (.iaload, 1) := by decide +kernel
theorem d_KReader_valueReference_113 : decode b_KReader_valueReference 113 = .ok (.bipush 35, 2) := by decide +kernel
theorem d_KReader_valueReference_115 : decode b_KReader_valueReference 115 = .ok (.if_icmp .ne 14, 3) := by decide +kernel
theorem d_KReader_valueReference_118 : decode b_KReader_valueReference 118 = .ok (.aload_n 0, 1) := by decide +kernel
theorem d_KReader_valueReference_119 : decode b_KReader_valueReference 119 = .ok (.bipush 12, 2) := by decide +kernel
theorem d_KReader_valueReference_121 : decode b_KReader_valueReference 121 = .ok (.invokevirtual 392, 3) := by decide +kernel
theorem d_KReader_valueReference_124 : decode b_KReader_valueReference 124 = .ok (.pop, 1) := by decide +kernel
theorem d_KReader_valueReference_125 : decode b_KReader_valueReference 125 = .ok (.iload_n 1, 1) := by decide +kernel
theorem d_KReader_valueReference_126 : decode b_KReader_valueReference 126 = .ok (.iconst 1, 1) := by decide +kernel
theorem d_KReader_valueReference_127 : decode b_KReader_valueReference 127 = .ok (.iadd, 1) := by decide +kernel
theorem d_KReader_valueReference_128 : decode b_KReader_valueReference 128 = .ok (.ireturn, 1) := by decide +kernel
theorem d_KReader_valueReference_129 : decode b_KReader_valueReference 129 = .ok (.aload_n 0, 1) := by decide +kernel
theorem d_KReader_valueReference_130 : decode b_KReader_valueReference 130 = .ok (.aload_n 0, 1) := by decide +kernel
theorem d_KReader_valueReference_131 : decode b_KReader_valueReference 131 = .ok (.getfield 150, 3) := by decide +kernel
theorem d_KReader_valueReference_134 : decode b_KReader_valueReference 134 = .ok (.getfield 227, 3) := by decide +kernel
theorem d_KReader_valueReference_137 : decode b_KReader_valueReference 137 = .ok (.aload_n 0, 1) := by decide +kernel
theorem d_KReader_valueReference_138 : decode b_KReader_valueReference 138 = .ok (.getfield 45, 3) := by decide +kernel
theorem d_KReader_valueReference_141 : decode b_KReader_valueReference 141 = .ok (.iload_n 2, 1) := by decide +kernel
theorem d_KReader_valueReference_142 : decode b_KReader_valueReference 142 = .ok (.iconst 1, 1) := by decide +kernel
theorem d_KReader_valueReference_143 : decode b_KReader_valueReference 143 = .ok (.iadd, 1) := by decide +kernel
theorem d_KReader_valueReference_144 : decode b_KReader_valueReference 144 = .ok (.iload 4, 2) := by decide +kernel
theorem d_KReader_valueReference_146 : decode b_KReader_valueReference 146 = .ok (.iload_n 2, 1) := by decide +kernel
theorem d_KReader_valueReference_147 : decode b_KReader_valueReference 147 = .ok (.isub, 1) := by decide +kernel
theorem d_KReader_valueReference_148 : decode b_KReader_valueReference 148 = .ok (.iconst 2, 1) := by decide +kernel
theorem d_KReader_valueReference_149 : decode b_KReader_valueReference 149 = .ok (.isub, 1) := by decide +kernel
theorem d_KReader_valueReference_150 : decode b_KReader_valueReference 150 = .ok (.invokevirtual 529, 3) := by decide +kernel
theorem d_KReader_valueReference_153 : decode b_KReader_valueReference 153 = .ok (.iconst 0, 1) := by decide +kernel
theorem d_KReader_valueReference_154 : decode b_KReader_valueReference 154 = .ok (.invokevirtual 532, 3) := by decide +kernel
theorem d_KReader_valueReference_157 : decode b_KReader_valueReference 157 = .ok (.istore 6, 2) := by decide +kernel
theorem d_KReader_valueReference_159 : decode b_KReader_valueReference 159 = .ok (.iload 6, 2) := by decide +kernel
theorem d_KReader_valueReference_161 : decode b_KReader_valueReference 161 = .ok (.ifCond .ge 12, 3) := by decide +kernel
theorem d_KReader_valueReference_164 : decode b_KReader_valueReference 164 = .ok (.aload_n 0, 1) := by decide +kernel
theorem d_KReader_valueReference_165 : decode b_KReader_valueReference 165 = .ok (.invokevirtual 735, 3) := by decide +kernel
theorem d_KReader_valueReference_168 : decode b_KReader_valueReference 168 = .ok (.pop, 1) := by decide +kernel
theorem d_KReader_valueReference_169 : decode b_KReader_valueReference 169 = .ok (.iload_n 1, 1) := by decide +kernel
theorem d_KReader_valueReference_170 : decode b_KReader_valueReference 170 = .ok (.iconst 1, 1) := by decide +kernel
theorem d_KReader_valueReference_171 : decode b_KReader_valueReference 171 = .ok (.iadd, 1) := by decide +kernel
theorem d_KReader_valueReference_172 : decode b_KReader_valueReference 172 = .ok (.ireturn, 1) := by decide +kernel
theorem d_KReader_valueReference_173 : decode b_KReader_valueReference 173 = .ok (.aload_n 0, 1) := by decide +kernel
theorem d_KReader_valueReference_174 : decode b_KReader_valueReference 174 = .ok (.iload 6, 2) := by decide +kernel
theorem d_KReader_valueReference_176 : decode b_KReader_valueReference 176 = .ok (.invokevirtual 535, 3) := by decide +kernel
theorem d_KReader_valueReference_179 : decode b_KReader_valueReference 179 = .ok (.ifCond .ne 7, 3) := by decide +kernel
theorem d_KReader_valueReference_182 : decode b_KReader_valueReference 182 = .ok (.iload_n 1, 1) := by decide +kernel
theorem d_KReader_valueReference_183 : decode b_KReader_valueReference 183 = .ok (.iconst 1, 1) := by decide +kernel
theorem d_KReader_valueReference_184 : decode b_KReader_valueReference 184 = .ok (.iadd, 1) := by decide +kernel
theorem d_KReader_valueReference_185 : decode b_KReader_valueReference 185 = .ok (.ireturn, 1) := by decide +kernel
theorem d_KReader_valueReference_186 : decode b_KReader_valueReference 186 = .ok (.aload_n 0, 1) := by decide +kernel
theorem d_KReader_valueReference_187 : decode b_KReader_valueReference 187 = .ok (.getfield 75, 3) := by decide +kernel
theorem d_KReader_valueReference_190 : decode b_KReader_valueReference 190 = .ok (.iload 6, 2) := by decide +kernel
theorem d_KReader_valueReference_192 : decode b_KReader_valueReference 192 = .ok (.iconst 1, 1) := by decide +kernel
theorem d_KReader_valueReference_193 : decode b_KReader_valueReference 193 = .ok (.bastore, 1) := by decide +kernel
theorem d_KReader_valueReference_194 : decode b_KReader_valueReference 194 = .ok (.aload_n 0, 1) := by decide +kernel
theorem d_KReader_valueReference_195 : decode b_KReader_valueReference 195 = .ok (.getfield 141, 3) := by decide +kernel
theorem d_KReader_valueReference_198 : decode b_KReader_valueReference 198 = .ok (.iload_n 1, 1) := by decide +kernel
theorem d_KReader_valueReference_199 : decode b_KReader_valueReference 199 = .ok (.iconst 1, 1) := by decide +kernel
theorem d_KReader_valueReference_200 : decode b_KReader_valueReference 200 = .ok (.iadd, 1) := by decide +kernel
theorem d_KReader_valueReference_201 : decode b_KReader_valueReference 201 = .ok (.aload_n 0, 1) := by decide +kernel
theorem d_KReader_valueReference_202 : decode b_KReader_valueReference 202 = .ok (.getfield 69, 3) := by decide +kernel
theorem d_KReader_valueReference_205 : decode b_KReader_valueReference 205 = .ok (.iload 6, 2) := by decide +kernel
theorem d_KReader_valueReference_207 : decode b_KReader_valueReference 207 = .ok (.iaload, 1) := by decide +kernel
theorem d_KReader_valueReference_208 : decode b_KReader_valueReference 208 = .ok (.iastore, 1) := by decide +kernel
theorem d_KReader_valueReference_209 : decode b_KReader_valueReference 209 = .ok (.aload_n 0, 1) := by decide +kernel
theorem d_KReader_valueReference_210 : decode b_KReader_valueReference 210 = .ok (.getfield 144, 3) := by decide +kernel
theorem d_KReader_valueReference_213 : decode b_KReader_valueReference 213 = .ok (.iload_n 1, 1) := by decide +kernel
theorem d_KReader_valueReference_214 : decode b_KReader_valueReference 214 = .ok (.iconst 1, 1) := by decide +kernel
theorem d_KReader_valueReference_215 : decode b_KReader_valueReference 215 = .ok (.iadd, 1) := by decide +kernel
theorem d_KReader_valueReference_216 : decode b_KReader_valueReference 216 = .ok (.aload_n 0, 1) := by decide +kernel
theorem d_KReader_valueReference_217 : decode b_KReader_valueReference 217 = .ok (.getfield 69, 3) := by decide +kernel
theorem d_KReader_valueReference_220 : decode b_KReader_valueReference 220 = .ok (.iload 6, 2) := by decide +kernel
theorem d_KReader_valueReference_222 : decode b_KReader_valueReference 222 = .ok (.iaload, 1) := by decide +kernel
theorem d_KReader_valueReference_223 : decode b_KReader_valueReference 223 = .ok (.aload_n 0, 1) := by decide +kernel
theorem d_KReader_valueReference_224 : decode b_KReader_valueReference 224 = .ok (.getfield 72, 3) := by decide +kernel
theorem d_KReader_valueReference_227 : decode b_KReader_valueReference 227 = .ok (.iload 6, 2) := by decide +kernel
theorem d_KReader_valueReference_229 : decode b_KReader_valueReference 229 = .ok (.iaload, 1) := by decide +kernel
theorem d_KReader_valueReference_230 : decode b_KReader_valueReference 230 = .ok (.iadd, 1) := by decide +kernel
theorem d_KReader_valueReference_231 : decode b_KReader_valueReference 231 = .ok (.iastore, 1) := by decide +kernel
theorem d_KReader_valueReference_232 : decode b_KReader_valueReference 232 = .ok (.aload_n 0, 1) := by decide +kernel
theorem d_KReader_valueReference_233 : decode b_KReader_valueReference 233 = .ok (.getfield 147, 3) := by decide +kernel
theorem d_KReader_valueReference_236 : decode b_KReader_valueReference 236 = .ok (.iload_n 1, 1) := by decide +kernel
theorem d_KReader_valueReference_237 : decode b_KReader_valueReference 237 = .ok (.iconst 1, 1) := by decide +kernel
theorem d_KReader_valueReference_238 : decode b_KReader_valueReference 238 = .ok (.iadd, 1) := by decide +kernel
theorem d_KReader_valueReference_239 : decode b_KReader_valueReference 239 = .ok (.iload 6, 2) := by decide +kernel
theorem d_KReader_valueReference_241 : decode b_KReader_valueReference 241 = .ok (.iastore, 1) := by decide +kernel
theorem d_KReader_valueReference_242 : decode b_KReader_valueReference 242 = .ok (.iload_n 1, 1) := by decide +kernel
theorem d_KReader_valueReference_243 : decode b_KReader_valueReference 243 = .ok (.iconst 2, 1) := by decide +kernel
theorem d_KReader_valueReference_244 : decode b_KReader_valueReference 244 = .ok (.iadd, 1) := by decide +kernel
theorem d_KReader_valueReference_245 : decode b_KReader_valueReference 245 = .ok (.ireturn, 1) := by decide +kernel
/-- KReader_valueReference -/
def w_KReader_valueReference (L : Nat → Nat) (a1 : Int) (a2 : Int) (Q : Int → IS → Prop) (σ : IS) : Prop := inL L 209 a1 ∧ w_KReader_reference L a2 (fun v2 σ1 => w_KReader_written L v2 (fun v4 σ3 => if v4 = 0 then inR (a1 + 1) ∧ Q (a1 + 1) σ3 else inL L 208 a1 ∧ inR (a2 + 1) ∧ inL L 176 (a2 + 1) ∧ WJ (fun (s8 : Int) (σ9 : IS) => if s8 < 0 then inR (a2 + 1) ∧ inL L 176 (a2 + 1) ∧ if (σ9.2 176 (Int.toNat (a2 + 1))) = 35 then w_KReader_fail L 12 (fun v41 σ40 => inR (a1 + 1) ∧ Q (a1 + 1) σ40) σ9 else dyD (σ9.1 16 2) ∧ inR (a2 + 1) ∧ inR (v2 - a2) ∧ inR ((v2 - a2) - 2) ∧ w_KBook_find L 176 (a2 + 1) ((v2 - a2) - 2) (fun v14 σ13 => w_KReader_entityOf L v14 0 (fun v16 σ15 => if v16 < 0 then w_KReader_undeclared L  (fun v35 σ34 => inR (a1 + 1) ∧ Q (a1 + 1) σ34) σ15 else w_KReader_fits L v16 (fun v19 σ18 => if v19 = 0 then inR (a1 + 1) ∧ Q (a1 + 1) σ18 else inL L 186 v16 ∧ inR (a1 + 1) ∧ inL L 184 v16 ∧ inL L 208 (a1 + 1) ∧ inR (a1 + 1) ∧ inL L 184 v16 ∧ inL L 185 v16 ∧ inR ((σ18.2 184 (Int.toNat v16)) + (σ18.2 185 (Int.toNat v16))) ∧ inL L 209 (a1 + 1) ∧ inR (a1 + 1) ∧ inL L 210 (a1 + 1) ∧ inR (a1 + 2) ∧ Q (a1 + 2) (pr (pr (pr (pr σ18 186 (Int.toNat v16) 1) 208 (Int.toNat (a1 + 1)) (σ18.2 184 (Int.toNat v16))) 209 (Int.toNat (a1 + 1)) ((σ18.2 184 (Int.toNat v16)) + (σ18.2 185 (Int.toNat v16)))) 210 (Int.toNat (a1 + 1)) v16)) σ15) σ13) σ9 else dyD (σ9.1 16 2) ∧ w_KDoc_add L (Int.toNat (σ9.1 16 2)) s8 (fun σ46 => inR (a1 + 1) ∧ Q (a1 + 1) σ46) σ9) (fun J6 => if (σ3.2 176 (Int.toNat (a2 + 1))) = 35 then w_KReader_meant L 176 a2 (fun v56 σ55 => J6 v56 σ55) (pr σ3 208 (Int.toNat a1) v2) else inR (a2 + 1) ∧ inR (v2 - a2) ∧ inR ((v2 - a2) - 2) ∧ w_KReader_always L (a2 + 1) ((v2 - a2) - 2) (fun v51 σ50 => J6 v51 σ50) (pr σ3 208 (Int.toNat a1) v2))) (pf σ1 16 17 (σ.1 16 17))) (pf σ 16 17 (σ.2 209 (Int.toNat a1)))
set_option maxHeartbeats 4000000 in
set_option maxRecDepth 20000 in
theorem s_KReader_valueReference {L : Nat → Nat} (hL : ∀ r, L r < 2147483648) {d : Nat} (hd : 6 ≤ d) {a1 : Int} {a2 : Int} {Q : Int → IS → Prop} {σ : IS}  (h : w_KReader_valueReference L a1 a2 Q σ) : OkI BF L d 15 b_KReader_valueReference 7 1 0 [] [some (.inr 16), some (.inl a1), some (.inl a2)] σ (qi Q) := by
  unfold w_KReader_valueReference at h
  obtain ⟨d, rfl⟩ : ∃ e, d = e + 1 := ⟨d - 1, by omega⟩
  refine k_sb (lv' := [some (.inr 16), some (.inl a1), some (.inl a2), none, none, none, none]) (sb_s (sb_s (sb_s (sb_e (sb_e (sb_e (sb_e sb_nil))))))) ?_
  refine k_aload_n d_KReader_valueReference_0 rfl ?_
  refine k_getI (x := (σ.1 16 17)) d_KReader_valueReference_1 fl_15_273 ob_16 rfl rfl ?_
  refine k_istore_n (lv' := [some (.inr 16), some (.inl a1), some (.inl a2), some (.inl (σ.1 16 17)), none, none, none]) d_KReader_valueReference_4 rfl rfl ?_
  refine k_aload_n d_KReader_valueReference_5 rfl ?_
  refine k_aload_n d_KReader_valueReference_6 rfl ?_
  refine k_getR d_KReader_valueReference_7 fl_15_144 ob_16 rfl ?_
  refine k_iload_n d_KReader_valueReference_10 rfl ?_
  obtain ⟨p61, h⟩ := h
  refine k_ild (x := (σ.2 209 (Int.toNat a1))) d_KReader_valueReference_11 rI_209 p61 rfl ?_
  refine k_putI d_KReader_valueReference_12 fl_15_273 ob_16 rfl ?_
  refine k_aload_n d_KReader_valueReference_15 rfl ?_
  refine k_iload_n d_KReader_valueReference_16 rfl ?_
  refine k_cvi [.inl a2] d_KReader_valueReference_17 ml_15_350 rfl rfl ob_16 rfl (s_KReader_reference hL (by omega)  h) (fun v2 σ1 h => ?_)
  refine k_istore (lv' := [some (.inr 16), some (.inl a1), some (.inl a2), some (.inl (σ.1 16 17)), some (.inl v2), none, none]) d_KReader_valueReference_20 rfl rfl ?_
  refine k_aload_n d_KReader_valueReference_22 rfl ?_
  refine k_iload_n d_KReader_valueReference_23 rfl ?_
  refine k_putI d_KReader_valueReference_24 fl_15_273 ob_16 rfl ?_
  refine k_aload_n d_KReader_valueReference_27 rfl ?_
  refine k_iload d_KReader_valueReference_28 rfl ?_
  refine k_cvi [.inl v2] d_KReader_valueReference_30 ml_15_437 rfl rfl ob_16 rfl (s_KReader_written hL (by omega)  h) (fun v4 σ3 h => ?_)
  refine k_ifne d_KReader_valueReference_33 rfl (fun c5 => ?_) (fun c5 => ?_)
  · have h := ineg c5 h
    refine k_aload_n d_KReader_valueReference_40 rfl ?_
    refine k_getR d_KReader_valueReference_41 fl_15_141 ob_16 rfl ?_
    refine k_iload_n d_KReader_valueReference_44 rfl ?_
    refine k_iload d_KReader_valueReference_45 rfl ?_
    obtain ⟨p59, h⟩ := h
    refine k_ist d_KReader_valueReference_47 rI_208 p59 ?_
    refine k_aload_n d_KReader_valueReference_48 rfl ?_
    refine k_getR d_KReader_valueReference_49 fl_15_45 ob_16 rfl ?_
    refine k_iload_n d_KReader_valueReference_52 rfl ?_
    refine k_iconst d_KReader_valueReference_53 cI_1 ?_
    obtain ⟨p58, h⟩ := h
    refine k_iadd d_KReader_valueReference_54 p58 ?_
    obtain ⟨p57, h⟩ := h
    refine k_ild (x := (σ3.2 176 (Int.toNat (a2 + 1)))) d_KReader_valueReference_55 rI_176 p57 rfl ?_
    refine k_bipush d_KReader_valueReference_56 cB_35 ?_
    refine k_join (S := Int) (pc' := 85) (st' := fun s8 => [.inl s8]) (lv' := fun s8 => [some (.inr 16), some (.inl a1), some (.inl a2), none, some (.inl v2), none, none]) (fun s8 σ9 h => ?_) (fun J6 hJ7 h => ?_) h
    · refine k_istore (lv' := [some (.inr 16), some (.inl a1), some (.inl a2), none, some (.inl v2), some (.inl s8), none]) d_KReader_valueReference_85 rfl rfl ?_
      refine k_iload d_KReader_valueReference_87 rfl ?_
      refine k_iflt d_KReader_valueReference_89 rfl (fun c10 => ?_) (fun c10 => ?_)
      · have h := ipos c10 h
        refine k_aload_n d_KReader_valueReference_105 rfl ?_
        refine k_getR d_KReader_valueReference_106 fl_15_45 ob_16 rfl ?_
        refine k_iload_n d_KReader_valueReference_109 rfl ?_
        refine k_iconst d_KReader_valueReference_110 cI_1 ?_
        obtain ⟨p44, h⟩ := h
        refine k_iadd d_KReader_valueReference_111 p44 ?_
        obtain ⟨p43, h⟩ := h
        refine k_ild (x := (σ9.2 176 (Int.toNat (a2 + 1)))) d_KReader_valueReference_112 rI_176 p43 rfl ?_
        refine k_bipush d_KReader_valueReference_113 cB_35 ?_
        refine k_icne d_KReader_valueReference_115 rfl (fun c11 => ?_) (fun c11 => ?_)
        · have h := ineg c11 h
          refine k_aload_n d_KReader_valueReference_129 rfl ?_
          refine k_aload_n d_KReader_valueReference_130 rfl ?_
          obtain ⟨y12, h⟩ := h
          refine k_getD (x := (σ9.1 16 2)) d_KReader_valueReference_131 fl_15_150 ob_16 rfl rfl (dyD_pos y12) ?_
          refine k_getR d_KReader_valueReference_134 fl_15_227 (doc_ob (dyD_doc y12)) (dfr_0 (dyD_doc y12)) ?_
          refine k_aload_n d_KReader_valueReference_137 rfl ?_
          refine k_getR d_KReader_valueReference_138 fl_15_45 ob_16 rfl ?_
          refine k_iload_n d_KReader_valueReference_141 rfl ?_
          refine k_iconst d_KReader_valueReference_142 cI_1 ?_
          obtain ⟨p39, h⟩ := h
          refine k_iadd d_KReader_valueReference_143 p39 ?_
          refine k_iload d_KReader_valueReference_144 rfl ?_
          refine k_iload_n d_KReader_valueReference_146 rfl ?_
          obtain ⟨p38, h⟩ := h
          refine k_isub d_KReader_valueReference_147 p38 ?_
          refine k_iconst d_KReader_valueReference_148 cI_2 ?_
          obtain ⟨p37, h⟩ := h
          refine k_isub d_KReader_valueReference_149 p37 ?_
          refine k_cvi [.inr 176, .inl (a2 + 1), .inl ((v2 - a2) - 2)] d_KReader_valueReference_150 ml_15_529 rfl rfl ob_13 rfl (s_KBook_find hL (by omega) rI_176 h) (fun v14 σ13 h => ?_)
          refine k_iconst d_KReader_valueReference_153 cI_0 ?_
          refine k_cvi [.inl v14, .inl 0] d_KReader_valueReference_154 ml_15_532 rfl rfl ob_16 rfl (s_KReader_entityOf hL (by omega)  h) (fun v16 σ15 h => ?_)
          refine k_istore (lv' := [some (.inr 16), some (.inl a1), some (.inl a2), none, some (.inl v2), some (.inl s8), some (.inl v16)]) d_KReader_valueReference_157 rfl rfl ?_
          refine k_iload d_KReader_valueReference_159 rfl ?_
          refine k_ifge d_KReader_valueReference_161 rfl (fun c17 => ?_) (fun c17 => ?_)
          · have h := ineg c17 h
            refine k_aload_n d_KReader_valueReference_173 rfl ?_
            refine k_iload d_KReader_valueReference_174 rfl ?_
            refine k_cvi [.inl v16] d_KReader_valueReference_176 ml_15_535 rfl rfl ob_16 rfl (s_KReader_fits hL (by omega)  h) (fun v19 σ18 h => ?_)
            refine k_ifne d_KReader_valueReference_179 rfl (fun c20 => ?_) (fun c20 => ?_)
            · have h := ineg c20 h
              refine k_aload_n d_KReader_valueReference_186 rfl ?_
              refine k_getR d_KReader_valueReference_187 fl_15_75 ob_16 rfl ?_
              refine k_iload d_KReader_valueReference_190 rfl ?_
              refine k_iconst d_KReader_valueReference_192 cI_1 ?_
              obtain ⟨p32, h⟩ := h
              refine k_zst d_KReader_valueReference_193 rz_186 p32 (Or.inr rfl) ?_
              refine k_aload_n d_KReader_valueReference_194 rfl ?_
              refine k_getR d_KReader_valueReference_195 fl_15_141 ob_16 rfl ?_
              refine k_iload_n d_KReader_valueReference_198 rfl ?_
              refine k_iconst d_KReader_valueReference_199 cI_1 ?_
              obtain ⟨p31, h⟩ := h
              refine k_iadd d_KReader_valueReference_200 p31 ?_
              refine k_aload_n d_KReader_valueReference_201 rfl ?_
              refine k_getR d_KReader_valueReference_202 fl_15_69 ob_16 rfl ?_
              refine k_iload d_KReader_valueReference_205 rfl ?_
              obtain ⟨p30, h⟩ := h
              refine k_ild (x := (σ18.2 184 (Int.toNat v16))) d_KReader_valueReference_207 rI_184 p30 rfl ?_
              obtain ⟨p29, h⟩ := h
              refine k_ist d_KReader_valueReference_208 rI_208 p29 ?_
              refine k_aload_n d_KReader_valueReference_209 rfl ?_
              refine k_getR d_KReader_valueReference_210 fl_15_144 ob_16 rfl ?_
              refine k_iload_n d_KReader_valueReference_213 rfl ?_
              refine k_iconst d_KReader_valueReference_214 cI_1 ?_
              obtain ⟨p28, h⟩ := h
              refine k_iadd d_KReader_valueReference_215 p28 ?_
              refine k_aload_n d_KReader_valueReference_216 rfl ?_
              refine k_getR d_KReader_valueReference_217 fl_15_69 ob_16 rfl ?_
              refine k_iload d_KReader_valueReference_220 rfl ?_
              obtain ⟨p27, h⟩ := h
              refine k_ild (x := (σ18.2 184 (Int.toNat v16))) d_KReader_valueReference_222 rI_184 p27 rfl ?_
              refine k_aload_n d_KReader_valueReference_223 rfl ?_
              refine k_getR d_KReader_valueReference_224 fl_15_72 ob_16 rfl ?_
              refine k_iload d_KReader_valueReference_227 rfl ?_
              obtain ⟨p26, h⟩ := h
              refine k_ild (x := (σ18.2 185 (Int.toNat v16))) d_KReader_valueReference_229 rI_185 p26 rfl ?_
              obtain ⟨p25, h⟩ := h
              refine k_iadd d_KReader_valueReference_230 p25 ?_
              obtain ⟨p24, h⟩ := h
              refine k_ist d_KReader_valueReference_231 rI_209 p24 ?_
              refine k_aload_n d_KReader_valueReference_232 rfl ?_
              refine k_getR d_KReader_valueReference_233 fl_15_147 ob_16 rfl ?_
              refine k_iload_n d_KReader_valueReference_236 rfl ?_
              refine k_iconst d_KReader_valueReference_237 cI_1 ?_
              obtain ⟨p23, h⟩ := h
              refine k_iadd d_KReader_valueReference_238 p23 ?_
              refine k_iload d_KReader_valueReference_239 rfl ?_
              obtain ⟨p22, h⟩ := h
              refine k_ist d_KReader_valueReference_241 rI_210 p22 ?_
              refine k_iload_n d_KReader_valueReference_242 rfl ?_
              refine k_iconst d_KReader_valueReference_243 cI_2 ?_
              obtain ⟨p21, h⟩ := h
              refine k_iadd d_KReader_valueReference_244 p21 ?_
              exact k_iret d_KReader_valueReference_245 (Or.inl rfl) h
            · have h := ipos c20 h
              refine k_iload_n d_KReader_valueReference_182 rfl ?_
              refine k_iconst d_KReader_valueReference_183 cI_1 ?_
              obtain ⟨p33, h⟩ := h
              refine k_iadd d_KReader_valueReference_184 p33 ?_
              exact k_iret d_KReader_valueReference_185 (Or.inl rfl) h
          · have h := ipos c17 h
            refine k_aload_n d_KReader_valueReference_164 rfl ?_
            refine k_cvi [] d_KReader_valueReference_165 ml_15_735 rfl rfl ob_16 rfl (s_KReader_undeclared hL (by omega)  h) (fun v35 σ34 h => ?_)
            refine k_pop d_KReader_valueReference_168 ?_
            refine k_iload_n d_KReader_valueReference_169 rfl ?_
            refine k_iconst d_KReader_valueReference_170 cI_1 ?_
            obtain ⟨p36, h⟩ := h
            refine k_iadd d_KReader_valueReference_171 p36 ?_
            exact k_iret d_KReader_valueReference_172 (Or.inl rfl) h
        · have h := ipos c11 h
          refine k_aload_n d_KReader_valueReference_118 rfl ?_
          refine k_bipush d_KReader_valueReference_119 cB_12 ?_
          refine k_cvi [.inl 12] d_KReader_valueReference_121 ml_15_392 rfl rfl ob_16 rfl (s_KReader_fail hL (by omega)  h) (fun v41 σ40 h => ?_)
          refine k_pop d_KReader_valueReference_124 ?_
          refine k_iload_n d_KReader_valueReference_125 rfl ?_
          refine k_iconst d_KReader_valueReference_126 cI_1 ?_
          obtain ⟨p42, h⟩ := h
          refine k_iadd d_KReader_valueReference_127 p42 ?_
          exact k_iret d_KReader_valueReference_128 (Or.inl rfl) h
      · have h := ineg c10 h
        refine k_aload_n d_KReader_valueReference_92 rfl ?_
        obtain ⟨y45, h⟩ := h
        refine k_getD (x := (σ9.1 16 2)) d_KReader_valueReference_93 fl_15_150 ob_16 rfl rfl (dyD_pos y45) ?_
        refine k_iload d_KReader_valueReference_96 rfl ?_
        refine k_cvv [.inl s8] d_KReader_valueReference_98 ml_15_492 rfl rfl (doc_ob (dyD_doc y45)) rfl (s_KDoc_add hL (by omega) (dyD_doc y45) h) (fun σ46 h => ?_)
        refine k_iload_n d_KReader_valueReference_101 rfl ?_
        refine k_iconst d_KReader_valueReference_102 cI_1 ?_
        obtain ⟨p48, h⟩ := h
        refine k_iadd d_KReader_valueReference_103 p48 ?_
        exact k_iret d_KReader_valueReference_104 (Or.inl rfl) h
    · refine k_icne d_KReader_valueReference_58 rfl (fun c49 => ?_) (fun c49 => ?_)
      · have h := ineg c49 h
        refine k_aload_n d_KReader_valueReference_72 rfl ?_
        refine k_iload_n d_KReader_valueReference_73 rfl ?_
        refine k_iconst d_KReader_valueReference_74 cI_1 ?_
        obtain ⟨p54, h⟩ := h
        refine k_iadd d_KReader_valueReference_75 p54 ?_
        refine k_iload d_KReader_valueReference_76 rfl ?_
        refine k_iload_n d_KReader_valueReference_78 rfl ?_
        obtain ⟨p53, h⟩ := h
        refine k_isub d_KReader_valueReference_79 p53 ?_
        refine k_iconst d_KReader_valueReference_80 cI_2 ?_
        obtain ⟨p52, h⟩ := h
        refine k_isub d_KReader_valueReference_81 p52 ?_
        refine k_cvi [.inl (a2 + 1), .inl ((v2 - a2) - 2)] d_KReader_valueReference_82 ml_15_732 rfl rfl ob_16 rfl (s_KReader_always hL (by omega)  h) (fun v51 σ50 h => ?_)
        exact k_sb (sb_s (sb_s (sb_s (sb_n (sb_s (sb_s (sb_s sb_nil))))))) (hJ7 v51 _ h)
      · have h := ipos c49 h
        refine k_aload_n d_KReader_valueReference_61 rfl ?_
        refine k_getR d_KReader_valueReference_62 fl_15_45 ob_16 rfl ?_
        refine k_iload_n d_KReader_valueReference_65 rfl ?_
        refine k_csi [.inr 176, .inl a2] d_KReader_valueReference_66 ml_15_692 (Or.inl rfl) rfl rfl rfl (s_KReader_meant hL (by omega) rI_176 h) (fun v56 σ55 h => ?_)
        refine k_goto d_KReader_valueReference_69 rfl ?_
        exact k_sb (sb_s (sb_s (sb_s (sb_n (sb_s (sb_s (sb_s sb_nil))))))) (hJ7 v56 _ h)
  · have h := ipos c5 h
    refine k_iload_n d_KReader_valueReference_36 rfl ?_
    refine k_iconst d_KReader_valueReference_37 cI_1 ?_
    obtain ⟨p60, h⟩ := h
    refine k_iadd d_KReader_valueReference_38 p60 ?_
    exact k_iret d_KReader_valueReference_39 (Or.inl rfl) h
theorem d_KReader_find_0 : decode b_KReader_find 0 = .ok (.iconst 1, 1) := by decide +kernel
theorem d_KReader_find_1 : decode b_KReader_find 1 = .ok (.istore_n 2, 1) := by decide +kernel
theorem d_KReader_find_2 : decode b_KReader_find 2 = .ok (.aload_n 0, 1) := by decide +kernel
theorem d_KReader_find_3 : decode b_KReader_find 3 = .ok (.getfield 141, 3) := by decide +kernel
theorem d_KReader_find_6 : decode b_KReader_find 6 = .ok (.iconst 0, 1) := by decide +kernel
theorem d_KReader_find_7 : decode b_KReader_find 7 = .ok (.iload_n 1, 1) := by decide +kernel
theorem d_KReader_find_8 : decode b_KReader_find 8 = .ok (.iconst 1, 1) := by decide +kernel
theorem d_KReader_find_9 : decode b_KReader_find 9 = .ok (.iadd, 1) := by decide +kernel
theorem d_KReader_find_10 : decode b_KReader_find 10 = .ok (.iastore, 1) := by decide +kernel
theorem d_KReader_find_11 : decode b_KReader_find 11 = .ok (.aload_n 0, 1) := by decide +kernel
theorem d_KReader_find_12 : decode b_KReader_find 12 = .ok (.getfield 144, 3) := by decide +kernel
theorem d_KReader_find_15 : decode b_KReader_find 15 = .ok (.iconst 0, 1) := by decide +kernel
theorem d_KReader_find_16 : decode b_KReader_find 16 = .ok (.aload_n 0, 1) := by decide +kernel
theorem d_KReader_find_17 : decode b_KReader_find 17 = .ok (.iload_n 1, 1) := by decide +kernel
theorem d_KReader_find_18 : decode b_KReader_find 18 = .ok (.invokevirtual 313, 3) := by decide +kernel
theorem d_KReader_find_21 : decode b_KReader_find 21 = .ok (.iconst 1, 1) := by decide +kernel
theorem d_KReader_find_22 : decode b_KReader_find 22 = .ok (.isub, 1) := by decide +kernel
theorem d_KReader_find_23 : decode b_KReader_find 23 = .ok (.iastore, 1) := by decide +kernel
theorem d_KReader_find_24 : decode b_KReader_find 24 = .ok (.aload_n 0, 1) := by decide +kernel
theorem d_KReader_find_25 : decode b_KReader_find 25 = .ok (.getfield 147, 3) := by decide +kernel
theorem d_KReader_find_28 : decode b_KReader_find 28 = .ok (.iconst 0, 1) := by decide +kernel
theorem d_KReader_find_29 : decode b_KReader_find 29 = .ok (.iconst (-1), 1) := by decide +kernel
theorem d_KReader_find_30 : decode b_KReader_find 30 = .ok (.iastore, 1) := by decide +kernel
theorem d_KReader_find_31 : decode b_KReader_find 31 = .ok (.iload_n 2, 1) := by decide +kernel
theorem d_KReader_find_32 : decode b_KReader_find 32 = .ok (.ifCond .le 145, 3) := by decide +kernel
theorem d_KReader_find_35 : decode b_KReader_find 35 = .ok (.aload_n 0, 1) := by decide +kernel
theorem d_KReader_find_36 : decode b_KReader_find 36 = .ok (.getfield 166, 3) := by decide +kernel
theorem d_KReader_find_39 : decode b_KReader_find 39 = .ok (.ifCond .ne 138, 3) := by decide +kernel
theorem d_KReader_find_42 : decode b_KReader_find 42 = .ok (.iload_n 2, 1) := by decide +kernel
theorem d_KReader_find_43 : decode b_KReader_find 43 = .ok (.iconst 1, 1) := by decide +kernel
theorem d_KReader_find_44 : decode b_KReader_find 44 = .ok (.isub, 1) := by decide +kernel
theorem d_KReader_find_45 : decode b_KReader_find 45 = .ok (.istore_n 3, 1) := by decide +kernel
theorem d_KReader_find_46 : decode b_KReader_find 46 = .ok (.aload_n 0, 1) := by decide +kernel
theorem d_KReader_find_47 : decode b_KReader_find 47 = .ok (.getfield 141, 3) := by decide +kernel
theorem d_KReader_find_50 : decode b_KReader_find 50 = .ok (.iload_n 3, 1) := by decide +kernel
theorem d_KReader_find_51 : decode b_KReader_find 51 = .ok (.iaload, 1) := by decide +kernel
theorem d_KReader_find_52 : decode b_KReader_find 52 = .ok (.istore 4, 2) := by decide +kernel
theorem d_KReader_find_54 : decode b_KReader_find 54 = .ok (.iload 4, 2) := by decide +kernel
theorem d_KReader_find_56 : decode b_KReader_find 56 = .ok (.aload_n 0, 1) := by decide +kernel
theorem d_KReader_find_57 : decode b_KReader_find 57 = .ok (.getfield 144, 3) := by decide +kernel
theorem d_KReader_find_60 : decode b_KReader_find 60 = .ok (.iload_n 3, 1) := by decide +kernel
theorem d_KReader_find_61 : decode b_KReader_find 61 = .ok (.iaload, 1) := by decide +kernel
theorem d_KReader_find_62 : decode b_KReader_find 62 = .ok (.if_icmp .ne 25, 3) := by decide +kernel
theorem d_KReader_find_65 : decode b_KReader_find 65 = .ok (.iload_n 3, 1) := by decide +kernel
theorem d_KReader_find_66 : decode b_KReader_find 66 = .ok (.ifCond .le 15, 3) := by decide +kernel
theorem d_KReader_find_69 : decode b_KReader_find 69 = .ok (.aload_n 0, 1) := by decide +kernel
theorem d_KReader_find_70 : decode b_KReader_find 70 = .ok (.getfield 75, 3) := by decide +kernel
theorem d_KReader_find_73 : decode b_KReader_find 73 = .ok (.aload_n 0, 1) := by decide +kernel
theorem d_KReader_find_74 : decode b_KReader_find 74 = .ok (.getfield 147, 3) := by decide +kernel
theorem d_KReader_find_77 : decode b_KReader_find 77 = .ok (.iload_n 3, 1) := by decide +kernel
theorem d_KReader_find_78 : decode b_KReader_find 78 = .ok (.iaload, 1) := by decide +kernel
theorem d_KReader_find_79 : decode b_KReader_find 79 = .ok (.iconst 0, 1) := by decide +kernel
theorem d_KReader_find_80 : decode b_KReader_find 80 = .ok (.bastore, 1) := by decide +kernel
theorem d_KReader_find_81 : decode b_KReader_find 81 = .ok (.iinc 2 (-1), 3) := by decide +kernel
theorem d_KReader_find_84 : decode b_KReader_find 84 = .ok (.goto 90, 3) := by decide +kernel
theorem d_KReader_find_87 : decode b_KReader_find 87 = .ok (.aload_n 0, 1) := by decide +kernel
theorem d_KReader_find_88 : decode b_KReader_find 88 = .ok (.getfield 45, 3) := by decide +kernel
theorem d_KReader_find_91 : decode b_KReader_find 91 = .ok (.iload 4, 2) := by decide +kernel
theorem d_KReader_find_93 : decode b_KReader_find 93 = .ok (.iaload, 1) := by decide +kernel
theorem d_KReader_find_94 : decode b_KReader_find 94 = .ok (.bipush 60, 2) := by decide +kernel
theorem d_KReader_find_96 : decode b_KReader_find 96 = .ok (.if_icmp .ne 13, 3) := by decide +kernel
theorem d_KReader_find_99 : decode b_KReader_find 99 = .ok (.aload_n 0, 1) := by decide +kernel
theorem d_KReader_find_100 : decode b_KReader_find 100 = .ok (.bipush 11, 2) := by decide +kernel
theorem d_KReader_find_102 : decode b_KReader_find 102 = .ok (.invokevirtual 392, 3) := by decide +kernel
theorem d_KReader_find_105 : decode b_KReader_find 105 = .ok (.pop, 1) := by decide +kernel
theorem d_KReader_find_106 : decode b_KReader_find 106 = .ok (.goto 68, 3) := by decide +kernel
theorem d_KReader_find_109 : decode b_KReader_find 109 = .ok (.aload_n 0, 1) := by decide +kernel
theorem d_KReader_find_110 : decode b_KReader_find 110 = .ok (.getfield 45, 3) := by decide +kernel
theorem d_KReader_find_113 : decode b_KReader_find 113 = .ok (.iload 4, 2) := by decide +kernel
theorem d_KReader_find_115 : decode b_KReader_find 115 = .ok (.iaload, 1) := by decide +kernel
theorem d_KReader_find_116 : decode b_KReader_find 116 = .ok (.bipush 38, 2) := by decide +kernel
theorem d_KReader_find_118 : decode b_KReader_find 118 = .ok (.if_icmp .eq 48, 3) := by decide +kernel
theorem d_KReader_find_121 : decode b_KReader_find 121 = .ok (.aload_n 0, 1) := by decide +kernel
theorem d_KReader_find_122 : decode b_KReader_find 122 = .ok (.getfield 150, 3) := by decide +kernel
theorem d_KReader_find_125 : decode b_KReader_find 125 = .ok (.aload_n 0, 1) := by decide +kernel
theorem d_KReader_find_126 : decode b_KReader_find 126 = .ok (.getfield 45, 3) := by decide +kernel
theorem d_KReader_find_129 : decode b_KReader_find 129 = .ok (.iload 4, 2) := by decide +kernel
theorem d_KReader_find_131 : decode b_KReader_find 131 = .ok (.iaload, 1) := by decide +kernel
theorem d_KReader_find_132 : decode b_KReader_find 132 = .ok (.invokestatic 294, 3) := by decide +kernel
theorem d_KReader_find_135 : decode b_KReader_find 135 = .ok (.ifCond .eq 8, 3) := by decide +kernel
theorem d_KReader_find_138 : decode b_KReader_find 138 = .ok (.bipush 32, 2) := by decide +kernel
theorem d_KReader_find_140 : decode b_KReader_find 140 = .ok (.goto 10, 3) := by decide +kernel
theorem d_KReader_find_143 : decode b_KReader_find 143 = .ok (.aload_n 0, 1) := by decide +kernel
theorem d_KReader_find_144 : decode b_KReader_find 144 = .ok (.getfield 45, 3) := by decide +kernel
theorem d_KReader_find_147 : decode b_KReader_find 147 = .ok (.iload 4, 2) := by decide +kernel
theorem d_KReader_find_149 : decode b_KReader_find 149 = .ok (.iaload, 1) := by decide +kernel
theorem d_KReader_find_150 : decode b_KReader_find 150 = .ok (.invokevirtual 492, 3) := by decide +kernel
theorem d_KReader_find_153 : decode b_KReader_find 153 = .ok (.aload_n 0, 1) := by decide +kernel
theorem d_KReader_find_154 : decode b_KReader_find 154 = .ok (.getfield 141, 3) := by decide +kernel
theorem d_KReader_find_157 : decode b_KReader_find 157 = .ok (.iload_n 3, 1) := by decide +kernel
theorem d_KReader_find_158 : decode b_KReader_find 158 = .ok (.iload 4, 2) := by decide +kernel
theorem d_KReader_find_160 : decode b_KReader_find 160 = .ok (.iconst 1, 1) := by decide +kernel
theorem d_KReader_find_161 : decode b_KReader_find 161 = .ok (.iadd, 1) := by decide +kernel
theorem d_KReader_find_162 : decode b_KReader_find 162 = .ok (.iastore, 1) := by decide +kernel
theorem d_KReader_find_163 : decode b_KReader_find 163 = .ok (.goto 11, 3) := by decide +kernel
theorem d_KReader_find_166 : decode b_KReader_find 166 = .ok (.aload_n 0, 1) := by decide +kernel
theorem d_KReader_find_167 : decode b_KReader_find 167 = .ok (.iload_n 3, 1) := by decide +kernel
theorem d_KReader_find_168 : decode b_KReader_find 168 = .ok (.iload 4, 2) := by decide +kernel
theorem d_KReader_find_170 : decode b_KReader_find 170 = .ok (.invokevirtual 803, 3) := by decide +kernel
theorem d_KReader_find_173 : decode b_KReader_find 173 = .ok (.istore_n 2, 1) := by decide +kernel
theorem d_KReader_find_174 : decode b_KReader_find 174 = .ok (.goto (-143), 3) := by decide +kernel
theorem d_KReader_find_177 : decode b_KReader_find 177 = .ok (.aload_n 0, 1) := by decide +kernel
theorem d_KReader_find_178 : decode b_KReader_find 178 = .ok (.getfield 166, 3) := by decide +kernel
theorem d_KReader_find_181 : decode b_KReader_find 181 = .ok (.ifCond .ne 7, 3) := by decide +kernel
theorem d_KReader_find_184 : decode b_KReader_find 184 = .ok (.iconst 1, 1) := by decide +kernel
theorem d_KReader_find_185 : decode b_KReader_find 185 = .ok (.goto 4, 3) := by decide +kernel
theorem d_KReader_find_188 : decode b_KReader_find 188 = .ok (.iconst 0, 1) := by decide +kernel
theorem d_KReader_find_189 : decode b_KReader_find 189 = .ok (.ireturn, 1) := by decide +kernel
/-- KReader_find -/
def w_KReader_find (L : Nat → Nat) (a1 : Int) (Q : Int → IS → Prop) (σ : IS) : Prop := inR (a1 + 1) ∧ inL L 208 0 ∧ w_KReader_literal L a1 (fun v2 σ1 => inR (v2 - 1) ∧ inL L 209 0 ∧ inL L 210 0 ∧ WL (fun (K3 : Int → IS → Prop) (s5 : Int) (σ6 : IS) => if 0 < s5 ∧ ((σ6.1 16 3) = 0) then inR (s5 - 1) ∧ inL L 208 (s5 - 1) ∧ inL L 209 (s5 - 1) ∧ WJ (fun (s9 : Int) (σ10 : IS) => K3 s9 σ10) (fun J7 => if (σ6.2 208 (Int.toNat (s5 - 1))) = (σ6.2 209 (Int.toNat (s5 - 1))) then WJ (fun (s37 : Unit) (σ38 : IS) => inR (s5 + (-1)) ∧ J7 (s5 + (-1)) σ38) (fun J35 => if 0 < (s5 - 1) then inL L 210 (s5 - 1) ∧ inL L 186 (σ6.2 210 (Int.toNat (s5 - 1))) ∧ J35 () (pr σ6 186 (Int.toNat (σ6.2 210 (Int.toNat (s5 - 1)))) 0) else J35 () σ6) else inL L 176 (σ6.2 208 (Int.toNat (s5 - 1))) ∧ if (σ6.2 176 (Int.toNat (σ6.2 208 (Int.toNat (s5 - 1))))) = 60 then w_KReader_fail L 11 (fun v33 σ32 => J7 s5 σ32) σ6 else inL L 176 (σ6.2 208 (Int.toNat (s5 - 1))) ∧ if (σ6.2 176 (Int.toNat (σ6.2 208 (Int.toNat (s5 - 1))))) = 38 then w_KReader_valueReference L (s5 - 1) (σ6.2 208 (Int.toNat (s5 - 1))) (fun v15 σ14 => J7 v15 σ14) σ6 else dyD (σ6.1 16 2) ∧ inL L 176 (σ6.2 208 (Int.toNat (s5 - 1))) ∧ w_K_isSpace L (σ6.2 176 (Int.toNat (σ6.2 208 (Int.toNat (s5 - 1))))) (fun v18 σ17 => ((v18 = 0 → inL L 176 (σ6.2 208 (Int.toNat (s5 - 1))))) ∧ w_KDoc_add L (Int.toNat (σ6.1 16 2)) (if v18 = 0 then (σ17.2 176 (Int.toNat (σ6.2 208 (Int.toNat (s5 - 1))))) else (32 : Int)) (fun σ20 => inR ((σ6.2 208 (Int.toNat (s5 - 1))) + 1) ∧ inL L 208 (s5 - 1) ∧ J7 s5 (pr σ20 208 (Int.toNat (s5 - 1)) ((σ6.2 208 (Int.toNat (s5 - 1))) + 1))) σ17) σ6) else Q (if (σ6.1 16 3) = 0 then (1 : Int) else (0 : Int)) σ6) 1 (pr (pr σ1 209 (Int.toNat 0) (v2 - 1)) 210 (Int.toNat 0) (-1))) (pr σ 208 (Int.toNat 0) (a1 + 1))
set_option maxHeartbeats 4000000 in
set_option maxRecDepth 20000 in
theorem s_KReader_find {L : Nat → Nat} (hL : ∀ r, L r < 2147483648) {d : Nat} (hd : 7 ≤ d) {a1 : Int} {Q : Int → IS → Prop} {σ : IS}  (h : w_KReader_find L a1 Q σ) : OkI BF L d 15 b_KReader_find 5 2 0 [] [some (.inr 16), some (.inl a1)] σ (qi Q) := by
  unfold w_KReader_find at h
  obtain ⟨d, rfl⟩ : ∃ e, d = e + 1 := ⟨d - 1, by omega⟩
  refine k_sb (lv' := [some (.inr 16), some (.inl a1), none, none, none]) (sb_s (sb_s (sb_e (sb_e (sb_e sb_nil))))) ?_
  refine k_iconst d_KReader_find_0 cI_1 ?_
  refine k_istore_n (lv' := [some (.inr 16), some (.inl a1), some (.inl 1), none, none]) d_KReader_find_1 rfl rfl ?_
  refine k_aload_n d_KReader_find_2 rfl ?_
  refine k_getR d_KReader_find_3 fl_15_141 ob_16 rfl ?_
  refine k_iconst d_KReader_find_6 cI_0 ?_
  refine k_iload_n d_KReader_find_7 rfl ?_
  refine k_iconst d_KReader_find_8 cI_1 ?_
  obtain ⟨p59, h⟩ := h
  refine k_iadd d_KReader_find_9 p59 ?_
  obtain ⟨p58, h⟩ := h
  refine k_ist d_KReader_find_10 rI_208 p58 ?_
  refine k_aload_n d_KReader_find_11 rfl ?_
  refine k_getR d_KReader_find_12 fl_15_144 ob_16 rfl ?_
  refine k_iconst d_KReader_find_15 cI_0 ?_
  refine k_aload_n d_KReader_find_16 rfl ?_
  refine k_iload_n d_KReader_find_17 rfl ?_
  refine k_cvi [.inl a1] d_KReader_find_18 ml_15_313 rfl rfl ob_16 rfl (s_KReader_literal hL (by omega)  h) (fun v2 σ1 h => ?_)
  refine k_iconst d_KReader_find_21 cI_1 ?_
  obtain ⟨p57, h⟩ := h
  refine k_isub d_KReader_find_22 p57 ?_
  obtain ⟨p56, h⟩ := h
  refine k_ist d_KReader_find_23 rI_209 p56 ?_
  refine k_aload_n d_KReader_find_24 rfl ?_
  refine k_getR d_KReader_find_25 fl_15_147 ob_16 rfl ?_
  refine k_iconst d_KReader_find_28 cI_0 ?_
  refine k_iconst d_KReader_find_29 cI_m1 ?_
  obtain ⟨p55, h⟩ := h
  refine k_ist d_KReader_find_30 rI_210 p55 ?_
  refine k_sb (lv' := [some (.inr 16), none, some (.inl 1), none, none]) (sb_s (sb_n (sb_s (sb_s (sb_s sb_nil))))) ?_
  refine k_loop (S := Int) (st := fun _ => []) (lv := fun s5 => [some (.inr 16), none, some (.inl s5), none, none]) (fun K3 hK4 s5 σ6 h => ?_) 1 _ h
  refine k_iload_n d_KReader_find_31 rfl ?_
  have hX50 : (0 < s5 ∧ ((σ6.1 16 3) = 0)) → OkI BF L (d + 1) 15 b_KReader_find 5 2 42 [] [some (.inr 16), none, some (.inl s5), none, none] σ6 (qi Q) := fun e52 => by
    have h := ipos e52 h
    refine k_iload_n d_KReader_find_42 rfl ?_
    refine k_iconst d_KReader_find_43 cI_1 ?_
    obtain ⟨p45, h⟩ := h
    refine k_isub d_KReader_find_44 p45 ?_
    refine k_istore_n (lv' := [some (.inr 16), none, some (.inl s5), some (.inl (s5 - 1)), none]) d_KReader_find_45 rfl rfl ?_
    refine k_aload_n d_KReader_find_46 rfl ?_
    refine k_getR d_KReader_find_47 fl_15_141 ob_16 rfl ?_
    refine k_iload_n d_KReader_find_50 rfl ?_
    obtain ⟨p44, h⟩ := h
    refine k_ild (x := (σ6.2 208 (Int.toNat (s5 - 1)))) d_KReader_find_51 rI_208 p44 rfl ?_
    refine k_istore (lv' := [some (.inr 16), none, some (.inl s5), some (.inl (s5 - 1)), some (.inl (σ6.2 208 (Int.toNat (s5 - 1))))]) d_KReader_find_52 rfl rfl ?_
    refine k_iload d_KReader_find_54 rfl ?_
    refine k_aload_n d_KReader_find_56 rfl ?_
    refine k_getR d_KReader_find_57 fl_15_144 ob_16 rfl ?_
    refine k_iload_n d_KReader_find_60 rfl ?_
    obtain ⟨p43, h⟩ := h
    refine k_ild (x := (σ6.2 209 (Int.toNat (s5 - 1)))) d_KReader_find_61 rI_209 p43 rfl ?_
    refine k_join (S := Int) (pc' := 174) (st' := fun s9 => []) (lv' := fun s9 => [some (.inr 16), none, some (.inl s9), none, none]) (fun s9 σ10 h => ?_) (fun J7 hJ8 h => ?_) h
    · refine k_goto d_KReader_find_174 rfl ?_
      exact k_sb (sb_s (sb_s (sb_s (sb_s (sb_s sb_nil))))) (hK4 s9 _ h)
    · refine k_icne d_KReader_find_62 rfl (fun c11 => ?_) (fun c11 => ?_)
      · have h := ineg c11 h
        refine k_aload_n d_KReader_find_87 rfl ?_
        refine k_getR d_KReader_find_88 fl_15_45 ob_16 rfl ?_
        refine k_iload d_KReader_find_91 rfl ?_
        obtain ⟨p34, h⟩ := h
        refine k_ild (x := (σ6.2 176 (Int.toNat (σ6.2 208 (Int.toNat (s5 - 1)))))) d_KReader_find_93 rI_176 p34 rfl ?_
        refine k_bipush d_KReader_find_94 cB_60 ?_
        refine k_icne d_KReader_find_96 rfl (fun c12 => ?_) (fun c12 => ?_)
        · have h := ineg c12 h
          refine k_aload_n d_KReader_find_109 rfl ?_
          refine k_getR d_KReader_find_110 fl_15_45 ob_16 rfl ?_
          refine k_iload d_KReader_find_113 rfl ?_
          obtain ⟨p31, h⟩ := h
          refine k_ild (x := (σ6.2 176 (Int.toNat (σ6.2 208 (Int.toNat (s5 - 1)))))) d_KReader_find_115 rI_176 p31 rfl ?_
          refine k_bipush d_KReader_find_116 cB_38 ?_
          refine k_iceq d_KReader_find_118 rfl (fun c13 => ?_) (fun c13 => ?_)
          · have h := ipos c13 h
            refine k_aload_n d_KReader_find_166 rfl ?_
            refine k_iload_n d_KReader_find_167 rfl ?_
            refine k_iload d_KReader_find_168 rfl ?_
            refine k_cvi [.inl (s5 - 1), .inl (σ6.2 208 (Int.toNat (s5 - 1)))] d_KReader_find_170 ml_15_803 rfl rfl ob_16 rfl (s_KReader_valueReference hL (by omega)  h) (fun v15 σ14 h => ?_)
            refine k_istore_n (lv' := [some (.inr 16), none, some (.inl v15), some (.inl (s5 - 1)), some (.inl (σ6.2 208 (Int.toNat (s5 - 1))))]) d_KReader_find_173 rfl rfl ?_
            exact k_sb (sb_s (sb_s (sb_s (sb_n (sb_n sb_nil))))) (hJ8 v15 _ h)
          · have h := ineg c13 h
            refine k_aload_n d_KReader_find_121 rfl ?_
            obtain ⟨y16, h⟩ := h
            refine k_getD (x := (σ6.1 16 2)) d_KReader_find_122 fl_15_150 ob_16 rfl rfl (dyD_pos y16) ?_
            refine k_aload_n d_KReader_find_125 rfl ?_
            refine k_getR d_KReader_find_126 fl_15_45 ob_16 rfl ?_
            refine k_iload d_KReader_find_129 rfl ?_
            obtain ⟨p30, h⟩ := h
            refine k_ild (x := (σ6.2 176 (Int.toNat (σ6.2 208 (Int.toNat (s5 - 1)))))) d_KReader_find_131 rI_176 p30 rfl ?_
            refine k_csi [.inl (σ6.2 176 (Int.toNat (σ6.2 208 (Int.toNat (s5 - 1)))))] d_KReader_find_132 ml_15_294 (Or.inr rfl) rfl rfl rfl (s_K_isSpace hL (by omega)  h) (fun v18 σ17 h => ?_)
            obtain ⟨pt25, h⟩ := h
            have hV24 : OkI BF L (d + 1) 15 b_KReader_find 5 2 150 [.inl (if v18 = 0 then (σ17.2 176 (Int.toNat (σ6.2 208 (Int.toNat (s5 - 1))))) else (32 : Int)), .inr (Int.toNat (σ6.1 16 2))] [some (.inr 16), none, some (.inl s5), some (.inl (s5 - 1)), some (.inl (σ6.2 208 (Int.toNat (s5 - 1))))] σ17 (qi Q) := by
              refine k_cvv [.inl (if v18 = 0 then (σ17.2 176 (Int.toNat (σ6.2 208 (Int.toNat (s5 - 1))))) else (32 : Int))] d_KReader_find_150 ml_15_492 rfl rfl (doc_ob (dyD_doc y16)) rfl (s_KDoc_add hL (by omega) (dyD_doc y16) h) (fun σ20 h => ?_)
              refine k_aload_n d_KReader_find_153 rfl ?_
              refine k_getR d_KReader_find_154 fl_15_141 ob_16 rfl ?_
              refine k_iload_n d_KReader_find_157 rfl ?_
              refine k_iload d_KReader_find_158 rfl ?_
              refine k_iconst d_KReader_find_160 cI_1 ?_
              obtain ⟨p23, h⟩ := h
              refine k_iadd d_KReader_find_161 p23 ?_
              obtain ⟨p22, h⟩ := h
              refine k_ist d_KReader_find_162 rI_208 p22 ?_
              refine k_goto d_KReader_find_163 rfl ?_
              exact k_sb (sb_s (sb_s (sb_s (sb_n (sb_n sb_nil))))) (hJ8 s5 _ h)
            have pa26 := pt25
            refine k_ifeq d_KReader_find_135 rfl (fun c27 => ?_) (fun c27 => ?_)
            · have pa26 := pa26 c27
              have hV28 := k_eqI (if_pos c27) hV24
              have p19 := pa26
              refine k_aload_n d_KReader_find_143 rfl ?_
              refine k_getR d_KReader_find_144 fl_15_45 ob_16 rfl ?_
              refine k_iload d_KReader_find_147 rfl ?_
              refine k_ild (x := (σ17.2 176 (Int.toNat (σ6.2 208 (Int.toNat (s5 - 1)))))) d_KReader_find_149 rI_176 p19 rfl ?_
              exact hV28
            · have hV29 := k_eqI (if_neg c27) hV24
              refine k_bipush d_KReader_find_138 cB_32 ?_
              refine k_goto d_KReader_find_140 rfl ?_
              exact hV29
        · have h := ipos c12 h
          refine k_aload_n d_KReader_find_99 rfl ?_
          refine k_bipush d_KReader_find_100 cB_11 ?_
          refine k_cvi [.inl 11] d_KReader_find_102 ml_15_392 rfl rfl ob_16 rfl (s_KReader_fail hL (by omega)  h) (fun v33 σ32 h => ?_)
          refine k_pop d_KReader_find_105 ?_
          refine k_goto d_KReader_find_106 rfl ?_
          exact k_sb (sb_s (sb_s (sb_s (sb_n (sb_n sb_nil))))) (hJ8 s5 _ h)
      · have h := ipos c11 h
        refine k_iload_n d_KReader_find_65 rfl ?_
        refine k_join (S := Unit) (pc' := 81) (st' := fun s37 => []) (lv' := fun s37 => [some (.inr 16), none, some (.inl s5), none, none]) (fun s37 σ38 h => ?_) (fun J35 hJ36 h => ?_) h
        · obtain ⟨p39, h⟩ := h
          refine k_iinc (lv' := [some (.inr 16), none, some (.inl (s5 + (-1))), none, none]) d_KReader_find_81 cI_m1 rfl rfl p39 rfl ?_
          refine k_goto d_KReader_find_84 rfl ?_
          exact k_sb (sb_s (sb_s (sb_s (sb_s (sb_s sb_nil))))) (hJ8 (s5 + (-1)) _ h)
        · refine k_ifle d_KReader_find_66 rfl (fun c40 => ?_) (fun c40 => ?_)
          · have h := ineg c40 h
            exact k_sb (sb_s (sb_s (sb_s (sb_n (sb_n sb_nil))))) (hJ36 () _ h)
          · have h := ipos c40 h
            refine k_aload_n d_KReader_find_69 rfl ?_
            refine k_getR d_KReader_find_70 fl_15_75 ob_16 rfl ?_
            refine k_aload_n d_KReader_find_73 rfl ?_
            refine k_getR d_KReader_find_74 fl_15_147 ob_16 rfl ?_
            refine k_iload_n d_KReader_find_77 rfl ?_
            obtain ⟨p42, h⟩ := h
            refine k_ild (x := (σ6.2 210 (Int.toNat (s5 - 1)))) d_KReader_find_78 rI_210 p42 rfl ?_
            refine k_iconst d_KReader_find_79 cI_0 ?_
            obtain ⟨p41, h⟩ := h
            refine k_zst d_KReader_find_80 rz_186 p41 (Or.inl rfl) ?_
            exact k_sb (sb_s (sb_s (sb_s (sb_n (sb_n sb_nil))))) (hJ36 () _ h)
  have hY51 : ¬ (0 < s5 ∧ ((σ6.1 16 3) = 0)) → OkI BF L (d + 1) 15 b_KReader_find 5 2 177 [] [some (.inr 16), none, some (.inl s5), none, none] σ6 (qi Q) := fun e52 => by
    have h := ineg e52 h
    refine k_aload_n d_KReader_find_177 rfl ?_
    refine k_getI (x := (σ6.1 16 3)) d_KReader_find_178 fl_15_166 ob_16 rfl rfl ?_
    have hV46 : OkI BF L (d + 1) 15 b_KReader_find 5 2 189 [.inl (if (σ6.1 16 3) = 0 then (1 : Int) else (0 : Int))] [some (.inr 16), none, some (.inl s5), none, none] σ6 (qi Q) := by
      exact k_iret d_KReader_find_189 (Or.inr ⟨rfl, it01 (Or.inr rfl) (Or.inl rfl)⟩) h
    refine k_ifne d_KReader_find_181 rfl (fun c47 => ?_) (fun c47 => ?_)
    · have hV49 := k_eqI (if_neg c47) hV46
      refine k_iconst d_KReader_find_188 cI_0 ?_
      exact hV49
    · have hV48 := k_eqI (if_pos c47) hV46
      refine k_iconst d_KReader_find_184 cI_1 ?_
      refine k_goto d_KReader_find_185 rfl ?_
      exact hV48
  refine k_ifle d_KReader_find_32 rfl (fun c53 => ?_) (fun c53 => ?_)
  · exact hY51 (fun z => c53 z.1)
  · refine k_aload_n d_KReader_find_35 rfl ?_
    refine k_getI (x := (σ6.1 16 3)) d_KReader_find_36 fl_15_166 ob_16 rfl rfl ?_
    refine k_ifne d_KReader_find_39 rfl (fun c54 => ?_) (fun c54 => ?_)
    · exact hY51 (fun z => (c54) z.2)
    · exact hX50 (⟨c53, c54⟩)
