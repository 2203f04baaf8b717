theorem d_KWriter_target_0 : decode b_KWriter_target 0 = .ok (.iload_n 2, 1) := by decide +kernel
theorem d_KWriter_target_1 : decode b_KWriter_target 1 = .ok (.ifCond .eq 16, 3) := by decide +kernel
theorem d_KWriter_target_4 : decode b_KWriter_target 4 = .ok (.aload_n 0, 1) := by decide +kernel
theorem d_KWriter_target_5 : decode b_KWriter_target 5 = .ok (.getfield 210, 3) := by decide +kernel
theorem d_KWriter_target_8 : decode b_KWriter_target 8 = .ok (.ifCond .ne 9, 3) := by decide +kernel
theorem d_KWriter_target_11 : decode b_KWriter_target 11 = .ok (.aload_n 0, 1) := by decide +kernel
theorem d_KWriter_target_12 : decode b_KWriter_target 12 = .ok (.ldc 115, 2) := by decide +kernel
theorem d_KWriter_target_14 : decode b_KWriter_target 14 = .ok (.invokevirtual 93, 3) := by decide +kernel
theorem d_KWriter_target_17 : decode b_KWriter_target 17 = .ok (.aload_n 0, 1) := by decide +kernel
theorem d_KWriter_target_18 : decode b_KWriter_target 18 = .ok (.ldc 213, 2) := by decide +kernel
theorem d_KWriter_target_20 : decode b_KWriter_target 20 = .ok (.invokevirtual 93, 3) := by decide +kernel
theorem d_KWriter_target_23 : decode b_KWriter_target 23 = .ok (.aload_n 0, 1) := by decide +kernel
theorem d_KWriter_target_24 : decode b_KWriter_target 24 = .ok (.aload_n 0, 1) := by decide +kernel
theorem d_KWriter_target_25 : decode b_KWriter_target 25 = .ok (.getfield 74, 3) := by decide +kernel
theorem d_KWriter_target_28 : decode b_KWriter_target 28 = .ok (.getfield 215, 3) := by decide +kernel
theorem d_KWriter_target_31 : decode b_KWriter_target 31 = .ok (.iload_n 1, 1) := by decide +kernel
theorem d_KWriter_target_32 : decode b_KWriter_target 32 = .ok (.iaload, 1) := by decide +kernel
theorem d_KWriter_target_33 : decode b_KWriter_target 33 = .ok (.invokevirtual 198, 3) := by decide +kernel
theorem d_KWriter_target_36 : decode b_KWriter_target 36 = .ok (.aload_n 0, 1) := by decide +kernel
theorem d_KWriter_target_37 : decode b_KWriter_target 37 = .ok (.getfield 74, 3) := by decide +kernel
theorem d_KWriter_target_40 : decode b_KWriter_target 40 = .ok (.getfield 215, 3) := by decide +kernel
theorem d_KWriter_target_43 : decode b_KWriter_target 43 = .ok (.iload_n 1, 1) := by decide +kernel
theorem d_KWriter_target_44 : decode b_KWriter_target 44 = .ok (.iconst 2, 1) := by decide +kernel
theorem d_KWriter_target_45 : decode b_KWriter_target 45 = .ok (.iadd, 1) := by decide +kernel
theorem d_KWriter_target_46 : decode b_KWriter_target 46 = .ok (.iaload, 1) := by decide +kernel
theorem d_KWriter_target_47 : decode b_KWriter_target 47 = .ok (.istore_n 3, 1) := by decide +kernel
theorem d_KWriter_target_48 : decode b_KWriter_target 48 = .ok (.iload_n 3, 1) := by decide +kernel
theorem d_KWriter_target_49 : decode b_KWriter_target 49 = .ok (.ifCond .le 9, 3) := by decide +kernel
theorem d_KWriter_target_52 : decode b_KWriter_target 52 = .ok (.aload_n 0, 1) := by decide +kernel
theorem d_KWriter_target_53 : decode b_KWriter_target 53 = .ok (.ldc 205, 2) := by decide +kernel
theorem d_KWriter_target_55 : decode b_KWriter_target 55 = .ok (.invokevirtual 93, 3) := by decide +kernel
theorem d_KWriter_target_58 : decode b_KWriter_target 58 = .ok (.iconst 0, 1) := by decide +kernel
theorem d_KWriter_target_59 : decode b_KWriter_target 59 = .ok (.istore 4, 2) := by decide +kernel
theorem d_KWriter_target_61 : decode b_KWriter_target 61 = .ok (.iload 4, 2) := by decide +kernel
theorem d_KWriter_target_63 : decode b_KWriter_target 63 = .ok (.iload_n 3, 1) := by decide +kernel
theorem d_KWriter_target_64 : decode b_KWriter_target 64 = .ok (.if_icmp .ge 55, 3) := by decide +kernel
theorem d_KWriter_target_67 : decode b_KWriter_target 67 = .ok (.aload_n 0, 1) := by decide +kernel
theorem d_KWriter_target_68 : decode b_KWriter_target 68 = .ok (.getfield 74, 3) := by decide +kernel
theorem d_KWriter_target_71 : decode b_KWriter_target 71 = .ok (.getfield 122, 3) := by decide +kernel
theorem d_KWriter_target_74 : decode b_KWriter_target 74 = .ok (.aload_n 0, 1) := by decide +kernel
theorem d_KWriter_target_75 : decode b_KWriter_target 75 = .ok (.getfield 74, 3) := by decide +kernel
theorem d_KWriter_target_78 : decode b_KWriter_target 78 = .ok (.getfield 215, 3) := by decide +kernel
theorem d_KWriter_target_81 : decode b_KWriter_target 81 = .ok (.iload_n 1, 1) := by decide +kernel
theorem d_KWriter_target_82 : decode b_KWriter_target 82 = .ok (.iconst 1, 1) := by decide +kernel
theorem d_KWriter_target_83 : decode b_KWriter_target 83 = .ok (.iadd, 1) := by decide +kernel
theorem d_KWriter_target_84 : decode b_KWriter_target 84 = .ok (.iaload, 1) := by decide +kernel
theorem d_KWriter_target_85 : decode b_KWriter_target 85 = .ok (.iload 4, 2) := by decide +kernel
theorem d_KWriter_target_87 : decode b_KWriter_target 87 = .ok (.iadd, 1) := by decide +kernel
theorem d_KWriter_target_88 : decode b_KWriter_target 88 = .ok (.iaload, 1) := by decide +kernel
theorem d_KWriter_target_89 : decode b_KWriter_target 89 = .ok (.istore 5, 2) := by decide +kernel
theorem d_KWriter_target_91 : decode b_KWriter_target 91 = .ok (.iload 5, 2) := by decide +kernel
theorem d_KWriter_target_93 : decode b_KWriter_target 93 = .ok (.bipush 13, 2) := by decide +kernel
theorem d_KWriter_target_95 : decode b_KWriter_target 95 = .ok (.if_icmp .ne 12, 3) := by decide +kernel
theorem d_KWriter_target_98 : decode b_KWriter_target 98 = .ok (.aload_n 0, 1) := by decide +kernel
theorem d_KWriter_target_99 : decode b_KWriter_target 99 = .ok (.ldc 99, 2) := by decide +kernel
theorem d_KWriter_target_101 : decode b_KWriter_target 101 = .ok (.invokevirtual 93, 3) := by decide +kernel
theorem d_KWriter_target_104 : decode b_KWriter_target 104 = .ok (.goto 9, 3) := by decide +kernel
theorem d_KWriter_target_107 : decode b_KWriter_target 107 = .ok (.aload_n 0, 1) := by decide +kernel
theorem d_KWriter_target_108 : decode b_KWriter_target 108 = .ok (.iload 5, 2) := by decide +kernel
theorem d_KWriter_target_110 : decode b_KWriter_target 110 = .ok (.invokevirtual 71, 3) := by decide +kernel
theorem d_KWriter_target_113 : decode b_KWriter_target 113 = .ok (.iinc 4 1, 3) := by decide +kernel
theorem d_KWriter_target_116 : decode b_KWriter_target 116 = .ok (.goto (-55), 3) := by decide +kernel
theorem d_KWriter_target_119 : decode b_KWriter_target 119 = .ok (.aload_n 0, 1) := by decide +kernel
theorem d_KWriter_target_120 : decode b_KWriter_target 120 = .ok (.ldc 218, 2) := by decide +kernel
theorem d_KWriter_target_122 : decode b_KWriter_target 122 = .ok (.invokevirtual 93, 3) := by decide +kernel
theorem d_KWriter_target_125 : decode b_KWriter_target 125 = .ok (.iload_n 2, 1) := by decide +kernel
theorem d_KWriter_target_126 : decode b_KWriter_target 126 = .ok (.ifCond .ne 9, 3) := by decide +kernel
theorem d_KWriter_target_129 : decode b_KWriter_target 129 = .ok (.aload_n 0, 1) := by decide +kernel
theorem d_KWriter_target_130 : decode b_KWriter_target 130 = .ok (.ldc 115, 2) := by decide +kernel
theorem d_KWriter_target_132 : decode b_KWriter_target 132 = .ok (.invokevirtual 93, 3) := by decide +kernel
theorem d_KWriter_target_135 : decode b_KWriter_target 135 = .ok (.return_, 1) := by decide +kernel
/-- KWriter_target -/
def w_KWriter_target (L : Nat → Nat) (a1 : Int) (a2 : Int) (Q : IS → Prop) (σ : IS) : Prop := WJ (fun (s3 : Unit) (σ4 : IS) => w_KWriter_say L 1173 (fun σ5 => dyD (σ5.1 17 1) ∧ inL L (rfo (Int.toNat (σ5.1 17 1)) 15) a1 ∧ w_KWriter_name L (σ5.2 (rfo (Int.toNat (σ5.1 17 1)) 15) (Int.toNat a1)) (fun σ8 => dyD (σ8.1 17 1) ∧ inR (a1 + 2) ∧ inL L (rfo (Int.toNat (σ8.1 17 1)) 15) (a1 + 2) ∧ WJ (fun (s13 : Unit) (σ14 : IS) => WL (fun (K15 : Int → IS → Prop) (s17 : Int) (σ18 : IS) => if s17 < (σ8.2 (rfo (Int.toNat (σ8.1 17 1)) 15) (Int.toNat (a1 + 2))) then dyD (σ18.1 17 1) ∧ inR (a1 + 1) ∧ inL L (rfo (Int.toNat (σ18.1 17 1)) 15) (a1 + 1) ∧ inR ((σ18.2 (rfo (Int.toNat (σ18.1 17 1)) 15) (Int.toNat (a1 + 1))) + s17) ∧ inL L (rfo (Int.toNat (σ18.1 17 1)) 1) ((σ18.2 (rfo (Int.toNat (σ18.1 17 1)) 15) (Int.toNat (a1 + 1))) + s17) ∧ WJ (fun (s32 : Unit) (σ33 : IS) => inR (s17 + 1) ∧ K15 (s17 + 1) σ33) (fun J30 => if (σ18.2 (rfo (Int.toNat (σ18.1 17 1)) 1) (Int.toNat ((σ18.2 (rfo (Int.toNat (σ18.1 17 1)) 15) (Int.toNat (a1 + 1))) + s17))) = 13 then w_KWriter_say L 1158 (fun σ38 => J30 () σ38) σ18 else w_KWriter_put L (σ18.2 (rfo (Int.toNat (σ18.1 17 1)) 1) (Int.toNat ((σ18.2 (rfo (Int.toNat (σ18.1 17 1)) 15) (Int.toNat (a1 + 1))) + s17))) (fun σ36 => J30 () σ36) σ18) else w_KWriter_say L 1174 (fun σ20 => WJ (fun (s24 : Unit) (σ25 : IS) => Q σ25) (fun J22 => if a2 = 0 then w_KWriter_say L 1166 (fun σ27 => J22 () σ27) σ20 else J22 () σ20)) σ18) 0 σ14) (fun J11 => if 0 < (σ8.2 (rfo (Int.toNat (σ8.1 17 1)) 15) (Int.toNat (a1 + 2))) then w_KWriter_say L 1172 (fun σ45 => J11 () σ45) σ8 else J11 () σ8)) σ5) σ4) (fun J1 => if ¬ a2 = 0 ∧ ((σ.1 17 8) = 0) then w_KWriter_say L 1166 (fun σ50 => J1 () σ50) σ else J1 () σ)
set_option maxHeartbeats 4000000 in
set_option maxRecDepth 20000 in
theorem s_KWriter_target {L : Nat → Nat} (hL : ∀ r, L r < 2147483648) {d : Nat} (hd : 3 ≤ d) {a1 : Int} {a2 : Int} {Q : IS → Prop} {σ : IS}  (h : w_KWriter_target L a1 a2 Q σ) : OkI BF L d 16 b_KWriter_target 6 0 0 [] [some (.inr 17), some (.inl a1), some (.inl a2)] σ (qv Q) := by
  unfold w_KWriter_target at h
  obtain ⟨d, rfl⟩ : ∃ e, d = e + 1 := ⟨d - 1, by omega⟩
  refine k_sb (lv' := [some (.inr 17), some (.inl a1), some (.inl a2), none, none, none]) (sb_s (sb_s (sb_s (sb_e (sb_e (sb_e sb_nil)))))) ?_
  refine k_iload_n d_KWriter_target_0 rfl ?_
  refine k_join (S := Unit) (pc' := 17) (st' := fun s3 => []) (lv' := fun s3 => [some (.inr 17), some (.inl a1), some (.inl a2), none, none, none]) (fun s3 σ4 h => ?_) (fun J1 hJ2 h => ?_) h
  · refine k_aload_n d_KWriter_target_17 rfl ?_
    refine k_ldc d_KWriter_target_18 ks_16_213 rfl ?_
    refine k_cvv [.inr 1173] d_KWriter_target_20 ml_16_93 rfl rfl ob_17 rfl (s_KWriter_say hL (by omega) it_1173 h) (fun σ5 h => ?_)
    refine k_aload_n d_KWriter_target_23 rfl ?_
    refine k_aload_n d_KWriter_target_24 rfl ?_
    obtain ⟨y7, h⟩ := h
    refine k_getD (x := (σ5.1 17 1)) d_KWriter_target_25 fl_16_74 ob_17 rfl rfl (dyD_pos y7) ?_
    refine k_getR d_KWriter_target_28 fl_16_215 (doc_ob (dyD_doc y7)) (dfr_15 (dyD_doc y7)) ?_
    refine k_iload_n d_KWriter_target_31 rfl ?_
    obtain ⟨p49, h⟩ := h
    refine k_ild (x := (σ5.2 (rfo (Int.toNat (σ5.1 17 1)) 15) (Int.toNat a1))) d_KWriter_target_32 (drI_15 (dyD_doc y7)) p49 rfl ?_
    refine k_cvv [.inl (σ5.2 (rfo (Int.toNat (σ5.1 17 1)) 15) (Int.toNat a1))] d_KWriter_target_33 ml_16_198 rfl rfl ob_17 rfl (s_KWriter_name hL (by omega)  h) (fun σ8 h => ?_)
    refine k_aload_n d_KWriter_target_36 rfl ?_
    obtain ⟨y10, h⟩ := h
    refine k_getD (x := (σ8.1 17 1)) d_KWriter_target_37 fl_16_74 ob_17 rfl rfl (dyD_pos y10) ?_
    refine k_getR d_KWriter_target_40 fl_16_215 (doc_ob (dyD_doc y10)) (dfr_15 (dyD_doc y10)) ?_
    refine k_iload_n d_KWriter_target_43 rfl ?_
    refine k_iconst d_KWriter_target_44 cI_2 ?_
    obtain ⟨p48, h⟩ := h
    refine k_iadd d_KWriter_target_45 p48 ?_
    obtain ⟨p47, h⟩ := h
    refine k_ild (x := (σ8.2 (rfo (Int.toNat (σ8.1 17 1)) 15) (Int.toNat (a1 + 2)))) d_KWriter_target_46 (drI_15 (dyD_doc y10)) p47 rfl ?_
    refine k_istore_n (lv' := [some (.inr 17), some (.inl a1), some (.inl a2), some (.inl (σ8.2 (rfo (Int.toNat (σ8.1 17 1)) 15) (Int.toNat (a1 + 2)))), none, none]) d_KWriter_target_47 rfl rfl ?_
    refine k_iload_n d_KWriter_target_48 rfl ?_
    refine k_join (S := Unit) (pc' := 58) (st' := fun s13 => []) (lv' := fun s13 => [some (.inr 17), some (.inl a1), some (.inl a2), some (.inl (σ8.2 (rfo (Int.toNat (σ8.1 17 1)) 15) (Int.toNat (a1 + 2)))), none, none]) (fun s13 σ14 h => ?_) (fun J11 hJ12 h => ?_) h
    · refine k_iconst d_KWriter_target_58 cI_0 ?_
      refine k_istore (lv' := [some (.inr 17), some (.inl a1), some (.inl a2), some (.inl (σ8.2 (rfo (Int.toNat (σ8.1 17 1)) 15) (Int.toNat (a1 + 2)))), some (.inl 0), none]) d_KWriter_target_59 rfl rfl ?_
      refine k_sb (lv' := [some (.inr 17), some (.inl a1), some (.inl a2), some (.inl (σ8.2 (rfo (Int.toNat (σ8.1 17 1)) 15) (Int.toNat (a1 + 2)))), some (.inl 0), none]) (sb_s (sb_s (sb_s (sb_s (sb_s (sb_s sb_nil)))))) ?_
      refine k_loop (S := Int) (st := fun _ => []) (lv := fun s17 => [some (.inr 17), some (.inl a1), some (.inl a2), some (.inl (σ8.2 (rfo (Int.toNat (σ8.1 17 1)) 15) (Int.toNat (a1 + 2)))), some (.inl s17), none]) (fun K15 hK16 s17 σ18 h => ?_) 0 _ h
      refine k_iload d_KWriter_target_61 rfl ?_
      refine k_iload_n d_KWriter_target_63 rfl ?_
      refine k_icge d_KWriter_target_64 rfl (fun c19 => ?_) (fun c19 => ?_)
      · have h := ineg c19 h
        refine k_aload_n d_KWriter_target_119 rfl ?_
        refine k_ldc d_KWriter_target_120 ks_16_218 rfl ?_
        refine k_cvv [.inr 1174] d_KWriter_target_122 ml_16_93 rfl rfl ob_17 rfl (s_KWriter_say hL (by omega) it_1174 h) (fun σ20 h => ?_)
        refine k_iload_n d_KWriter_target_125 rfl ?_
        refine k_join (S := Unit) (pc' := 135) (st' := fun s24 => []) (lv' := fun s24 => [none, none, none, none, none, none]) (fun s24 σ25 h => ?_) (fun J22 hJ23 h => ?_) h
        · exact k_ret d_KWriter_target_135 h
        · refine k_ifne d_KWriter_target_126 rfl (fun c26 => ?_) (fun c26 => ?_)
          · have h := ineg c26 h
            exact k_sb (sb_n (sb_n (sb_n (sb_n (sb_n (sb_s sb_nil)))))) (hJ23 () _ h)
          · have h := ipos c26 h
            refine k_aload_n d_KWriter_target_129 rfl ?_
            refine k_ldc d_KWriter_target_130 ks_16_115 rfl ?_
            refine k_cvv [.inr 1166] d_KWriter_target_132 ml_16_93 rfl rfl ob_17 rfl (s_KWriter_say hL (by omega) it_1166 h) (fun σ27 h => ?_)
            exact k_sb (sb_n (sb_n (sb_n (sb_n (sb_n (sb_s sb_nil)))))) (hJ23 () _ h)
      · have h := ipos c19 h
        refine k_aload_n d_KWriter_target_67 rfl ?_
        obtain ⟨y29, h⟩ := h
        refine k_getD (x := (σ18.1 17 1)) d_KWriter_target_68 fl_16_74 ob_17 rfl rfl (dyD_pos y29) ?_
        refine k_getR d_KWriter_target_71 fl_16_122 (doc_ob (dyD_doc y29)) (dfr_1 (dyD_doc y29)) ?_
        refine k_aload_n d_KWriter_target_74 rfl ?_
        refine k_getD (x := (σ18.1 17 1)) d_KWriter_target_75 fl_16_74 ob_17 rfl rfl (dyD_pos y29) ?_
        refine k_getR d_KWriter_target_78 fl_16_215 (doc_ob (dyD_doc y29)) (dfr_15 (dyD_doc y29)) ?_
        refine k_iload_n d_KWriter_target_81 rfl ?_
        refine k_iconst d_KWriter_target_82 cI_1 ?_
        obtain ⟨p43, h⟩ := h
        refine k_iadd d_KWriter_target_83 p43 ?_
        obtain ⟨p42, h⟩ := h
        refine k_ild (x := (σ18.2 (rfo (Int.toNat (σ18.1 17 1)) 15) (Int.toNat (a1 + 1)))) d_KWriter_target_84 (drI_15 (dyD_doc y29)) p42 rfl ?_
        refine k_iload d_KWriter_target_85 rfl ?_
        obtain ⟨p41, h⟩ := h
        refine k_iadd d_KWriter_target_87 p41 ?_
        obtain ⟨p40, h⟩ := h
        refine k_ild (x := (σ18.2 (rfo (Int.toNat (σ18.1 17 1)) 1) (Int.toNat ((σ18.2 (rfo (Int.toNat (σ18.1 17 1)) 15) (Int.toNat (a1 + 1))) + s17)))) d_KWriter_target_88 (drI_1 (dyD_doc y29)) p40 rfl ?_
        refine k_istore (lv' := [some (.inr 17), some (.inl a1), some (.inl a2), some (.inl (σ8.2 (rfo (Int.toNat (σ8.1 17 1)) 15) (Int.toNat (a1 + 2)))), some (.inl s17), some (.inl (σ18.2 (rfo (Int.toNat (σ18.1 17 1)) 1) (Int.toNat ((σ18.2 (rfo (Int.toNat (σ18.1 17 1)) 15) (Int.toNat (a1 + 1))) + s17))))]) d_KWriter_target_89 rfl rfl ?_
        refine k_iload d_KWriter_target_91 rfl ?_
        refine k_bipush d_KWriter_target_93 cB_13 ?_
        refine k_join (S := Unit) (pc' := 113) (st' := fun s32 => []) (lv' := fun s32 => [some (.inr 17), some (.inl a1), some (.inl a2), some (.inl (σ8.2 (rfo (Int.toNat (σ8.1 17 1)) 15) (Int.toNat (a1 + 2)))), some (.inl s17), none]) (fun s32 σ33 h => ?_) (fun J30 hJ31 h => ?_) h
        · obtain ⟨p34, h⟩ := h
          refine k_iinc (lv' := [some (.inr 17), some (.inl a1), some (.inl a2), some (.inl (σ8.2 (rfo (Int.toNat (σ8.1 17 1)) 15) (Int.toNat (a1 + 2)))), some (.inl (s17 + 1)), none]) d_KWriter_target_113 cI_1 rfl rfl p34 rfl ?_
          refine k_goto d_KWriter_target_116 rfl ?_
          exact k_sb (sb_s (sb_s (sb_s (sb_s (sb_s (sb_s sb_nil)))))) (hK16 (s17 + 1) _ h)
        · refine k_icne d_KWriter_target_95 rfl (fun c35 => ?_) (fun c35 => ?_)
          · have h := ineg c35 h
            refine k_aload_n d_KWriter_target_107 rfl ?_
            refine k_iload d_KWriter_target_108 rfl ?_
            refine k_cvv [.inl (σ18.2 (rfo (Int.toNat (σ18.1 17 1)) 1) (Int.toNat ((σ18.2 (rfo (Int.toNat (σ18.1 17 1)) 15) (Int.toNat (a1 + 1))) + s17)))] d_KWriter_target_110 ml_16_71 rfl rfl ob_17 rfl (s_KWriter_put hL (by omega)  h) (fun σ36 h => ?_)
            exact k_sb (sb_s (sb_s (sb_s (sb_s (sb_s (sb_n sb_nil)))))) (hJ31 () _ h)
          · have h := ipos c35 h
            refine k_aload_n d_KWriter_target_98 rfl ?_
            refine k_ldc d_KWriter_target_99 ks_16_99 rfl ?_
            refine k_cvv [.inr 1158] d_KWriter_target_101 ml_16_93 rfl rfl ob_17 rfl (s_KWriter_say hL (by omega) it_1158 h) (fun σ38 h => ?_)
            refine k_goto d_KWriter_target_104 rfl ?_
            exact k_sb (sb_s (sb_s (sb_s (sb_s (sb_s (sb_n sb_nil)))))) (hJ31 () _ h)
    · refine k_ifle d_KWriter_target_49 rfl (fun c44 => ?_) (fun c44 => ?_)
      · have h := ineg c44 h
        exact k_sb (sb_s (sb_s (sb_s (sb_s (sb_s (sb_s sb_nil)))))) (hJ12 () _ h)
      · have h := ipos c44 h
        refine k_aload_n d_KWriter_target_52 rfl ?_
        refine k_ldc d_KWriter_target_53 ks_16_205 rfl ?_
        refine k_cvv [.inr 1172] d_KWriter_target_55 ml_16_93 rfl rfl ob_17 rfl (s_KWriter_say hL (by omega) it_1172 h) (fun σ45 h => ?_)
        exact k_sb (sb_s (sb_s (sb_s (sb_s (sb_s (sb_s sb_nil)))))) (hJ12 () _ h)
  · have hX52 : (¬ a2 = 0 ∧ ((σ.1 17 8) = 0)) → OkI BF L (d + 1) 16 b_KWriter_target 6 0 11 [] [some (.inr 17), some (.inl a1), some (.inl a2), none, none, none] σ (qv Q) := fun e54 => by
      have h := ipos e54 h
      refine k_aload_n d_KWriter_target_11 rfl ?_
      refine k_ldc d_KWriter_target_12 ks_16_115 rfl ?_
      refine k_cvv [.inr 1166] d_KWriter_target_14 ml_16_93 rfl rfl ob_17 rfl (s_KWriter_say hL (by omega) it_1166 h) (fun σ50 h => ?_)
      exact k_sb (sb_s (sb_s (sb_s (sb_s (sb_s (sb_s sb_nil)))))) (hJ2 () _ h)
    have hY53 : ¬ (¬ a2 = 0 ∧ ((σ.1 17 8) = 0)) → OkI BF L (d + 1) 16 b_KWriter_target 6 0 17 [] [some (.inr 17), some (.inl a1), some (.inl a2), none, none, none] σ (qv Q) := fun e54 => by
      have h := ineg e54 h
      exact k_sb (sb_s (sb_s (sb_s (sb_s (sb_s (sb_s sb_nil)))))) (hJ2 () _ h)
    refine k_ifeq d_KWriter_target_1 rfl (fun c55 => ?_) (fun c55 => ?_)
    · exact hY53 (fun z => z.1 c55)
    · refine k_aload_n d_KWriter_target_4 rfl ?_
      refine k_getI (x := (σ.1 17 8)) d_KWriter_target_5 fl_16_210 ob_17 rfl rfl ?_
      refine k_ifne d_KWriter_target_8 rfl (fun c56 => ?_) (fun c56 => ?_)
      · exact hY53 (fun z => (c56) z.2)
      · exact hX52 (⟨c55, c56⟩)
theorem d_KWriter_write_0 : decode b_KWriter_write 0 = .ok (.aload_n 0, 1) := by decide +kernel
theorem d_KWriter_write_1 : decode b_KWriter_write 1 = .ok (.iconst 0, 1) := by decide +kernel
theorem d_KWriter_write_2 : decode b_KWriter_write 2 = .ok (.putfield 30, 3) := by decide +kernel
theorem d_KWriter_write_5 : decode b_KWriter_write 5 = .ok (.aload_n 0, 1) := by decide +kernel
theorem d_KWriter_write_6 : decode b_KWriter_write 6 = .ok (.iconst 0, 1) := by decide +kernel
theorem d_KWriter_write_7 : decode b_KWriter_write 7 = .ok (.putfield 52, 3) := by decide +kernel
theorem d_KWriter_write_10 : decode b_KWriter_write 10 = .ok (.aload_n 0, 1) := by decide +kernel
theorem d_KWriter_write_11 : decode b_KWriter_write 11 = .ok (.iconst 0, 1) := by decide +kernel
theorem d_KWriter_write_12 : decode b_KWriter_write 12 = .ok (.putfield 210, 3) := by decide +kernel
theorem d_KWriter_write_15 : decode b_KWriter_write 15 = .ok (.aload_n 0, 1) := by decide +kernel
theorem d_KWriter_write_16 : decode b_KWriter_write 16 = .ok (.iconst 0, 1) := by decide +kernel
theorem d_KWriter_write_17 : decode b_KWriter_write 17 = .ok (.putfield 48, 3) := by decide +kernel
theorem d_KWriter_write_20 : decode b_KWriter_write 20 = .ok (.iconst 0, 1) := by decide +kernel
theorem d_KWriter_write_21 : decode b_KWriter_write 21 = .ok (.istore_n 1, 1) := by decide +kernel
theorem d_KWriter_write_22 : decode b_KWriter_write 22 = .ok (.iconst 0, 1) := by decide +kernel
theorem d_KWriter_write_23 : decode b_KWriter_write 23 = .ok (.istore_n 2, 1) := by decide +kernel
theorem d_KWriter_write_24 : decode b_KWriter_write 24 = .ok (.iload_n 2, 1) := by decide +kernel
theorem d_KWriter_write_25 : decode b_KWriter_write 25 = .ok (.aload_n 0, 1) := by decide +kernel
theorem d_KWriter_write_26 : decode b_KWriter_write 26 = .ok (.getfield 74, 3) := by decide +kernel
theorem d_KWriter_write_29 : decode b_KWriter_write 29 = .ok (.getfield 220, 3) := by decide +kernel
theorem d_KWriter_write_32 : decode b_KWriter_write 32 = .ok (.if_icmp .ge 163, 3) := by decide +kernel
theorem d_KWriter_write_35 : decode b_KWriter_write 35 = .ok (.aload_n 0, 1) := by decide +kernel
theorem d_KWriter_write_36 : decode b_KWriter_write 36 = .ok (.getfield 74, 3) := by decide +kernel
theorem d_KWriter_write_39 : decode b_KWriter_write 39 = .ok (.getfield 215, 3) := by decide +kernel
theorem d_KWriter_write_42 : decode b_KWriter_write 42 = .ok (.iload_n 2, 1) := by decide +kernel
theorem d_KWriter_write_43 : decode b_KWriter_write 43 = .ok (.iaload, 1) := by decide +kernel
theorem d_KWriter_write_44 : decode b_KWriter_write 44 = .ok (.istore_n 3, 1) := by decide +kernel
theorem d_KWriter_write_45 : decode b_KWriter_write 45 = .ok (.iinc 2 1, 3) := by decide +kernel
theorem d_KWriter_write_48 : decode b_KWriter_write 48 = .ok (.iload_n 3, 1) := by decide +kernel
theorem d_KWriter_write_49 : decode b_KWriter_write 49 = .ok (.ifCond .ne 14, 3) := by decide +kernel
theorem d_KWriter_write_52 : decode b_KWriter_write 52 = .ok (.aload_n 0, 1) := by decide +kernel
theorem d_KWriter_write_53 : decode b_KWriter_write 53 = .ok (.iload_n 1, 1) := by decide +kernel
theorem d_KWriter_write_54 : decode b_KWriter_write 54 = .ok (.invokevirtual 223, 3) := by decide +kernel
theorem d_KWriter_write_57 : decode b_KWriter_write 57 = .ok (.iinc 1 1, 3) := by decide +kernel
theorem d_KWriter_write_60 : decode b_KWriter_write 60 = .ok (.goto 132, 3) := by decide +kernel
theorem d_KWriter_write_63 : decode b_KWriter_write 63 = .ok (.iload_n 3, 1) := by decide +kernel
theorem d_KWriter_write_64 : decode b_KWriter_write 64 = .ok (.iconst 1, 1) := by decide +kernel
theorem d_KWriter_write_65 : decode b_KWriter_write 65 = .ok (.if_icmp .ne 49, 3) := by decide +kernel
theorem d_KWriter_write_68 : decode b_KWriter_write 68 = .ok (.aload_n 0, 1) := by decide +kernel
theorem d_KWriter_write_69 : decode b_KWriter_write 69 = .ok (.dup, 1) := by decide +kernel
theorem d_KWriter_write_70 : decode b_KWriter_write 70 = .ok (.getfield 210, 3) := by decide +kernel
theorem d_KWriter_write_73 : decode b_KWriter_write 73 = .ok (.iconst 1, 1) := by decide +kernel
theorem d_KWriter_write_74 : decode b_KWriter_write 74 = .ok (.isub, 1) := by decide +kernel
theorem d_KWriter_write_75 : decode b_KWriter_write 75 = .ok (.putfield 210, 3) := by decide +kernel
theorem d_KWriter_write_78 : decode b_KWriter_write 78 = .ok (.aload_n 0, 1) := by decide +kernel
theorem d_KWriter_write_79 : decode b_KWriter_write 79 = .ok (.ldc 226, 2) := by decide +kernel
theorem d_KWriter_write_81 : decode b_KWriter_write 81 = .ok (.invokevirtual 93, 3) := by decide +kernel
theorem d_KWriter_write_84 : decode b_KWriter_write 84 = .ok (.aload_n 0, 1) := by decide +kernel
theorem d_KWriter_write_85 : decode b_KWriter_write 85 = .ok (.aload_n 0, 1) := by decide +kernel
theorem d_KWriter_write_86 : decode b_KWriter_write 86 = .ok (.getfield 74, 3) := by decide +kernel
theorem d_KWriter_write_89 : decode b_KWriter_write 89 = .ok (.getfield 195, 3) := by decide +kernel
theorem d_KWriter_write_92 : decode b_KWriter_write 92 = .ok (.aload_n 0, 1) := by decide +kernel
theorem d_KWriter_write_93 : decode b_KWriter_write 93 = .ok (.getfield 16, 3) := by decide +kernel
theorem d_KWriter_write_96 : decode b_KWriter_write 96 = .ok (.aload_n 0, 1) := by decide +kernel
theorem d_KWriter_write_97 : decode b_KWriter_write 97 = .ok (.getfield 210, 3) := by decide +kernel
theorem d_KWriter_write_100 : decode b_KWriter_write 100 = .ok (.iaload, 1) := by decide +kernel
theorem d_KWriter_write_101 : decode b_KWriter_write 101 = .ok (.iaload, 1) := by decide +kernel
theorem d_KWriter_write_102 : decode b_KWriter_write 102 = .ok (.invokevirtual 198, 3) := by decide +kernel
theorem d_KWriter_write_105 : decode b_KWriter_write 105 = .ok (.aload_n 0, 1) := by decide +kernel
theorem d_KWriter_write_106 : decode b_KWriter_write 106 = .ok (.ldc 101, 2) := by decide +kernel
theorem d_KWriter_write_108 : decode b_KWriter_write 108 = .ok (.invokevirtual 93, 3) := by decide +kernel
theorem d_KWriter_write_111 : decode b_KWriter_write 111 = .ok (.goto 81, 3) := by decide +kernel
theorem d_KWriter_write_114 : decode b_KWriter_write 114 = .ok (.iload_n 3, 1) := by decide +kernel
theorem d_KWriter_write_115 : decode b_KWriter_write 115 = .ok (.iconst 2, 1) := by decide +kernel
theorem d_KWriter_write_116 : decode b_KWriter_write 116 = .ok (.if_icmp .ne 59, 3) := by decide +kernel
theorem d_KWriter_write_119 : decode b_KWriter_write 119 = .ok (.iconst 0, 1) := by decide +kernel
theorem d_KWriter_write_120 : decode b_KWriter_write 120 = .ok (.istore 4, 2) := by decide +kernel
theorem d_KWriter_write_122 : decode b_KWriter_write 122 = .ok (.iload 4, 2) := by decide +kernel
theorem d_KWriter_write_124 : decode b_KWriter_write 124 = .ok (.aload_n 0, 1) := by decide +kernel
theorem d_KWriter_write_125 : decode b_KWriter_write 125 = .ok (.getfield 74, 3) := by decide +kernel
theorem d_KWriter_write_128 : decode b_KWriter_write 128 = .ok (.getfield 215, 3) := by decide +kernel
theorem d_KWriter_write_131 : decode b_KWriter_write 131 = .ok (.iload_n 2, 1) := by decide +kernel
theorem d_KWriter_write_132 : decode b_KWriter_write 132 = .ok (.iconst 1, 1) := by decide +kernel
theorem d_KWriter_write_133 : decode b_KWriter_write 133 = .ok (.iadd, 1) := by decide +kernel
theorem d_KWriter_write_134 : decode b_KWriter_write 134 = .ok (.iaload, 1) := by decide +kernel
theorem d_KWriter_write_135 : decode b_KWriter_write 135 = .ok (.if_icmp .ge 34, 3) := by decide +kernel
theorem d_KWriter_write_138 : decode b_KWriter_write 138 = .ok (.aload_n 0, 1) := by decide +kernel
theorem d_KWriter_write_139 : decode b_KWriter_write 139 = .ok (.aload_n 0, 1) := by decide +kernel
theorem d_KWriter_write_140 : decode b_KWriter_write 140 = .ok (.getfield 74, 3) := by decide +kernel
theorem d_KWriter_write_143 : decode b_KWriter_write 143 = .ok (.getfield 122, 3) := by decide +kernel
theorem d_KWriter_write_146 : decode b_KWriter_write 146 = .ok (.aload_n 0, 1) := by decide +kernel
theorem d_KWriter_write_147 : decode b_KWriter_write 147 = .ok (.getfield 74, 3) := by decide +kernel
theorem d_KWriter_write_150 : decode b_KWriter_write 150 = .ok (.getfield 215, 3) := by decide +kernel
theorem d_KWriter_write_153 : decode b_KWriter_write 153 = .ok (.iload_n 2, 1) := by decide +kernel
theorem d_KWriter_write_154 : decode b_KWriter_write 154 = .ok (.iaload, 1) := by decide +kernel
theorem d_KWriter_write_155 : decode b_KWriter_write 155 = .ok (.iload 4, 2) := by decide +kernel
theorem d_KWriter_write_157 : decode b_KWriter_write 157 = .ok (.iadd, 1) := by decide +kernel
theorem d_KWriter_write_158 : decode b_KWriter_write 158 = .ok (.iaload, 1) := by decide +kernel
theorem d_KWriter_write_159 : decode b_KWriter_write 159 = .ok (.iconst 0, 1) := by decide +kernel
theorem d_KWriter_write_160 : decode b_KWriter_write 160 = .ok (.invokevirtual 128, 3) := by decide +kernel
theorem d_KWriter_write_163 : decode b_KWriter_write 163 = .ok (.iinc 4 1, 3) := by decide +kernel
theorem d_KWriter_write_166 : decode b_KWriter_write 166 = .ok (.goto (-44), 3) := by decide +kernel
theorem d_KWriter_write_169 : decode b_KWriter_write 169 = .ok (.iinc 2 2, 3) := by decide +kernel
theorem d_KWriter_write_172 : decode b_KWriter_write 172 = .ok (.goto 20, 3) := by decide +kernel
theorem d_KWriter_write_175 : decode b_KWriter_write 175 = .ok (.aload_n 0, 1) := by decide +kernel
theorem d_KWriter_write_176 : decode b_KWriter_write 176 = .ok (.iload_n 2, 1) := by decide +kernel
theorem d_KWriter_write_177 : decode b_KWriter_write 177 = .ok (.iload_n 1, 1) := by decide +kernel
theorem d_KWriter_write_178 : decode b_KWriter_write 178 = .ok (.ifCond .le 7, 3) := by decide +kernel
theorem d_KWriter_write_181 : decode b_KWriter_write 181 = .ok (.iconst 1, 1) := by decide +kernel
theorem d_KWriter_write_182 : decode b_KWriter_write 182 = .ok (.goto 4, 3) := by decide +kernel
theorem d_KWriter_write_185 : decode b_KWriter_write 185 = .ok (.iconst 0, 1) := by decide +kernel
theorem d_KWriter_write_186 : decode b_KWriter_write 186 = .ok (.invokevirtual 228, 3) := by decide +kernel
theorem d_KWriter_write_189 : decode b_KWriter_write 189 = .ok (.iinc 2 3, 3) := by decide +kernel
theorem d_KWriter_write_192 : decode b_KWriter_write 192 = .ok (.goto (-168), 3) := by decide +kernel
theorem d_KWriter_write_195 : decode b_KWriter_write 195 = .ok (.return_, 1) := by decide +kernel
/-- KWriter_write -/
def w_KWriter_write (L : Nat → Nat)  (Q : IS → Prop) (σ : IS) : Prop := WL (fun (K1 : Int × Int → IS → Prop) (s3 : Int × Int) (σ4 : IS) => dyD (σ4.1 17 1) ∧ if s3.2 < (σ4.1 (Int.toNat (σ4.1 17 1)) 16) then inL L (rfo (Int.toNat (σ4.1 17 1)) 15) s3.2 ∧ inR (s3.2 + 1) ∧ WJ (fun (s9 : Int × Int) (σ10 : IS) => K1 (s9.1, s9.2) σ10) (fun J7 => if (σ4.2 (rfo (Int.toNat (σ4.1 17 1)) 15) (Int.toNat s3.2)) = 0 then w_KWriter_start L s3.1 (fun σ46 => inR (s3.1 + 1) ∧ J7 ((s3.1 + 1), (s3.2 + 1)) σ46) σ4 else if (σ4.2 (rfo (Int.toNat (σ4.1 17 1)) 15) (Int.toNat s3.2)) = 1 then inR ((σ4.1 17 8) - 1) ∧ w_KWriter_say L 1175 (fun σ36 => dyD (σ36.1 17 1) ∧ inL L 246 (σ36.1 17 8) ∧ inL L (rfo (Int.toNat (σ36.1 17 1)) 3) (σ36.2 246 (Int.toNat (σ36.1 17 8))) ∧ w_KWriter_name L (σ36.2 (rfo (Int.toNat (σ36.1 17 1)) 3) (Int.toNat (σ36.2 246 (Int.toNat (σ36.1 17 8))))) (fun σ39 => w_KWriter_say L 1159 (fun σ41 => J7 (s3.1, (s3.2 + 1)) σ41) σ39) σ36) (pf σ4 17 8 ((σ4.1 17 8) - 1)) else if (σ4.2 (rfo (Int.toNat (σ4.1 17 1)) 15) (Int.toNat s3.2)) = 2 then WL (fun (K21 : Int → IS → Prop) (s23 : Int) (σ24 : IS) => dyD (σ24.1 17 1) ∧ inR ((s3.2 + 1) + 1) ∧ inL L (rfo (Int.toNat (σ24.1 17 1)) 15) ((s3.2 + 1) + 1) ∧ if s23 < (σ24.2 (rfo (Int.toNat (σ24.1 17 1)) 15) (Int.toNat ((s3.2 + 1) + 1))) then inL L (rfo (Int.toNat (σ24.1 17 1)) 15) (s3.2 + 1) ∧ inR ((σ24.2 (rfo (Int.toNat (σ24.1 17 1)) 15) (Int.toNat (s3.2 + 1))) + s23) ∧ inL L (rfo (Int.toNat (σ24.1 17 1)) 1) ((σ24.2 (rfo (Int.toNat (σ24.1 17 1)) 15) (Int.toNat (s3.2 + 1))) + s23) ∧ w_KWriter_escape L (σ24.2 (rfo (Int.toNat (σ24.1 17 1)) 1) (Int.toNat ((σ24.2 (rfo (Int.toNat (σ24.1 17 1)) 15) (Int.toNat (s3.2 + 1))) + s23))) 0 (fun σ28 => inR (s23 + 1) ∧ K21 (s23 + 1) σ28) σ24 else inR ((s3.2 + 1) + 2) ∧ J7 (s3.1, ((s3.2 + 1) + 2)) σ24) 0 σ4 else w_KWriter_target L (s3.2 + 1) (if 0 < s3.1 then (1 : Int) else (0 : Int)) (fun σ14 => inR ((s3.2 + 1) + 3) ∧ J7 (s3.1, ((s3.2 + 1) + 3)) σ14) σ4) else Q σ4) (0, 0) (pf (pf (pf (pf σ 17 4 0) 17 9 0) 17 8 0) 17 5 0)
set_option maxHeartbeats 4000000 in
set_option maxRecDepth 20000 in
theorem s_KWriter_write {L : Nat → Nat} (hL : ∀ r, L r < 2147483648) {d : Nat} (hd : 8 ≤ d)  {Q : IS → Prop} {σ : IS}  (h : w_KWriter_write L  Q σ) : OkI BF L d 16 b_KWriter_write 5 0 0 [] [some (.inr 17)] σ (qv Q) := by
  unfold w_KWriter_write at h
  obtain ⟨d, rfl⟩ : ∃ e, d = e + 1 := ⟨d - 1, by omega⟩
  refine k_sb (lv' := [some (.inr 17), none, none, none, none]) (sb_s (sb_e (sb_e (sb_e (sb_e sb_nil))))) ?_
  refine k_aload_n d_KWriter_write_0 rfl ?_
  refine k_iconst d_KWriter_write_1 cI_0 ?_
  refine k_putI d_KWriter_write_2 fl_16_30 ob_17 rfl ?_
  refine k_aload_n d_KWriter_write_5 rfl ?_
  refine k_iconst d_KWriter_write_6 cI_0 ?_
  refine k_putI d_KWriter_write_7 fl_16_52 ob_17 rfl ?_
  refine k_aload_n d_KWriter_write_10 rfl ?_
  refine k_iconst d_KWriter_write_11 cI_0 ?_
  refine k_putI d_KWriter_write_12 fl_16_210 ob_17 rfl ?_
  refine k_aload_n d_KWriter_write_15 rfl ?_
  refine k_iconst d_KWriter_write_16 cI_0 ?_
  refine k_putZ d_KWriter_write_17 fl_16_48 ob_17 rfl (Or.inl rfl) ?_
  refine k_iconst d_KWriter_write_20 cI_0 ?_
  refine k_istore_n (lv' := [some (.inr 17), some (.inl 0), none, none, none]) d_KWriter_write_21 rfl rfl ?_
  refine k_iconst d_KWriter_write_22 cI_0 ?_
  refine k_istore_n (lv' := [some (.inr 17), some (.inl 0), some (.inl 0), none, none]) d_KWriter_write_23 rfl rfl ?_
  refine k_sb (lv' := [some (.inr 17), some (.inl 0), some (.inl 0), none, none]) (sb_s (sb_s (sb_s (sb_s (sb_s sb_nil))))) ?_
  refine k_loop (S := Int × Int) (st := fun _ => []) (lv := fun s3 => [some (.inr 17), some (.inl s3.1), some (.inl s3.2), none, none]) (fun K1 hK2 s3 σ4 h => ?_) (0, 0) _ h
  refine k_iload_n d_KWriter_write_24 rfl ?_
  refine k_aload_n d_KWriter_write_25 rfl ?_
  obtain ⟨y5, h⟩ := h
  refine k_getD (x := (σ4.1 17 1)) d_KWriter_write_26 fl_16_74 ob_17 rfl rfl (dyD_pos y5) ?_
  refine k_getI (x := (σ4.1 (Int.toNat (σ4.1 17 1)) 16)) d_KWriter_write_29 fl_16_220 (doc_ob (dyD_doc y5)) (dfi_16 (dyD_doc y5)) rfl ?_
  refine k_icge d_KWriter_write_32 rfl (fun c6 => ?_) (fun c6 => ?_)
  · have h := ineg c6 h
    exact k_ret d_KWriter_write_195 h
  · have h := ipos c6 h
    refine k_aload_n d_KWriter_write_35 rfl ?_
    refine k_getD (x := (σ4.1 17 1)) d_KWriter_write_36 fl_16_74 ob_17 rfl rfl (dyD_pos y5) ?_
    refine k_getR d_KWriter_write_39 fl_16_215 (doc_ob (dyD_doc y5)) (dfr_15 (dyD_doc y5)) ?_
    refine k_iload_n d_KWriter_write_42 rfl ?_
    obtain ⟨p50, h⟩ := h
    refine k_ild (x := (σ4.2 (rfo (Int.toNat (σ4.1 17 1)) 15) (Int.toNat s3.2))) d_KWriter_write_43 (drI_15 (dyD_doc y5)) p50 rfl ?_
    refine k_istore_n (lv' := [some (.inr 17), some (.inl s3.1), some (.inl s3.2), some (.inl (σ4.2 (rfo (Int.toNat (σ4.1 17 1)) 15) (Int.toNat s3.2))), none]) d_KWriter_write_44 rfl rfl ?_
    obtain ⟨p49, h⟩ := h
    refine k_iinc (lv' := [some (.inr 17), some (.inl s3.1), some (.inl (s3.2 + 1)), some (.inl (σ4.2 (rfo (Int.toNat (σ4.1 17 1)) 15) (Int.toNat s3.2))), none]) d_KWriter_write_45 cI_1 rfl rfl p49 rfl ?_
    refine k_iload_n d_KWriter_write_48 rfl ?_
    refine k_join (S := Int × Int) (pc' := 192) (st' := fun s9 => []) (lv' := fun s9 => [some (.inr 17), some (.inl s9.1), some (.inl s9.2), none, none]) (fun s9 σ10 h => ?_) (fun J7 hJ8 h => ?_) h
    · refine k_goto d_KWriter_write_192 rfl ?_
      exact k_sb (sb_s (sb_s (sb_s (sb_s (sb_s sb_nil))))) (hK2 (s9.1, s9.2) _ h)
    · refine k_ifne d_KWriter_write_49 rfl (fun c11 => ?_) (fun c11 => ?_)
      · have h := ineg c11 h
        refine k_iload_n d_KWriter_write_63 rfl ?_
        refine k_iconst d_KWriter_write_64 cI_1 ?_
        refine k_icne d_KWriter_write_65 rfl (fun c12 => ?_) (fun c12 => ?_)
        · have h := ineg c12 h
          refine k_iload_n d_KWriter_write_114 rfl ?_
          refine k_iconst d_KWriter_write_115 cI_2 ?_
          refine k_icne d_KWriter_write_116 rfl (fun c13 => ?_) (fun c13 => ?_)
          · have h := ineg c13 h
            refine k_aload_n d_KWriter_write_175 rfl ?_
            refine k_iload_n d_KWriter_write_176 rfl ?_
            refine k_iload_n d_KWriter_write_177 rfl ?_
            have hV17 : OkI BF L (d + 1) 16 b_KWriter_write 5 0 186 [.inl (if 0 < s3.1 then (1 : Int) else (0 : Int)), .inl (s3.2 + 1), .inr 17] [some (.inr 17), some (.inl s3.1), some (.inl (s3.2 + 1)), some (.inl (σ4.2 (rfo (Int.toNat (σ4.1 17 1)) 15) (Int.toNat s3.2))), none] σ4 (qv Q) := by
              refine k_cvv [.inl (s3.2 + 1), .inl (if 0 < s3.1 then (1 : Int) else (0 : Int))] d_KWriter_write_186 ml_16_228 rfl rfl ob_17 rfl (s_KWriter_target hL (by omega)  h) (fun σ14 h => ?_)
              obtain ⟨p16, h⟩ := h
              refine k_iinc (lv' := [some (.inr 17), some (.inl s3.1), some (.inl ((s3.2 + 1) + 3)), some (.inl (σ4.2 (rfo (Int.toNat (σ4.1 17 1)) 15) (Int.toNat s3.2))), none]) d_KWriter_write_189 cI_3 rfl rfl p16 rfl ?_
              exact k_sb (sb_s (sb_s (sb_s (sb_n (sb_s sb_nil))))) (hJ8 (s3.1, ((s3.2 + 1) + 3)) _ h)
            refine k_ifle d_KWriter_write_178 rfl (fun c18 => ?_) (fun c18 => ?_)
            · have hV20 := k_eqI (if_neg c18) hV17
              refine k_iconst d_KWriter_write_185 cI_0 ?_
              exact hV20
            · have hV19 := k_eqI (if_pos c18) hV17
              refine k_iconst d_KWriter_write_181 cI_1 ?_
              refine k_goto d_KWriter_write_182 rfl ?_
              exact hV19
          · have h := ipos c13 h
            refine k_iconst d_KWriter_write_119 cI_0 ?_
            refine k_istore (lv' := [some (.inr 17), some (.inl s3.1), some (.inl (s3.2 + 1)), some (.inl (σ4.2 (rfo (Int.toNat (σ4.1 17 1)) 15) (Int.toNat s3.2))), some (.inl 0)]) d_KWriter_write_120 rfl rfl ?_
            refine k_sb (lv' := [some (.inr 17), some (.inl s3.1), some (.inl (s3.2 + 1)), none, some (.inl 0)]) (sb_s (sb_s (sb_s (sb_n (sb_s sb_nil))))) ?_
            refine k_loop (S := Int) (st := fun _ => []) (lv := fun s23 => [some (.inr 17), some (.inl s3.1), some (.inl (s3.2 + 1)), none, some (.inl s23)]) (fun K21 hK22 s23 σ24 h => ?_) 0 _ h
            refine k_iload d_KWriter_write_122 rfl ?_
            refine k_aload_n d_KWriter_write_124 rfl ?_
            obtain ⟨y25, h⟩ := h
            refine k_getD (x := (σ24.1 17 1)) d_KWriter_write_125 fl_16_74 ob_17 rfl rfl (dyD_pos y25) ?_
            refine k_getR d_KWriter_write_128 fl_16_215 (doc_ob (dyD_doc y25)) (dfr_15 (dyD_doc y25)) ?_
            refine k_iload_n d_KWriter_write_131 rfl ?_
            refine k_iconst d_KWriter_write_132 cI_1 ?_
            obtain ⟨p35, h⟩ := h
            refine k_iadd d_KWriter_write_133 p35 ?_
            obtain ⟨p34, h⟩ := h
            refine k_ild (x := (σ24.2 (rfo (Int.toNat (σ24.1 17 1)) 15) (Int.toNat ((s3.2 + 1) + 1)))) d_KWriter_write_134 (drI_15 (dyD_doc y25)) p34 rfl ?_
            refine k_icge d_KWriter_write_135 rfl (fun c26 => ?_) (fun c26 => ?_)
            · have h := ineg c26 h
              obtain ⟨p27, h⟩ := h
              refine k_iinc (lv' := [some (.inr 17), some (.inl s3.1), some (.inl ((s3.2 + 1) + 2)), none, some (.inl s23)]) d_KWriter_write_169 cI_2 rfl rfl p27 rfl ?_
              refine k_goto d_KWriter_write_172 rfl ?_
              exact k_sb (sb_s (sb_s (sb_s (sb_s (sb_n sb_nil))))) (hJ8 (s3.1, ((s3.2 + 1) + 2)) _ h)
            · have h := ipos c26 h
              refine k_aload_n d_KWriter_write_138 rfl ?_
              refine k_aload_n d_KWriter_write_139 rfl ?_
              refine k_getD (x := (σ24.1 17 1)) d_KWriter_write_140 fl_16_74 ob_17 rfl rfl (dyD_pos y25) ?_
              refine k_getR d_KWriter_write_143 fl_16_122 (doc_ob (dyD_doc y25)) (dfr_1 (dyD_doc y25)) ?_
              refine k_aload_n d_KWriter_write_146 rfl ?_
              refine k_getD (x := (σ24.1 17 1)) d_KWriter_write_147 fl_16_74 ob_17 rfl rfl (dyD_pos y25) ?_
              refine k_getR d_KWriter_write_150 fl_16_215 (doc_ob (dyD_doc y25)) (dfr_15 (dyD_doc y25)) ?_
              refine k_iload_n d_KWriter_write_153 rfl ?_
              obtain ⟨p33, h⟩ := h
              refine k_ild (x := (σ24.2 (rfo (Int.toNat (σ24.1 17 1)) 15) (Int.toNat (s3.2 + 1)))) d_KWriter_write_154 (drI_15 (dyD_doc y25)) p33 rfl ?_
              refine k_iload d_KWriter_write_155 rfl ?_
              obtain ⟨p32, h⟩ := h
              refine k_iadd d_KWriter_write_157 p32 ?_
              obtain ⟨p31, h⟩ := h
              refine k_ild (x := (σ24.2 (rfo (Int.toNat (σ24.1 17 1)) 1) (Int.toNat ((σ24.2 (rfo (Int.toNat (σ24.1 17 1)) 15) (Int.toNat (s3.2 + 1))) + s23)))) d_KWriter_write_158 (drI_1 (dyD_doc y25)) p31 rfl ?_
              refine k_iconst d_KWriter_write_159 cI_0 ?_
              refine k_cvv [.inl (σ24.2 (rfo (Int.toNat (σ24.1 17 1)) 1) (Int.toNat ((σ24.2 (rfo (Int.toNat (σ24.1 17 1)) 15) (Int.toNat (s3.2 + 1))) + s23))), .inl 0] d_KWriter_write_160 ml_16_128 rfl rfl ob_17 rfl (s_KWriter_escape hL (by omega)  h) (fun σ28 h => ?_)
              obtain ⟨p30, h⟩ := h
              refine k_iinc (lv' := [some (.inr 17), some (.inl s3.1), some (.inl (s3.2 + 1)), none, some (.inl (s23 + 1))]) d_KWriter_write_163 cI_1 rfl rfl p30 rfl ?_
              refine k_goto d_KWriter_write_166 rfl ?_
              exact k_sb (sb_s (sb_s (sb_s (sb_s (sb_s sb_nil))))) (hK22 (s23 + 1) _ h)
        · have h := ipos c12 h
          refine k_aload_n d_KWriter_write_68 rfl ?_
          refine k_dup d_KWriter_write_69 ?_
          refine k_getI (x := (σ4.1 17 8)) d_KWriter_write_70 fl_16_210 ob_17 rfl rfl ?_
          refine k_iconst d_KWriter_write_73 cI_1 ?_
          obtain ⟨p45, h⟩ := h
          refine k_isub d_KWriter_write_74 p45 ?_
          refine k_putI d_KWriter_write_75 fl_16_210 ob_17 rfl ?_
          refine k_aload_n d_KWriter_write_78 rfl ?_
          refine k_ldc d_KWriter_write_79 ks_16_226 rfl ?_
          refine k_cvv [.inr 1175] d_KWriter_write_81 ml_16_93 rfl rfl ob_17 rfl (s_KWriter_say hL (by omega) it_1175 h) (fun σ36 h => ?_)
          refine k_aload_n d_KWriter_write_84 rfl ?_
          refine k_aload_n d_KWriter_write_85 rfl ?_
          obtain ⟨y38, h⟩ := h
          refine k_getD (x := (σ36.1 17 1)) d_KWriter_write_86 fl_16_74 ob_17 rfl rfl (dyD_pos y38) ?_
          refine k_getR d_KWriter_write_89 fl_16_195 (doc_ob (dyD_doc y38)) (dfr_3 (dyD_doc y38)) ?_
          refine k_aload_n d_KWriter_write_92 rfl ?_
          refine k_getR d_KWriter_write_93 fl_16_16 ob_17 rfl ?_
          refine k_aload_n d_KWriter_write_96 rfl ?_
          refine k_getI (x := (σ36.1 17 8)) d_KWriter_write_97 fl_16_210 ob_17 rfl rfl ?_
          obtain ⟨p44, h⟩ := h
          refine k_ild (x := (σ36.2 246 (Int.toNat (σ36.1 17 8)))) d_KWriter_write_100 rI_246 p44 rfl ?_
          obtain ⟨p43, h⟩ := h
          refine k_ild (x := (σ36.2 (rfo (Int.toNat (σ36.1 17 1)) 3) (Int.toNat (σ36.2 246 (Int.toNat (σ36.1 17 8)))))) d_KWriter_write_101 (drI_3 (dyD_doc y38)) p43 rfl ?_
          refine k_cvv [.inl (σ36.2 (rfo (Int.toNat (σ36.1 17 1)) 3) (Int.toNat (σ36.2 246 (Int.toNat (σ36.1 17 8)))))] d_KWriter_write_102 ml_16_198 rfl rfl ob_17 rfl (s_KWriter_name hL (by omega)  h) (fun σ39 h => ?_)
          refine k_aload_n d_KWriter_write_105 rfl ?_
          refine k_ldc d_KWriter_write_106 ks_16_101 rfl ?_
          refine k_cvv [.inr 1159] d_KWriter_write_108 ml_16_93 rfl rfl ob_17 rfl (s_KWriter_say hL (by omega) it_1159 h) (fun σ41 h => ?_)
          refine k_goto d_KWriter_write_111 rfl ?_
          exact k_sb (sb_s (sb_s (sb_s (sb_n (sb_s sb_nil))))) (hJ8 (s3.1, (s3.2 + 1)) _ h)
      · have h := ipos c11 h
        refine k_aload_n d_KWriter_write_52 rfl ?_
        refine k_iload_n d_KWriter_write_53 rfl ?_
        refine k_cvv [.inl s3.1] d_KWriter_write_54 ml_16_223 rfl rfl ob_17 rfl (s_KWriter_start hL (by omega)  h) (fun σ46 h => ?_)
        obtain ⟨p48, h⟩ := h
        refine k_iinc (lv' := [some (.inr 17), some (.inl (s3.1 + 1)), some (.inl (s3.2 + 1)), some (.inl (σ4.2 (rfo (Int.toNat (σ4.1 17 1)) 15) (Int.toNat s3.2))), none]) d_KWriter_write_57 cI_1 rfl rfl p48 rfl ?_
        refine k_goto d_KWriter_write_60 rfl ?_
        exact k_sb (sb_s (sb_s (sb_s (sb_n (sb_s sb_nil))))) (hJ8 ((s3.1 + 1), (s3.2 + 1)) _ h)
theorem d_KWriter_writeRow_0 : decode b_KWriter_writeRow 0 = .ok (.aload_n 0, 1) := by decide +kernel
theorem d_KWriter_writeRow_1 : decode b_KWriter_writeRow 1 = .ok (.aload_n 1, 1) := by decide +kernel
theorem d_KWriter_writeRow_2 : decode b_KWriter_writeRow 2 = .ok (.putfield 74, 3) := by decide +kernel
theorem d_KWriter_writeRow_5 : decode b_KWriter_writeRow 5 = .ok (.aload_n 0, 1) := by decide +kernel
theorem d_KWriter_writeRow_6 : decode b_KWriter_writeRow 6 = .ok (.iload_n 2, 1) := by decide +kernel
theorem d_KWriter_writeRow_7 : decode b_KWriter_writeRow 7 = .ok (.ifCond .eq 7, 3) := by decide +kernel
theorem d_KWriter_writeRow_10 : decode b_KWriter_writeRow 10 = .ok (.iconst 3, 1) := by decide +kernel
theorem d_KWriter_writeRow_11 : decode b_KWriter_writeRow 11 = .ok (.goto 4, 3) := by decide +kernel
theorem d_KWriter_writeRow_14 : decode b_KWriter_writeRow 14 = .ok (.iconst 0, 1) := by decide +kernel
theorem d_KWriter_writeRow_15 : decode b_KWriter_writeRow 15 = .ok (.putfield 26, 3) := by decide +kernel
theorem d_KWriter_writeRow_18 : decode b_KWriter_writeRow 18 = .ok (.aload_n 0, 1) := by decide +kernel
theorem d_KWriter_writeRow_19 : decode b_KWriter_writeRow 19 = .ok (.invokevirtual 231, 3) := by decide +kernel
theorem d_KWriter_writeRow_22 : decode b_KWriter_writeRow 22 = .ok (.aload_n 0, 1) := by decide +kernel
theorem d_KWriter_writeRow_23 : decode b_KWriter_writeRow 23 = .ok (.getfield 30, 3) := by decide +kernel
theorem d_KWriter_writeRow_26 : decode b_KWriter_writeRow 26 = .ok (.ireturn, 1) := by decide +kernel
/-- KWriter_writeRow -/
def w_KWriter_writeRow (L : Nat → Nat) (a1 : Nat) (a2 : Int) (Q : Int → IS → Prop) (σ : IS) : Prop := w_KWriter_write L  (fun σ1 => Q (σ1.1 17 4) σ1) (pf (pf σ 17 1 ((a1 : Nat) : Int)) 17 3 (if a2 = 0 then (0 : Int) else (3 : Int)))
set_option maxHeartbeats 4000000 in
set_option maxRecDepth 20000 in
theorem s_KWriter_writeRow {L : Nat → Nat} (hL : ∀ r, L r < 2147483648) {d : Nat} (hd : 9 ≤ d) {a1 : Nat} {a2 : Int} {Q : Int → IS → Prop} {σ : IS} (ha1 : isDoc a1) (h : w_KWriter_writeRow L a1 a2 Q σ) : OkI BF L d 16 b_KWriter_writeRow 3 1 0 [] [some (.inr 17), some (.inr a1), some (.inl a2)] σ (qi Q) := by
  unfold w_KWriter_writeRow at h
  obtain ⟨d, rfl⟩ : ∃ e, d = e + 1 := ⟨d - 1, by omega⟩
  refine k_sb (lv' := [some (.inr 17), some (.inr a1), some (.inl a2)]) (sb_s (sb_s (sb_s sb_nil))) ?_
  refine k_aload_n d_KWriter_writeRow_0 rfl ?_
  refine k_aload_n d_KWriter_writeRow_1 rfl ?_
  refine k_putD d_KWriter_writeRow_2 fl_16_74 ob_17 rfl (doc_lt ha1) ?_
  refine k_aload_n d_KWriter_writeRow_5 rfl ?_
  refine k_iload_n d_KWriter_writeRow_6 rfl ?_
  have hV3 : OkI BF L (d + 1) 16 b_KWriter_writeRow 3 1 15 [.inl (if a2 = 0 then (0 : Int) else (3 : Int)), .inr 17] [some (.inr 17), some (.inr a1), some (.inl a2)] (pf σ 17 1 ((a1 : Nat) : Int)) (qi Q) := by
    refine k_putI d_KWriter_writeRow_15 fl_16_26 ob_17 rfl ?_
    refine k_aload_n d_KWriter_writeRow_18 rfl ?_
    refine k_cvv [] d_KWriter_writeRow_19 ml_16_231 rfl rfl ob_17 rfl (s_KWriter_write hL (by omega)  h) (fun σ1 h => ?_)
    refine k_aload_n d_KWriter_writeRow_22 rfl ?_
    refine k_getI (x := (σ1.1 17 4)) d_KWriter_writeRow_23 fl_16_30 ob_17 rfl rfl ?_
    exact k_iret d_KWriter_writeRow_26 (Or.inl rfl) h
  refine k_ifeq d_KWriter_writeRow_7 rfl (fun c4 => ?_) (fun c4 => ?_)
  · have hV5 := k_eqI (if_pos c4) hV3
    refine k_iconst d_KWriter_writeRow_14 cI_0 ?_
    exact hV5
  · have hV6 := k_eqI (if_neg c4) hV3
    refine k_iconst d_KWriter_writeRow_10 cI_3 ?_
    refine k_goto d_KWriter_writeRow_11 rfl ?_
    exact hV6
theorem d_K_refusal_9 : decode b_K_refusal 9 = .ok (.iconst 0, 1) := by decide +kernel
theorem d_K_refusal_10 : decode b_K_refusal 10 = .ok (.istore_n 1, 1) := by decide +kernel
theorem d_K_refusal_11 : decode b_K_refusal 11 = .ok (.iconst 0, 1) := by decide +kernel
theorem d_K_refusal_12 : decode b_K_refusal 12 = .ok (.istore_n 2, 1) := by decide +kernel
theorem d_K_refusal_13 : decode b_K_refusal 13 = .ok (.iload_n 2, 1) := by decide +kernel
theorem d_K_refusal_14 : decode b_K_refusal 14 = .ok (.bipush 6, 2) := by decide +kernel
theorem d_K_refusal_16 : decode b_K_refusal 16 = .ok (.if_icmp .ge 21, 3) := by decide +kernel
theorem d_K_refusal_19 : decode b_K_refusal 19 = .ok (.iload_n 1, 1) := by decide +kernel
theorem d_K_refusal_20 : decode b_K_refusal 20 = .ok (.aload_n 0, 1) := by decide +kernel
theorem d_K_refusal_21 : decode b_K_refusal 21 = .ok (.getfield 54, 3) := by decide +kernel
theorem d_K_refusal_24 : decode b_K_refusal 24 = .ok (.getfield 115, 3) := by decide +kernel
theorem d_K_refusal_27 : decode b_K_refusal 27 = .ok (.iload_n 2, 1) := by decide +kernel
theorem d_K_refusal_28 : decode b_K_refusal 28 = .ok (.iaload, 1) := by decide +kernel
theorem d_K_refusal_29 : decode b_K_refusal 29 = .ok (.iadd, 1) := by decide +kernel
theorem d_K_refusal_30 : decode b_K_refusal 30 = .ok (.istore_n 1, 1) := by decide +kernel
theorem d_K_refusal_31 : decode b_K_refusal 31 = .ok (.iinc 2 1, 3) := by decide +kernel
theorem d_K_refusal_34 : decode b_K_refusal 34 = .ok (.goto (-21), 3) := by decide +kernel
theorem d_K_refusal_37 : decode b_K_refusal 37 = .ok (.iload_n 1, 1) := by decide +kernel
theorem d_K_refusal_38 : decode b_K_refusal 38 = .ok (.ifCond .le 6, 3) := by decide +kernel
theorem d_K_refusal_41 : decode b_K_refusal 41 = .ok (.bipush (-2), 2) := by decide +kernel
theorem d_K_refusal_43 : decode b_K_refusal 43 = .ok (.ireturn, 1) := by decide +kernel
theorem d_K_refusal_44 : decode b_K_refusal 44 = .ok (.aload_n 0, 1) := by decide +kernel
theorem d_K_refusal_45 : decode b_K_refusal 45 = .ok (.getfield 54, 3) := by decide +kernel
theorem d_K_refusal_48 : decode b_K_refusal 48 = .ok (.getfield 111, 3) := by decide +kernel
theorem d_K_refusal_51 : decode b_K_refusal 51 = .ok (.bipush 22, 2) := by decide +kernel
theorem d_K_refusal_53 : decode b_K_refusal 53 = .ok (.iaload, 1) := by decide +kernel
theorem d_K_refusal_54 : decode b_K_refusal 54 = .ok (.ifCond .ne 7, 3) := by decide +kernel
theorem d_K_refusal_57 : decode b_K_refusal 57 = .ok (.iconst 1, 1) := by decide +kernel
theorem d_K_refusal_58 : decode b_K_refusal 58 = .ok (.goto 4, 3) := by decide +kernel
theorem d_K_refusal_61 : decode b_K_refusal 61 = .ok (.iconst 0, 1) := by decide +kernel
theorem d_K_refusal_62 : decode b_K_refusal 62 = .ok (.istore_n 2, 1) := by decide +kernel
theorem d_K_refusal_63 : decode b_K_refusal 63 = .ok (.iconst 0, 1) := by decide +kernel
theorem d_K_refusal_64 : decode b_K_refusal 64 = .ok (.istore_n 3, 1) := by decide +kernel
theorem d_K_refusal_65 : decode b_K_refusal 65 = .ok (.iload_n 3, 1) := by decide +kernel
theorem d_K_refusal_66 : decode b_K_refusal 66 = .ok (.aload_n 0, 1) := by decide +kernel
theorem d_K_refusal_67 : decode b_K_refusal 67 = .ok (.getfield 54, 3) := by decide +kernel
theorem d_K_refusal_70 : decode b_K_refusal 70 = .ok (.getfield 171, 3) := by decide +kernel
theorem d_K_refusal_73 : decode b_K_refusal 73 = .ok (.if_icmp .ge 38, 3) := by decide +kernel
theorem d_K_refusal_76 : decode b_K_refusal 76 = .ok (.iload_n 2, 1) := by decide +kernel
theorem d_K_refusal_77 : decode b_K_refusal 77 = .ok (.ifCond .eq 34, 3) := by decide +kernel
theorem d_K_refusal_80 : decode b_K_refusal 80 = .ok (.aload_n 0, 1) := by decide +kernel
theorem d_K_refusal_81 : decode b_K_refusal 81 = .ok (.getfield 54, 3) := by decide +kernel
theorem d_K_refusal_84 : decode b_K_refusal 84 = .ok (.iload_n 3, 1) := by decide +kernel
theorem d_K_refusal_85 : decode b_K_refusal 85 = .ok (.invokevirtual 174, 3) := by decide +kernel
theorem d_K_refusal_88 : decode b_K_refusal 88 = .ok (.ifCond .eq 11, 3) := by decide +kernel
theorem d_K_refusal_91 : decode b_K_refusal 91 = .ok (.aload_n 0, 1) := by decide +kernel
theorem d_K_refusal_92 : decode b_K_refusal 92 = .ok (.iload_n 3, 1) := by decide +kernel
theorem d_K_refusal_93 : decode b_K_refusal 93 = .ok (.invokevirtual 177, 3) := by decide +kernel
theorem d_K_refusal_96 : decode b_K_refusal 96 = .ok (.ifCond .eq 7, 3) := by decide +kernel
theorem d_K_refusal_99 : decode b_K_refusal 99 = .ok (.iconst 1, 1) := by decide +kernel
theorem d_K_refusal_100 : decode b_K_refusal 100 = .ok (.goto 4, 3) := by decide +kernel
theorem d_K_refusal_103 : decode b_K_refusal 103 = .ok (.iconst 0, 1) := by decide +kernel
theorem d_K_refusal_104 : decode b_K_refusal 104 = .ok (.istore_n 2, 1) := by decide +kernel
theorem d_K_refusal_105 : decode b_K_refusal 105 = .ok (.iinc 3 1, 3) := by decide +kernel
theorem d_K_refusal_108 : decode b_K_refusal 108 = .ok (.goto (-43), 3) := by decide +kernel
theorem d_K_refusal_111 : decode b_K_refusal 111 = .ok (.iload_n 2, 1) := by decide +kernel
theorem d_K_refusal_112 : decode b_K_refusal 112 = .ok (.ifCond .ne 8, 3) := by decide +kernel
theorem d_K_refusal_115 : decode b_K_refusal 115 = .ok (.bipush (-3), 2) := by decide +kernel
theorem d_K_refusal_117 : decode b_K_refusal 117 = .ok (.goto 26, 3) := by decide +kernel
theorem d_K_refusal_120 : decode b_K_refusal 120 = .ok (.aload_n 0, 1) := by decide +kernel
theorem d_K_refusal_121 : decode b_K_refusal 121 = .ok (.getfield 73, 3) := by decide +kernel
theorem d_K_refusal_124 : decode b_K_refusal 124 = .ok (.aload_n 0, 1) := by decide +kernel
theorem d_K_refusal_125 : decode b_K_refusal 125 = .ok (.getfield 54, 3) := by decide +kernel
theorem d_K_refusal_128 : decode b_K_refusal 128 = .ok (.iconst 1, 1) := by decide +kernel
theorem d_K_refusal_129 : decode b_K_refusal 129 = .ok (.invokevirtual 180, 3) := by decide +kernel
theorem d_K_refusal_132 : decode b_K_refusal 132 = .ok (.ldc 32, 2) := by decide +kernel
theorem d_K_refusal_134 : decode b_K_refusal 134 = .ok (.if_icmp .le 8, 3) := by decide +kernel
theorem d_K_refusal_137 : decode b_K_refusal 137 = .ok (.bipush (-4), 2) := by decide +kernel
theorem d_K_refusal_139 : decode b_K_refusal 139 = .ok (.goto 4, 3) := by decide +kernel
theorem d_K_refusal_142 : decode b_K_refusal 142 = .ok (.iconst 0, 1) := by decide +kernel
theorem d_K_refusal_143 : decode b_K_refusal 143 = .ok (.ireturn, 1) := by decide +kernel
/-- K_refusal -/
def w_K_refusal (L : Nat → Nat)  (Q : Int → IS → Prop) (σ : IS) : Prop := if (σ.1 12 6) = 0 then Q (-1) σ else WL (fun (K2 : Int × Int → IS → Prop) (s4 : Int × Int) (σ5 : IS) => if s4.2 < 6 then inL L (rfo 14 19) s4.2 ∧ inR (s4.1 + (σ5.2 (rfo 14 19) (Int.toNat s4.2))) ∧ inR (s4.2 + 1) ∧ K2 ((s4.1 + (σ5.2 (rfo 14 19) (Int.toNat s4.2))), (s4.2 + 1)) σ5 else if 0 < s4.1 then Q (-2) σ5 else inL L (rfo 14 18) 22 ∧ WL (fun (K8 : Int × Int → IS → Prop) (s10 : Int × Int) (σ11 : IS) => if s10.2 < (σ11.1 14 14) ∧ (¬ s10.1 = 0) then w_KDoc_isDeclaration L 14 s10.2 (fun v13 σ12 => WJ (fun (s16 : Int) (σ17 : IS) => inR (s10.2 + 1) ∧ K8 (s16, (s10.2 + 1)) σ17) (fun J14 => WJ (fun (s21 : Unit) (σ22 : IS) => J14 1 σ22) (fun J19 => if v13 = 0 then J19 () σ12 else w_K_isAbsolute L s10.2 (fun v25 σ24 => if v25 = 0 then J14 0 σ24 else J19 () σ24) σ12))) σ11 else WJ (fun (s29 : Int) (σ30 : IS) => Q s29 σ30) (fun J27 => if s10.1 = 0 then J27 (-3) σ11 else w_KWriter_writeRow L 14 1 (fun v33 σ32 => J27 (if 262144 < v33 then ((-4) : Int) else (0 : Int)) σ32) σ11)) ((if (σ5.2 (rfo 14 18) (Int.toNat 22)) = 0 then (1 : Int) else (0 : Int)), 0) σ5) (0, 0) σ
set_option maxHeartbeats 4000000 in
set_option maxRecDepth 20000 in
theorem s_K_refusal {L : Nat → Nat} (hL : ∀ r, L r < 2147483648) {d : Nat} (hd : 10 ≤ d)  {Q : Int → IS → Prop} {σ : IS}  (h : w_K_refusal L  Q σ) : OkI BF L d 12 b_K_refusal 4 1 0 [] [some (.inr 12)] σ (qi Q) := by
  unfold w_K_refusal at h
  obtain ⟨d, rfl⟩ : ∃ e, d = e + 1 := ⟨d - 1, by omega⟩
  refine k_sb (lv' := [some (.inr 12), none, none, none]) (sb_s (sb_e (sb_e (sb_e sb_nil)))) ?_
  refine k_aload_n d_K_refusal_0 rfl ?_
  refine k_getI (x := (σ.1 12 6)) d_K_refusal_1 fl_12_102 ob_12 rfl rfl ?_
  refine k_ifne d_K_refusal_4 rfl (fun c1 => ?_) (fun c1 => ?_)
  · have h := ineg c1 h
    refine k_iconst d_K_refusal_9 cI_0 ?_
    refine k_istore_n (lv' := [some (.inr 12), some (.inl 0), none, none]) d_K_refusal_10 rfl rfl ?_
    refine k_iconst d_K_refusal_11 cI_0 ?_
    refine k_istore_n (lv' := [some (.inr 12), some (.inl 0), some (.inl 0), none]) d_K_refusal_12 rfl rfl ?_
    refine k_sb (lv' := [some (.inr 12), some (.inl 0), some (.inl 0), none]) (sb_s (sb_s (sb_s (sb_s sb_nil)))) ?_
    refine k_loop (S := Int × Int) (st := fun _ => []) (lv := fun s4 => [some (.inr 12), some (.inl s4.1), some (.inl s4.2), none]) (fun K2 hK3 s4 σ5 h => ?_) (0, 0) _ h
    refine k_iload_n d_K_refusal_13 rfl ?_
    refine k_bipush d_K_refusal_14 cB_6 ?_
    refine k_icge d_K_refusal_16 rfl (fun c6 => ?_) (fun c6 => ?_)
    · have h := ineg c6 h
      refine k_iload_n d_K_refusal_37 rfl ?_
      refine k_ifle d_K_refusal_38 rfl (fun c7 => ?_) (fun c7 => ?_)
      · have h := ineg c7 h
        refine k_aload_n d_K_refusal_44 rfl ?_
        refine k_getR d_K_refusal_45 fl_12_54 ob_12 rfl ?_
        refine k_getR d_K_refusal_48 fl_12_111 (doc_ob (by decide)) (dfr_18 (by decide)) ?_
        refine k_bipush d_K_refusal_51 cB_22 ?_
        obtain ⟨p47, h⟩ := h
        refine k_ild (x := (σ5.2 (rfo 14 18) (Int.toNat 22))) d_K_refusal_53 (drI_18 (by decide)) p47 rfl ?_
        have hV43 : OkI BF L (d + 1) 12 b_K_refusal 4 1 62 [.inl (if (σ5.2 (rfo 14 18) (Int.toNat 22)) = 0 then (1 : Int) else (0 : Int))] [some (.inr 12), some (.inl s4.1), some (.inl s4.2), none] σ5 (qi Q) := by
          refine k_istore_n (lv' := [some (.inr 12), some (.inl s4.1), some (.inl (if (σ5.2 (rfo 14 18) (Int.toNat 22)) = 0 then (1 : Int) else (0 : Int))), none]) d_K_refusal_62 rfl rfl ?_
          refine k_iconst d_K_refusal_63 cI_0 ?_
          refine k_istore_n (lv' := [some (.inr 12), some (.inl s4.1), some (.inl (if (σ5.2 (rfo 14 18) (Int.toNat 22)) = 0 then (1 : Int) else (0 : Int))), some (.inl 0)]) d_K_refusal_64 rfl rfl ?_
          refine k_sb (lv' := [some (.inr 12), none, some (.inl (if (σ5.2 (rfo 14 18) (Int.toNat 22)) = 0 then (1 : Int) else (0 : Int))), some (.inl 0)]) (sb_s (sb_n (sb_s (sb_s sb_nil)))) ?_
          refine k_loop (S := Int × Int) (st := fun _ => []) (lv := fun s10 => [some (.inr 12), none, some (.inl s10.1), some (.inl s10.2)]) (fun K8 hK9 s10 σ11 h => ?_) ((if (σ5.2 (rfo 14 18) (Int.toNat 22)) = 0 then (1 : Int) else (0 : Int)), 0) _ h
          refine k_iload_n d_K_refusal_65 rfl ?_
          refine k_aload_n d_K_refusal_66 rfl ?_
          refine k_getR d_K_refusal_67 fl_12_54 ob_12 rfl ?_
          refine k_getI (x := (σ11.1 14 14)) d_K_refusal_70 fl_12_171 (doc_ob (by decide)) (dfi_14 (by decide)) rfl ?_
          have hX38 : (s10.2 < (σ11.1 14 14) ∧ (¬ s10.1 = 0)) → OkI BF L (d + 1) 12 b_K_refusal 4 1 80 [] [some (.inr 12), none, some (.inl s10.1), some (.inl s10.2)] σ11 (qi Q) := fun e40 => by
            have h := ipos e40 h
            refine k_aload_n d_K_refusal_80 rfl ?_
            refine k_getR d_K_refusal_81 fl_12_54 ob_12 rfl ?_
            refine k_iload_n d_K_refusal_84 rfl ?_
            refine k_cvi [.inl s10.2] d_K_refusal_85 ml_12_174 rfl rfl (doc_ob (by decide)) rfl (s_KDoc_isDeclaration hL (by omega) (by decide) h) (fun v13 σ12 h => ?_)
            refine k_join (S := Int) (pc' := 104) (st' := fun s16 => [.inl s16]) (lv' := fun s16 => [some (.inr 12), none, none, some (.inl s10.2)]) (fun s16 σ17 h => ?_) (fun J14 hJ15 h => ?_) h
            · refine k_istore_n (lv' := [some (.inr 12), none, some (.inl s16), some (.inl s10.2)]) d_K_refusal_104 rfl rfl ?_
              obtain ⟨p18, h⟩ := h
              refine k_iinc (lv' := [some (.inr 12), none, some (.inl s16), some (.inl (s10.2 + 1))]) d_K_refusal_105 cI_1 rfl rfl p18 rfl ?_
              refine k_goto d_K_refusal_108 rfl ?_
              exact k_sb (sb_s (sb_s (sb_s (sb_s sb_nil)))) (hK9 (s16, (s10.2 + 1)) _ h)
            · refine k_join (S := Unit) (pc' := 99) (st' := fun s21 => []) (lv' := fun s21 => [some (.inr 12), none, none, some (.inl s10.2)]) (fun s21 σ22 h => ?_) (fun J19 hJ20 h => ?_) h
              · refine k_iconst d_K_refusal_99 cI_1 ?_
                refine k_goto d_K_refusal_100 rfl ?_
                exact k_sb (sb_s (sb_s (sb_s (sb_s sb_nil)))) (hJ15 1 _ h)
              · refine k_ifeq d_K_refusal_88 rfl (fun c23 => ?_) (fun c23 => ?_)
                · have h := ipos c23 h
                  exact k_sb (sb_s (sb_s (sb_n (sb_s sb_nil)))) (hJ20 () _ h)
                · have h := ineg c23 h
                  refine k_aload_n d_K_refusal_91 rfl ?_
                  refine k_iload_n d_K_refusal_92 rfl ?_
                  refine k_cvi [.inl s10.2] d_K_refusal_93 ml_12_177 rfl rfl ob_12 rfl (s_K_isAbsolute hL (by omega)  h) (fun v25 σ24 h => ?_)
                  refine k_ifeq d_K_refusal_96 rfl (fun c26 => ?_) (fun c26 => ?_)
                  · have h := ipos c26 h
                    refine k_iconst d_K_refusal_103 cI_0 ?_
                    exact k_sb (sb_s (sb_s (sb_n (sb_s sb_nil)))) (hJ15 0 _ h)
                  · have h := ineg c26 h
                    exact k_sb (sb_s (sb_s (sb_n (sb_s sb_nil)))) (hJ20 () _ h)
          have hY39 : ¬ (s10.2 < (σ11.1 14 14) ∧ (¬ s10.1 = 0)) → OkI BF L (d + 1) 12 b_K_refusal 4 1 111 [] [some (.inr 12), none, some (.inl s10.1), some (.inl s10.2)] σ11 (qi Q) := fun e40 => by
            have h := ineg e40 h
            refine k_iload_n d_K_refusal_111 rfl ?_
            refine k_join (S := Int) (pc' := 143) (st' := fun s29 => [.inl s29]) (lv' := fun s29 => [none, none, none, none]) (fun s29 σ30 h => ?_) (fun J27 hJ28 h => ?_) h
            · exact k_iret d_K_refusal_143 (Or.inl rfl) h
            · refine k_ifne d_K_refusal_112 rfl (fun c31 => ?_) (fun c31 => ?_)
              · have h := ineg c31 h
                refine k_aload_n d_K_refusal_120 rfl ?_
                refine k_getR d_K_refusal_121 fl_12_73 ob_12 rfl ?_
                refine k_aload_n d_K_refusal_124 rfl ?_
                refine k_getR d_K_refusal_125 fl_12_54 ob_12 rfl ?_
                refine k_iconst d_K_refusal_128 cI_1 ?_
                refine k_cvi [.inr 14, .inl 1] d_K_refusal_129 ml_12_180 rfl rfl ob_17 rfl (s_KWriter_writeRow hL (by omega) (by decide) h) (fun v33 σ32 h => ?_)
                refine k_ldc d_K_refusal_132 ks_12_32 cL_262144 ?_
                have hV34 : OkI BF L (d + 1) 12 b_K_refusal 4 1 143 [.inl (if 262144 < v33 then ((-4) : Int) else (0 : Int))] [some (.inr 12), none, some (.inl s10.1), some (.inl s10.2)] σ32 (qi Q) := by
                  exact k_sb (sb_n (sb_s (sb_n (sb_n sb_nil)))) (hJ28 (if 262144 < v33 then ((-4) : Int) else (0 : Int)) _ h)
                refine k_icle d_K_refusal_134 rfl (fun c35 => ?_) (fun c35 => ?_)
                · have hV37 := k_eqI (if_neg c35) hV34
                  refine k_iconst d_K_refusal_142 cI_0 ?_
                  exact hV37
                · have hV36 := k_eqI (if_pos c35) hV34
                  refine k_bipush d_K_refusal_137 cB_m4 ?_
                  refine k_goto d_K_refusal_139 rfl ?_
                  exact hV36
              · have h := ipos c31 h
                refine k_bipush d_K_refusal_115 cB_m3 ?_
                refine k_goto d_K_refusal_117 rfl ?_
                exact k_sb (sb_n (sb_s (sb_n (sb_n sb_nil)))) (hJ28 (-3) _ h)
          refine k_icge d_K_refusal_73 rfl (fun c41 => ?_) (fun c41 => ?_)
          · exact hY39 (fun z => c41 z.1)
          · refine k_iload_n d_K_refusal_76 rfl ?_
            refine k_ifeq d_K_refusal_77 rfl (fun c42 => ?_) (fun c42 => ?_)
            · exact hY39 (fun z => (fun z => z c42) z.2)
            · exact hX38 (⟨c41, c42⟩)
        refine k_ifne d_K_refusal_54 rfl (fun c44 => ?_) (fun c44 => ?_)
        · have hV46 := k_eqI (if_neg c44) hV43
          refine k_iconst d_K_refusal_61 cI_0 ?_
          exact hV46
        · have hV45 := k_eqI (if_pos c44) hV43
          refine k_iconst d_K_refusal_57 cI_1 ?_
          refine k_goto d_K_refusal_58 rfl ?_
          exact hV45
      · have h := ipos c7 h
        refine k_bipush d_K_refusal_41 cB_m2 ?_
        exact k_iret d_K_refusal_43 (Or.inl rfl) h
    · have h := ipos c6 h
      refine k_iload_n d_K_refusal_19 rfl ?_
      refine k_aload_n d_K_refusal_20 rfl ?_
      refine k_getR d_K_refusal_21 fl_12_54 ob_12 rfl ?_
      refine k_getR d_K_refusal_24 fl_12_115 (doc_ob (by decide)) (dfr_19 (by decide)) ?_
      refine k_iload_n d_K_refusal_27 rfl ?_
      obtain ⟨p50, h⟩ := h
      refine k_ild (x := (σ5.2 (rfo 14 19) (Int.toNat s4.2))) d_K_refusal_28 (drI_19 (by decide)) p50 rfl ?_
      obtain ⟨p49, h⟩ := h
      refine k_iadd d_K_refusal_29 p49 ?_
      refine k_istore_n (lv' := [some (.inr 12), some (.inl (s4.1 + (σ5.2 (rfo 14 19) (Int.toNat s4.2)))), some (.inl s4.2), none]) d_K_refusal_30 rfl rfl ?_
      obtain ⟨p48, h⟩ := h
      refine k_iinc (lv' := [some (.inr 12), some (.inl (s4.1 + (σ5.2 (rfo 14 19) (Int.toNat s4.2)))), some (.inl (s4.2 + 1)), none]) d_K_refusal_31 cI_1 rfl rfl p48 rfl ?_
      refine k_goto d_K_refusal_34 rfl ?_
      exact k_sb (sb_s (sb_s (sb_s (sb_s sb_nil)))) (hK3 ((s4.1 + (σ5.2 (rfo 14 19) (Int.toNat s4.2))), (s4.2 + 1)) _ h)
  · have h := ipos c1 h
    refine k_iconst d_K_refusal_7 cI_m1 ?_
    exact k_iret d_K_refusal_8 (Or.inl rfl) h
theorem d_K_canonical_14 : decode b_K_canonical 14 = .ok (.aload_n 0, 1) := by decide +kernel
theorem d_K_canonical_15 : decode b_K_canonical 15 = .ok (.aload_n 0, 1) := by decide +kernel
theorem d_K_canonical_16 : decode b_K_canonical 16 = .ok (.getfield 73, 3) := by decide +kernel
theorem d_K_canonical_19 : decode b_K_canonical 19 = .ok (.aload_n 0, 1) := by decide +kernel
theorem d_K_canonical_20 : decode b_K_canonical 20 = .ok (.getfield 54, 3) := by decide +kernel
theorem d_K_canonical_23 : decode b_K_canonical 23 = .ok (.iconst 0, 1) := by decide +kernel
theorem d_K_canonical_24 : decode b_K_canonical 24 = .ok (.invokevirtual 180, 3) := by decide +kernel
theorem d_K_canonical_27 : decode b_K_canonical 27 = .ok (.putfield 188, 3) := by decide +kernel
theorem d_K_canonical_30 : decode b_K_canonical 30 = .ok (.aload_n 0, 1) := by decide +kernel
theorem d_K_canonical_31 : decode b_K_canonical 31 = .ok (.getfield 188, 3) := by decide +kernel
theorem d_K_canonical_34 : decode b_K_canonical 34 = .ok (.istore_n 1, 1) := by decide +kernel
/-- K_canonical -/
def w_K_canonical (L : Nat → Nat)  (Q : Int → IS → Prop) (σ : IS) : Prop := w_K_refusal L  (fun v2 σ1 => WJ (fun (s5 : Int) (σ6 : IS) => Q s5 σ6) (fun J3 => if v2 = 0 then w_KWriter_writeRow L 14 0 (fun v9 σ8 => J3 v9 (pf σ8 12 9 v9)) σ1 else J3 v2 σ1)) (pf σ 12 11 0)
set_option maxHeartbeats 4000000 in
set_option maxRecDepth 20000 in
theorem s_K_canonical {L : Nat → Nat} (hL : ∀ r, L r < 2147483648) {d : Nat} (hd : 11 ≤ d)  {Q : Int → IS → Prop} {σ : IS}  (h : w_K_canonical L  Q σ) : OkI BF L d 12 b_K_canonical 2 1 0 [] [some (.inr 12)] σ (qi Q) := by
  unfold w_K_canonical at h
  obtain ⟨d, rfl⟩ : ∃ e, d = e + 1 := ⟨d - 1, by omega⟩
  refine k_sb (lv' := [some (.inr 12), none]) (sb_s (sb_e sb_nil)) ?_
  refine k_aload_n d_K_canonical_0 rfl ?_
  refine k_iconst d_K_canonical_1 cI_0 ?_
  refine k_putI d_K_canonical_2 fl_12_88 ob_12 rfl ?_
  refine k_aload_n d_K_canonical_5 rfl ?_
  refine k_cvi [] d_K_canonical_6 ml_12_184 rfl rfl ob_12 rfl (s_K_refusal hL (by omega)  h) (fun v2 σ1 h => ?_)
  refine k_istore_n (lv' := [some (.inr 12), some (.inl v2)]) d_K_canonical_9 rfl rfl ?_
  refine k_iload_n d_K_canonical_10 rfl ?_
  refine k_join (S := Int) (pc' := 35) (st' := fun s5 => []) (lv' := fun s5 => [none, some (.inl s5)]) (fun s5 σ6 h => ?_) (fun J3 hJ4 h => ?_) h
  · refine k_iload_n d_K_canonical_35 rfl ?_
    exact k_iret d_K_canonical_36 (Or.inl rfl) h
  · refine k_ifne d_K_canonical_11 rfl (fun c7 => ?_) (fun c7 => ?_)
    · have h := ineg c7 h
      exact k_sb (sb_n (sb_s sb_nil)) (hJ4 v2 _ h)
    · have h := ipos c7 h
      refine k_aload_n d_K_canonical_14 rfl ?_
      refine k_aload_n d_K_canonical_15 rfl ?_
      refine k_getR d_K_canonical_16 fl_12_73 ob_12 rfl ?_
      refine k_aload_n d_K_canonical_19 rfl ?_
      refine k_getR d_K_canonical_20 fl_12_54 ob_12 rfl ?_
      refine k_iconst d_K_canonical_23 cI_0 ?_
      refine k_cvi [.inr 14, .inl 0] d_K_canonical_24 ml_12_180 rfl rfl ob_17 rfl (s_KWriter_writeRow hL (by omega) (by decide) h) (fun v9 σ8 h => ?_)
      refine k_putI d_K_canonical_27 fl_12_188 ob_12 rfl ?_
      refine k_aload_n d_K_canonical_30 rfl ?_
      refine k_getI (x := v9) d_K_canonical_31 fl_12_188 ob_12 rfl rfl ?_
      refine k_istore_n (lv' := [some (.inr 12), some (.inl v9)]) d_K_canonical_34 rfl rfl ?_
      exact k_sb (sb_n (sb_s sb_nil)) (hJ4 v9 _ h)
theorem d_K_change_17 : decode b_K_change 17 = .ok (.iload_n 2, 1) := by decide +kernel
theorem d_K_change_18 : decode b_K_change 18 = .ok (.ifCond .lt 10, 3) := by decide +kernel
theorem d_K_change_21 : decode b_K_change 21 = .ok (.iload_n 2, 1) := by decide +kernel
theorem d_K_change_22 : decode b_K_change 22 = .ok (.sipush 255, 3) := by decide +kernel
theorem d_K_change_25 : decode b_K_change 25 = .ok (.if_icmp .le 5, 3) := by decide +kernel
theorem d_K_change_30 : decode b_K_change 30 = .ok (.aload_n 0, 1) := by decide +kernel
theorem d_K_change_31 : decode b_K_change 31 = .ok (.getfield 26, 3) := by decide +kernel
theorem d_K_change_34 : decode b_K_change 34 = .ok (.iload_n 1, 1) := by decide +kernel
theorem d_K_change_35 : decode b_K_change 35 = .ok (.baload, 1) := by decide +kernel
theorem d_K_change_36 : decode b_K_change 36 = .ok (.sipush 255, 3) := by decide +kernel
theorem d_K_change_39 : decode b_K_change 39 = .ok (.iand, 1) := by decide +kernel
theorem d_K_change_40 : decode b_K_change 40 = .ok (.istore_n 3, 1) := by decide +kernel
theorem d_K_change_41 : decode b_K_change 41 = .ok (.aload_n 0, 1) := by decide +kernel
theorem d_K_change_42 : decode b_K_change 42 = .ok (.getfield 26, 3) := by decide +kernel
theorem d_K_change_45 : decode b_K_change 45 = .ok (.iload_n 1, 1) := by decide +kernel
theorem d_K_change_46 : decode b_K_change 46 = .ok (.iload_n 2, 1) := by decide +kernel
theorem d_K_change_47 : decode b_K_change 47 = .ok (.i2b, 1) := by decide +kernel
theorem d_K_change_48 : decode b_K_change 48 = .ok (.bastore, 1) := by decide +kernel
theorem d_K_change_49 : decode b_K_change 49 = .ok (.iload_n 3, 1) := by decide +kernel
theorem d_K_change_50 : decode b_K_change 50 = .ok (.ireturn, 1) := by decide +kernel
/-- K_change -/
def w_K_change (L : Nat → Nat) (a1 : Int) (a2 : Int) (Q : Int → IS → Prop) (σ : IS) : Prop := if ¬ a1 < 0 ∧ (a1 < (σ.1 12 3) ∧ (¬ a2 < 0 ∧ (¬ 255 < a2))) then inL L 165 a1 ∧ inL L 165 a1 ∧ Q (ia (σ.2 165 (Int.toNat a1)) 255) (pr (pf σ 12 11 0) 165 (Int.toNat a1) (nb a2)) else Q (-1) (pf σ 12 11 0)
set_option maxHeartbeats 4000000 in
set_option maxRecDepth 20000 in
theorem s_K_change {L : Nat → Nat} (hL : ∀ r, L r < 2147483648) {d : Nat} (hd : 0 ≤ d) {a1 : Int} {a2 : Int} {Q : Int → IS → Prop} {σ : IS}  (h : w_K_change L a1 a2 Q σ) : OkI BF L d 12 b_K_change 4 1 0 [] [some (.inr 12), some (.inl a1), some (.inl a2)] σ (qi Q) := by
  unfold w_K_change at h
  refine k_sb (lv' := [some (.inr 12), some (.inl a1), some (.inl a2), none]) (sb_s (sb_s (sb_s (sb_e sb_nil)))) ?_
  refine k_aload_n d_K_change_0 rfl ?_
  refine k_iconst d_K_change_1 cI_0 ?_
  refine k_putI d_K_change_2 fl_12_88 ob_12 rfl ?_
  refine k_iload_n d_K_change_5 rfl ?_
  have hX3 : (¬ a1 < 0 ∧ (a1 < (σ.1 12 3) ∧ (¬ a2 < 0 ∧ (¬ 255 < a2)))) → OkI BF L d 12 b_K_change 4 1 30 [] [some (.inr 12), some (.inl a1), some (.inl a2), none] (pf σ 12 11 0) (qi Q) := fun e5 => by
    have h := ipos e5 h
    refine k_aload_n d_K_change_30 rfl ?_
    refine k_getR d_K_change_31 fl_12_26 ob_12 rfl ?_
    refine k_iload_n d_K_change_34 rfl ?_
    obtain ⟨p2, h⟩ := h
    refine k_bld (x := (σ.2 165 (Int.toNat a1))) d_K_change_35 rB_165 p2 rfl ?_
    refine k_sipush d_K_change_36 cS_255 ?_
    refine k_iand d_K_change_39 ?_
    refine k_istore_n (lv' := [some (.inr 12), some (.inl a1), some (.inl a2), some (.inl (ia (σ.2 165 (Int.toNat a1)) 255))]) d_K_change_40 rfl rfl ?_
    refine k_aload_n d_K_change_41 rfl ?_
    refine k_getR d_K_change_42 fl_12_26 ob_12 rfl ?_
    refine k_iload_n d_K_change_45 rfl ?_
    refine k_iload_n d_K_change_46 rfl ?_
    refine k_i2b d_K_change_47 ?_
    obtain ⟨p1, h⟩ := h
    refine k_bst d_K_change_48 rb_165 p1 (nb_in _) ?_
    refine k_iload_n d_K_change_49 rfl ?_
    exact k_iret d_K_change_50 (Or.inl rfl) h
  have hY4 : ¬ (¬ a1 < 0 ∧ (a1 < (σ.1 12 3) ∧ (¬ a2 < 0 ∧ (¬ 255 < a2)))) → OkI BF L d 12 b_K_change 4 1 28 [] [some (.inr 12), some (.inl a1), some (.inl a2), none] (pf σ 12 11 0) (qi Q) := fun e5 => by
    have h := ineg e5 h
    refine k_iconst d_K_change_28 cI_m1 ?_
    exact k_iret d_K_change_29 (Or.inl rfl) h
  refine k_iflt d_K_change_6 rfl (fun c6 => ?_) (fun c6 => ?_)
  · exact hY4 (fun z => z.1 c6)
  · refine k_iload_n d_K_change_9 rfl ?_
    refine k_aload_n d_K_change_10 rfl ?_
    refine k_getI (x := (σ.1 12 3)) d_K_change_11 fl_12_91 ob_12 rfl rfl ?_
    refine k_icge d_K_change_14 rfl (fun c7 => ?_) (fun c7 => ?_)
    · exact hY4 (fun z => (fun z => c7 z.1) z.2)
    · refine k_iload_n d_K_change_17 rfl ?_
      refine k_iflt d_K_change_18 rfl (fun c8 => ?_) (fun c8 => ?_)
      · exact hY4 (fun z => (fun z => (fun z => z.1 c8) z.2) z.2)
      · refine k_iload_n d_K_change_21 rfl ?_
        refine k_sipush d_K_change_22 cS_255 ?_
        refine k_icle d_K_change_25 rfl (fun c9 => ?_) (fun c9 => ?_)
        · exact hX3 (⟨c6, ⟨c7, ⟨c8, c9⟩⟩⟩)
        · exact hY4 (fun z => (fun z => (fun z => (fun z => z c9) z.2) z.2) z.2)
theorem d_K_characters_12 : decode b_K_characters 12 = .ok (.aload_n 0, 1) := by decide +kernel
theorem d_K_characters_13 : decode b_K_characters 13 = .ok (.getfield 54, 3) := by decide +kernel
theorem d_K_characters_16 : decode b_K_characters 16 = .ok (.getfield 159, 3) := by decide +kernel
theorem d_K_characters_19 : decode b_K_characters 19 = .ok (.goto 4, 3) := by decide +kernel
/-- K_characters -/
def w_K_characters (L : Nat → Nat)  (Q : Int → IS → Prop) (σ : IS) : Prop := Q (if (σ.1 12 6) = 0 then (0 : Int) else (σ.1 14 20)) (pf σ 12 11 0)
set_option maxHeartbeats 4000000 in
set_option maxRecDepth 20000 in
theorem s_K_characters {L : Nat → Nat} (hL : ∀ r, L r < 2147483648) {d : Nat} (hd : 0 ≤ d)  {Q : Int → IS → Prop} {σ : IS}  (h : w_K_characters L  Q σ) : OkI BF L d 12 b_K_characters 1 1 0 [] [some (.inr 12)] σ (qi Q) := by
  unfold w_K_characters at h
  refine k_sb (lv' := [some (.inr 12)]) (sb_s sb_nil) ?_
  refine k_aload_n d_K_characters_0 rfl ?_
  refine k_iconst d_K_characters_1 cI_0 ?_
  refine k_putI d_K_characters_2 fl_12_88 ob_12 rfl ?_
  refine k_aload_n d_K_characters_5 rfl ?_
  refine k_getI (x := (σ.1 12 6)) d_K_characters_6 fl_12_102 ob_12 rfl rfl ?_
  have hV1 : OkI BF L d 12 b_K_characters 1 1 23 [.inl (if (σ.1 12 6) = 0 then (0 : Int) else (σ.1 14 20))] [some (.inr 12)] (pf σ 12 11 0) (qi Q) := by
    exact k_iret d_K_characters_23 (Or.inl rfl) h
  refine k_ifeq d_K_characters_9 rfl (fun c2 => ?_) (fun c2 => ?_)
  · have hV3 := k_eqI (if_pos c2) hV1
    refine k_iconst d_K_characters_22 cI_0 ?_
    exact hV3
  · have hV4 := k_eqI (if_neg c2) hV1
    refine k_aload_n d_K_characters_12 rfl ?_
    refine k_getR d_K_characters_13 fl_12_54 ob_12 rfl ?_
    refine k_getI (x := (σ.1 14 20)) d_K_characters_16 fl_12_159 (doc_ob (by decide)) (dfi_20 (by decide)) rfl ?_
    refine k_goto d_K_characters_19 rfl ?_
    exact hV4
theorem d_K_counted_12 : decode b_K_counted 12 = .ok (.aload_n 0, 1) := by decide +kernel
theorem d_K_counted_13 : decode b_K_counted 13 = .ok (.getfield 54, 3) := by decide +kernel
theorem d_K_counted_16 : decode b_K_counted 16 = .ok (.getfield 162, 3) := by decide +kernel
theorem d_K_counted_19 : decode b_K_counted 19 = .ok (.goto 4, 3) := by decide +kernel
/-- K_counted -/
def w_K_counted (L : Nat → Nat)  (Q : Int → IS → Prop) (σ : IS) : Prop := Q (if (σ.1 12 6) = 0 then (0 : Int) else (σ.1 14 21)) (pf σ 12 11 0)
set_option maxHeartbeats 4000000 in
set_option maxRecDepth 20000 in
theorem s_K_counted {L : Nat → Nat} (hL : ∀ r, L r < 2147483648) {d : Nat} (hd : 0 ≤ d)  {Q : Int → IS → Prop} {σ : IS}  (h : w_K_counted L  Q σ) : OkI BF L d 12 b_K_counted 1 1 0 [] [some (.inr 12)] σ (qi Q) := by
  unfold w_K_counted at h
  refine k_sb (lv' := [some (.inr 12)]) (sb_s sb_nil) ?_
  refine k_aload_n d_K_counted_0 rfl ?_
  refine k_iconst d_K_counted_1 cI_0 ?_
  refine k_putI d_K_counted_2 fl_12_88 ob_12 rfl ?_
  refine k_aload_n d_K_counted_5 rfl ?_
  refine k_getI (x := (σ.1 12 6)) d_K_counted_6 fl_12_102 ob_12 rfl rfl ?_
  have hV1 : OkI BF L d 12 b_K_counted 1 1 23 [.inl (if (σ.1 12 6) = 0 then (0 : Int) else (σ.1 14 21))] [some (.inr 12)] (pf σ 12 11 0) (qi Q) := by
    exact k_iret d_K_counted_23 (Or.inl rfl) h
  refine k_ifeq d_K_counted_9 rfl (fun c2 => ?_) (fun c2 => ?_)
  · have hV3 := k_eqI (if_pos c2) hV1
    refine k_iconst d_K_counted_22 cI_0 ?_
    exact hV3
  · have hV4 := k_eqI (if_neg c2) hV1
    refine k_aload_n d_K_counted_12 rfl ?_
    refine k_getR d_K_counted_13 fl_12_54 ob_12 rfl ?_
    refine k_getI (x := (σ.1 14 21)) d_K_counted_16 fl_12_162 (doc_ob (by decide)) (dfi_21 (by decide)) rfl ?_
    refine k_goto d_K_counted_19 rfl ?_
    exact hV4
theorem d_K_elements_12 : decode b_K_elements 12 = .ok (.aload_n 0, 1) := by decide +kernel
theorem d_K_elements_13 : decode b_K_elements 13 = .ok (.getfield 54, 3) := by decide +kernel
theorem d_K_elements_16 : decode b_K_elements 16 = .ok (.getfield 118, 3) := by decide +kernel
theorem d_K_elements_19 : decode b_K_elements 19 = .ok (.goto 4, 3) := by decide +kernel
/-- K_elements -/
def w_K_elements (L : Nat → Nat)  (Q : Int → IS → Prop) (σ : IS) : Prop := Q (if (σ.1 12 6) = 0 then (0 : Int) else (σ.1 14 7)) (pf σ 12 11 0)
set_option maxHeartbeats 4000000 in
set_option maxRecDepth 20000 in
theorem s_K_elements {L : Nat → Nat} (hL : ∀ r, L r < 2147483648) {d : Nat} (hd : 0 ≤ d)  {Q : Int → IS → Prop} {σ : IS}  (h : w_K_elements L  Q σ) : OkI BF L d 12 b_K_elements 1 1 0 [] [some (.inr 12)] σ (qi Q) := by
  unfold w_K_elements at h
  refine k_sb (lv' := [some (.inr 12)]) (sb_s sb_nil) ?_
  refine k_aload_n d_K_elements_0 rfl ?_
  refine k_iconst d_K_elements_1 cI_0 ?_
  refine k_putI d_K_elements_2 fl_12_88 ob_12 rfl ?_
  refine k_aload_n d_K_elements_5 rfl ?_
  refine k_getI (x := (σ.1 12 6)) d_K_elements_6 fl_12_102 ob_12 rfl rfl ?_
  have hV1 : OkI BF L d 12 b_K_elements 1 1 23 [.inl (if (σ.1 12 6) = 0 then (0 : Int) else (σ.1 14 7))] [some (.inr 12)] (pf σ 12 11 0) (qi Q) := by
    exact k_iret d_K_elements_23 (Or.inl rfl) h
  refine k_ifeq d_K_elements_9 rfl (fun c2 => ?_) (fun c2 => ?_)
  · have hV3 := k_eqI (if_pos c2) hV1
    refine k_iconst d_K_elements_22 cI_0 ?_
    exact hV3
  · have hV4 := k_eqI (if_neg c2) hV1
    refine k_aload_n d_K_elements_12 rfl ?_
    refine k_getR d_K_elements_13 fl_12_54 ob_12 rfl ?_
    refine k_getI (x := (σ.1 14 7)) d_K_elements_16 fl_12_118 (doc_ob (by decide)) (dfi_7 (by decide)) rfl ?_
    refine k_goto d_K_elements_19 rfl ?_
    exact hV4
/-- K_end -/
def w_K_end (L : Nat → Nat) (a1 : Int) (Q : Int → IS → Prop) (σ : IS) : Prop := if 0 < (if a1 < 0 then (1 : Int) else (if (σ.1 12 3) < a1 then (1 : Int) else (0 : Int))) then Q 0 (pf σ 12 11 (if a1 < 0 then (1 : Int) else (if (σ.1 12 3) < a1 then (1 : Int) else (0 : Int)))) else Q (σ.1 12 3) (pf (pf σ 12 11 (if a1 < 0 then (1 : Int) else (if (σ.1 12 3) < a1 then (1 : Int) else (0 : Int)))) 12 3 a1)
set_option maxHeartbeats 4000000 in
set_option maxRecDepth 20000 in
theorem s_K_end {L : Nat → Nat} (hL : ∀ r, L r < 2147483648) {d : Nat} (hd : 0 ≤ d) {a1 : Int} {Q : Int → IS → Prop} {σ : IS}  (h : w_K_end L a1 Q σ) : OkI BF L d 12 b_K_end 3 1 0 [] [some (.inr 12), some (.inl a1)] σ (qi Q) := by
  unfold w_K_end at h
  refine k_sb (lv' := [some (.inr 12), some (.inl a1), none]) (sb_s (sb_s (sb_e sb_nil))) ?_
  refine k_aload_n d_K_end_0 rfl ?_
  refine k_iload_n d_K_end_1 rfl ?_
  have hV2 : OkI BF L d 12 b_K_end 3 1 18 [.inl (if a1 < 0 then (1 : Int) else (if (σ.1 12 3) < a1 then (1 : Int) else (0 : Int))), .inr 12] [some (.inr 12), some (.inl a1), none] σ (qi Q) := by
    refine k_putI d_K_end_18 fl_12_88 ob_12 rfl ?_
    refine k_aload_n d_K_end_21 rfl ?_
    refine k_getI (x := (if a1 < 0 then (1 : Int) else (if (σ.1 12 3) < a1 then (1 : Int) else (0 : Int)))) d_K_end_22 fl_12_88 ob_12 rfl rfl ?_
    refine k_ifle d_K_end_25 rfl (fun c1 => ?_) (fun c1 => ?_)
    · have h := ineg c1 h
      refine k_aload_n d_K_end_30 rfl ?_
      refine k_getI (x := (σ.1 12 3)) d_K_end_31 fl_12_91 ob_12 rfl rfl ?_
      refine k_istore_n (lv' := [some (.inr 12), some (.inl a1), some (.inl (σ.1 12 3))]) d_K_end_34 rfl rfl ?_
      refine k_aload_n d_K_end_35 rfl ?_
      refine k_iload_n d_K_end_36 rfl ?_
      refine k_putI d_K_end_37 fl_12_91 ob_12 rfl ?_
      refine k_iload_n d_K_end_40 rfl ?_
      exact k_iret d_K_end_41 (Or.inl rfl) h
    · have h := ipos c1 h
      refine k_iconst d_K_end_28 cI_0 ?_
      exact k_iret d_K_end_29 (Or.inl rfl) h
  refine k_iflt d_K_end_2 rfl (fun c3 => ?_) (fun c3 => ?_)
  · have hV4 := k_eqI (if_pos c3) hV2
    refine k_iconst d_K_end_13 cI_1 ?_
    refine k_goto d_K_end_14 rfl ?_
    exact hV4
  · have hV5 := k_eqI (if_neg c3) hV2
    refine k_iload_n d_K_end_5 rfl ?_
    refine k_aload_n d_K_end_6 rfl ?_
    refine k_getI (x := (σ.1 12 3)) d_K_end_7 fl_12_91 ob_12 rfl rfl ?_
    refine k_icle d_K_end_10 rfl (fun c6 => ?_) (fun c6 => ?_)
    · have hV8 := k_eqI (if_neg c6) hV5
      refine k_iconst d_K_end_17 cI_0 ?_
      exact hV8
    · have hV7 := k_eqI (if_pos c6) hV5
      refine k_iconst d_K_end_13 cI_1 ?_
      refine k_goto d_K_end_14 rfl ?_
      exact hV7
/-- K_fault -/
def w_K_fault (L : Nat → Nat)  (Q : Int → IS → Prop) (σ : IS) : Prop := Q (σ.1 12 12) (pf σ 12 11 0)
set_option maxHeartbeats 4000000 in
set_option maxRecDepth 20000 in
theorem s_K_fault {L : Nat → Nat} (hL : ∀ r, L r < 2147483648) {d : Nat} (hd : 0 ≤ d)  {Q : Int → IS → Prop} {σ : IS}  (h : w_K_fault L  Q σ) : OkI BF L d 12 b_K_fault 1 1 0 [] [some (.inr 12)] σ (qi Q) := by
  unfold w_K_fault at h
  refine k_sb (lv' := [some (.inr 12)]) (sb_s sb_nil) ?_
  refine k_aload_n d_K_fault_0 rfl ?_
  refine k_iconst d_K_fault_1 cI_0 ?_
  refine k_putI d_K_fault_2 fl_12_88 ob_12 rfl ?_
  refine k_aload_n d_K_fault_5 rfl ?_
  refine k_getI (x := (σ.1 12 12)) d_K_fault_6 fl_12_109 ob_12 rfl rfl ?_
  exact k_iret d_K_fault_9 (Or.inl rfl) h
/-- K_take -/
def w_K_take (L : Nat → Nat) (a1 : Int) (Q : IS → Prop) (σ : IS) : Prop := WL (fun (K1 : Int → IS → Prop) (s3 : Int) (σ4 : IS) => if s3 < 0 then Q σ4 else inL L 165 (σ4.1 12 3) ∧ inR ((σ4.1 12 3) + 1) ∧ inR (s3 + (-8)) ∧ K1 (s3 + (-8)) (pf (pr σ4 165 (Int.toNat (σ4.1 12 3)) (nb (isr a1 s3))) 12 3 ((σ4.1 12 3) + 1))) 24 σ
set_option maxHeartbeats 4000000 in
set_option maxRecDepth 20000 in
theorem s_K_take {L : Nat → Nat} (hL : ∀ r, L r < 2147483648) {d : Nat} (hd : 0 ≤ d) {a1 : Int} {Q : IS → Prop} {σ : IS}  (h : w_K_take L a1 Q σ) : OkI BF L d 12 b_K_take 3 0 0 [] [some (.inr 12), some (.inl a1)] σ (qv Q) := by
  unfold w_K_take at h
  refine k_sb (lv' := [some (.inr 12), some (.inl a1), none]) (sb_s (sb_s (sb_e sb_nil))) ?_
  refine k_bipush d_K_take_0 cB_24 ?_
  refine k_istore_n (lv' := [some (.inr 12), some (.inl a1), some (.inl 24)]) d_K_take_2 rfl rfl ?_
  refine k_sb (lv' := [some (.inr 12), some (.inl a1), some (.inl 24)]) (sb_s (sb_s (sb_s sb_nil))) ?_
  refine k_loop (S := Int) (st := fun _ => []) (lv := fun s3 => [some (.inr 12), some (.inl a1), some (.inl s3)]) (fun K1 hK2 s3 σ4 h => ?_) 24 _ h
  refine k_iload_n d_K_take_3 rfl ?_
  refine k_iflt d_K_take_4 rfl (fun c5 => ?_) (fun c5 => ?_)
  · have h := ipos c5 h
    exact k_ret d_K_take_36 h
  · have h := ineg c5 h
    refine k_aload_n d_K_take_7 rfl ?_
    refine k_getR d_K_take_8 fl_12_26 ob_12 rfl ?_
    refine k_aload_n d_K_take_11 rfl ?_
    refine k_getI (x := (σ4.1 12 3)) d_K_take_12 fl_12_91 ob_12 rfl rfl ?_
    refine k_iload_n d_K_take_15 rfl ?_
    refine k_iload_n d_K_take_16 rfl ?_
    refine k_ishr d_K_take_17 ?_
    refine k_i2b d_K_take_18 ?_
    obtain ⟨p8, h⟩ := h
    refine k_bst d_K_take_19 rb_165 p8 (nb_in _) ?_
    refine k_aload_n d_K_take_20 rfl ?_
    refine k_dup d_K_take_21 ?_
    refine k_getI (x := (σ4.1 12 3)) d_K_take_22 fl_12_91 ob_12 rfl rfl ?_
    refine k_iconst d_K_take_25 cI_1 ?_
    obtain ⟨p7, h⟩ := h
    refine k_iadd d_K_take_26 p7 ?_
    refine k_putI d_K_take_27 fl_12_91 ob_12 rfl ?_
    obtain ⟨p6, h⟩ := h
    refine k_iinc (lv' := [some (.inr 12), some (.inl a1), some (.inl (s3 + (-8)))]) d_K_take_30 cI_m8 rfl rfl p6 rfl ?_
    refine k_goto d_K_take_33 rfl ?_
    exact k_sb (sb_s (sb_s (sb_s sb_nil))) (hK2 (s3 + (-8)) _ h)
theorem d_K_feed_13 : decode b_K_feed 13 = .ok (.iconst 1, 1) := by decide +kernel
theorem d_K_feed_14 : decode b_K_feed 14 = .ok (.goto 4, 3) := by decide +kernel
/-- K_feed -/
def w_K_feed (L : Nat → Nat) (a1 : Int) (a2 : Int) (a3 : Int) (a4 : Int) (a5 : Int) (Q : IS → Prop) (σ : IS) : Prop := inR ((σ.1 12 3) + 20) ∧ WJ (fun (s3 : Unit) (σ4 : IS) => Q σ4) (fun J1 => if (if 65536 < ((σ.1 12 3) + 20) then (1 : Int) else (0 : Int)) = 0 then w_K_take L a1 (fun σ6 => w_K_take L a2 (fun σ8 => w_K_take L a3 (fun σ10 => w_K_take L a4 (fun σ12 => w_K_take L a5 (fun σ14 => J1 () σ14) σ12) σ10) σ8) σ6) (pf σ 12 11 (if 65536 < ((σ.1 12 3) + 20) then (1 : Int) else (0 : Int))) else J1 () (pf σ 12 11 (if 65536 < ((σ.1 12 3) + 20) then (1 : Int) else (0 : Int))))
set_option maxHeartbeats 4000000 in
set_option maxRecDepth 20000 in
theorem s_K_feed {L : Nat → Nat} (hL : ∀ r, L r < 2147483648) {d : Nat} (hd : 1 ≤ d) {a1 : Int} {a2 : Int} {a3 : Int} {a4 : Int} {a5 : Int} {Q : IS → Prop} {σ : IS}  (h : w_K_feed L a1 a2 a3 a4 a5 Q σ) : OkI BF L d 12 b_K_feed 6 0 0 [] [some (.inr 12), some (.inl a1), some (.inl a2), some (.inl a3), some (.inl a4), some (.inl a5)] σ (qv Q) := by
  unfold w_K_feed at h
  obtain ⟨d, rfl⟩ : ∃ e, d = e + 1 := ⟨d - 1, by omega⟩
  refine k_sb (lv' := [some (.inr 12), some (.inl a1), some (.inl a2), some (.inl a3), some (.inl a4), some (.inl a5)]) (sb_s (sb_s (sb_s (sb_s (sb_s (sb_s sb_nil)))))) ?_
  refine k_aload_n d_K_feed_0 rfl ?_
  refine k_aload_n d_K_feed_1 rfl ?_
  refine k_getI (x := (σ.1 12 3)) d_K_feed_2 fl_12_91 ob_12 rfl rfl ?_
  refine k_bipush d_K_feed_5 cB_20 ?_
  obtain ⟨p20, h⟩ := h
  refine k_iadd d_K_feed_7 p20 ?_
  refine k_ldc d_K_feed_8 ks_12_10 cL_65536 ?_
  have hV16 : OkI BF L (d + 1) 12 b_K_feed 6 0 18 [.inl (if 65536 < ((σ.1 12 3) + 20) then (1 : Int) else (0 : Int)), .inr 12] [some (.inr 12), some (.inl a1), some (.inl a2), some (.inl a3), some (.inl a4), some (.inl a5)] σ (qv Q) := by
    refine k_putI d_K_feed_18 fl_12_88 ob_12 rfl ?_
    refine k_aload_n d_K_feed_21 rfl ?_
    refine k_getI (x := (if 65536 < ((σ.1 12 3) + 20) then (1 : Int) else (0 : Int))) d_K_feed_22 fl_12_88 ob_12 rfl rfl ?_
    refine k_join (S := Unit) (pc' := 55) (st' := fun s3 => []) (lv' := fun s3 => [none, none, none, none, none, none]) (fun s3 σ4 h => ?_) (fun J1 hJ2 h => ?_) h
    · exact k_ret d_K_feed_55 h
    · refine k_ifne d_K_feed_25 rfl (fun c5 => ?_) (fun c5 => ?_)
      · have h := ineg c5 h
        exact k_sb (sb_n (sb_n (sb_n (sb_n (sb_n (sb_n sb_nil)))))) (hJ2 () _ h)
      · have h := ipos c5 h
        refine k_aload_n d_K_feed_28 rfl ?_
        refine k_iload_n d_K_feed_29 rfl ?_
        refine k_cvv [.inl a1] d_K_feed_30 ml_12_94 rfl rfl ob_12 rfl (s_K_take hL (by omega)  h) (fun σ6 h => ?_)
        refine k_aload_n d_K_feed_33 rfl ?_
        refine k_iload_n d_K_feed_34 rfl ?_
        refine k_cvv [.inl a2] d_K_feed_35 ml_12_94 rfl rfl ob_12 rfl (s_K_take hL (by omega)  h) (fun σ8 h => ?_)
        refine k_aload_n d_K_feed_38 rfl ?_
        refine k_iload_n d_K_feed_39 rfl ?_
        refine k_cvv [.inl a3] d_K_feed_40 ml_12_94 rfl rfl ob_12 rfl (s_K_take hL (by omega)  h) (fun σ10 h => ?_)
        refine k_aload_n d_K_feed_43 rfl ?_
        refine k_iload d_K_feed_44 rfl ?_
        refine k_cvv [.inl a4] d_K_feed_46 ml_12_94 rfl rfl ob_12 rfl (s_K_take hL (by omega)  h) (fun σ12 h => ?_)
        refine k_aload_n d_K_feed_49 rfl ?_
        refine k_iload d_K_feed_50 rfl ?_
        refine k_cvv [.inl a5] d_K_feed_52 ml_12_94 rfl rfl ob_12 rfl (s_K_take hL (by omega)  h) (fun σ14 h => ?_)
        exact k_sb (sb_n (sb_n (sb_n (sb_n (sb_n (sb_n sb_nil)))))) (hJ2 () _ h)
  refine k_icle d_K_feed_10 rfl (fun c17 => ?_) (fun c17 => ?_)
  · have hV19 := k_eqI (if_neg c17) hV16
    refine k_iconst d_K_feed_17 cI_0 ?_
    exact hV19
  · have hV18 := k_eqI (if_pos c17) hV16
    refine k_iconst d_K_feed_13 cI_1 ?_
    refine k_goto d_K_feed_14 rfl ?_
    exact hV18
theorem d_K_isCharacter_0 : decode b_K_isCharacter 0 = .ok (.iload_n 0, 1) := by decide +kernel
theorem d_K_isCharacter_1 : decode b_K_isCharacter 1 = .ok (.bipush 9, 2) := by decide +kernel
theorem d_K_isCharacter_3 : decode b_K_isCharacter 3 = .ok (.if_icmp .eq 48, 3) := by decide +kernel
theorem d_K_isCharacter_6 : decode b_K_isCharacter 6 = .ok (.iload_n 0, 1) := by decide +kernel
theorem d_K_isCharacter_7 : decode b_K_isCharacter 7 = .ok (.bipush 10, 2) := by decide +kernel
theorem d_K_isCharacter_9 : decode b_K_isCharacter 9 = .ok (.if_icmp .eq 42, 3) := by decide +kernel
theorem d_K_isCharacter_12 : decode b_K_isCharacter 12 = .ok (.iload_n 0, 1) := by decide +kernel
theorem d_K_isCharacter_13 : decode b_K_isCharacter 13 = .ok (.bipush 13, 2) := by decide +kernel
theorem d_K_isCharacter_15 : decode b_K_isCharacter 15 = .ok (.if_icmp .eq 36, 3) := by decide +kernel
theorem d_K_isCharacter_18 : decode b_K_isCharacter 18 = .ok (.iload_n 0, 1) := by decide +kernel
theorem d_K_isCharacter_19 : decode b_K_isCharacter 19 = .ok (.bipush 32, 2) := by decide +kernel
theorem d_K_isCharacter_21 : decode b_K_isCharacter 21 = .ok (.ldc 1, 2) := by decide +kernel
theorem d_K_isCharacter_23 : decode b_K_isCharacter 23 = .ok (.invokestatic 2, 3) := by decide +kernel
theorem d_K_isCharacter_26 : decode b_K_isCharacter 26 = .ok (.ifCond .ne 25, 3) := by decide +kernel
theorem d_K_isCharacter_29 : decode b_K_isCharacter 29 = .ok (.iload_n 0, 1) := by decide +kernel
theorem d_K_isCharacter_30 : decode b_K_isCharacter 30 = .ok (.ldc 8, 2) := by decide +kernel
theorem d_K_isCharacter_32 : decode b_K_isCharacter 32 = .ok (.ldc 9, 2) := by decide +kernel
theorem d_K_isCharacter_34 : decode b_K_isCharacter 34 = .ok (.invokestatic 2, 3) := by decide +kernel
theorem d_K_isCharacter_37 : decode b_K_isCharacter 37 = .ok (.ifCond .ne 14, 3) := by decide +kernel
theorem d_K_isCharacter_40 : decode b_K_isCharacter 40 = .ok (.iload_n 0, 1) := by decide +kernel
theorem d_K_isCharacter_41 : decode b_K_isCharacter 41 = .ok (.ldc 10, 2) := by decide +kernel
theorem d_K_isCharacter_43 : decode b_K_isCharacter 43 = .ok (.ldc 11, 2) := by decide +kernel
theorem d_K_isCharacter_45 : decode b_K_isCharacter 45 = .ok (.invokestatic 2, 3) := by decide +kernel
theorem d_K_isCharacter_48 : decode b_K_isCharacter 48 = .ok (.ifCond .eq 7, 3) := by decide +kernel
theorem d_K_isCharacter_51 : decode b_K_isCharacter 51 = .ok (.iconst 1, 1) := by decide +kernel
theorem d_K_isCharacter_52 : decode b_K_isCharacter 52 = .ok (.goto 4, 3) := by decide +kernel
theorem d_K_isCharacter_55 : decode b_K_isCharacter 55 = .ok (.iconst 0, 1) := by decide +kernel
theorem d_K_isCharacter_56 : decode b_K_isCharacter 56 = .ok (.ireturn, 1) := by decide +kernel
/-- K_isCharacter -/
def w_K_isCharacter (L : Nat → Nat) (a0 : Int) (Q : Int → IS → Prop) (σ : IS) : Prop := WJ (fun (s3 : Int) (σ4 : IS) => is01 s3 ∧ Q s3 σ4) (fun J1 => WJ (fun (s8 : Unit) (σ9 : IS) => J1 1 σ9) (fun J6 => if ¬ a0 = 9 ∧ (¬ a0 = 10 ∧ (¬ a0 = 13)) then w_K_isIn L a0 32 55295 (fun v11 σ10 => if v11 = 0 then w_K_isIn L a0 57344 65533 (fun v14 σ13 => if v14 = 0 then w_K_isIn L a0 65536 1114111 (fun v17 σ16 => if v17 = 0 then J1 0 σ16 else J6 () σ16) σ13 else J6 () σ13) σ10 else J6 () σ10) σ else J6 () σ))
set_option maxHeartbeats 4000000 in
set_option maxRecDepth 20000 in
theorem s_K_isCharacter {L : Nat → Nat} (hL : ∀ r, L r < 2147483648) {d : Nat} (hd : 1 ≤ d) {a0 : Int} {Q : Int → IS → Prop} {σ : IS}  (h : w_K_isCharacter L a0 Q σ) : OkI BF L d 12 b_K_isCharacter 1 2 0 [] [some (.inl a0)] σ (qi Q) := by
  unfold w_K_isCharacter at h
  obtain ⟨d, rfl⟩ : ∃ e, d = e + 1 := ⟨d - 1, by omega⟩
  refine k_sb (lv' := [some (.inl a0)]) (sb_s sb_nil) ?_
  refine k_iload_n d_K_isCharacter_0 rfl ?_
  refine k_bipush d_K_isCharacter_1 cB_9 ?_
  refine k_join (S := Int) (pc' := 56) (st' := fun s3 => [.inl s3]) (lv' := fun s3 => [none]) (fun s3 σ4 h => ?_) (fun J1 hJ2 h => ?_) h
  · obtain ⟨p5, h⟩ := h
    exact k_iret d_K_isCharacter_56 (Or.inr ⟨rfl, p5⟩) h
  · refine k_join (S := Unit) (pc' := 51) (st' := fun s8 => []) (lv' := fun s8 => [none]) (fun s8 σ9 h => ?_) (fun J6 hJ7 h => ?_) h
    · refine k_iconst d_K_isCharacter_51 cI_1 ?_
      refine k_goto d_K_isCharacter_52 rfl ?_
      exact k_sb (sb_s sb_nil) (hJ2 1 _ h)
    · have hX19 : (¬ a0 = 9 ∧ (¬ a0 = 10 ∧ (¬ a0 = 13))) → OkI BF L (d + 1) 12 b_K_isCharacter 1 2 18 [] [some (.inl a0)] σ (qi Q) := fun e21 => by
        have h := ipos e21 h
        refine k_iload_n d_K_isCharacter_18 rfl ?_
        refine k_bipush d_K_isCharacter_19 cB_32 ?_
        refine k_ldc d_K_isCharacter_21 ks_12_1 cL_55295 ?_
        refine k_csi [.inl a0, .inl 32, .inl 55295] d_K_isCharacter_23 ml_12_2 (Or.inl rfl) rfl rfl rfl (s_K_isIn hL (by omega)  h) (fun v11 σ10 h => ?_)
        refine k_ifne d_K_isCharacter_26 rfl (fun c12 => ?_) (fun c12 => ?_)
        · have h := ineg c12 h
          exact k_sb (sb_n sb_nil) (hJ7 () _ h)
        · have h := ipos c12 h
          refine k_iload_n d_K_isCharacter_29 rfl ?_
          refine k_ldc d_K_isCharacter_30 ks_12_8 cL_57344 ?_
          refine k_ldc d_K_isCharacter_32 ks_12_9 cL_65533 ?_
          refine k_csi [.inl a0, .inl 57344, .inl 65533] d_K_isCharacter_34 ml_12_2 (Or.inl rfl) rfl rfl rfl (s_K_isIn hL (by omega)  h) (fun v14 σ13 h => ?_)
          refine k_ifne d_K_isCharacter_37 rfl (fun c15 => ?_) (fun c15 => ?_)
          · have h := ineg c15 h
            exact k_sb (sb_n sb_nil) (hJ7 () _ h)
          · have h := ipos c15 h
            refine k_iload_n d_K_isCharacter_40 rfl ?_
            refine k_ldc d_K_isCharacter_41 ks_12_10 cL_65536 ?_
            refine k_ldc d_K_isCharacter_43 ks_12_11 cL_1114111 ?_
            refine k_csi [.inl a0, .inl 65536, .inl 1114111] d_K_isCharacter_45 ml_12_2 (Or.inl rfl) rfl rfl rfl (s_K_isIn hL (by omega)  h) (fun v17 σ16 h => ?_)
            refine k_ifeq d_K_isCharacter_48 rfl (fun c18 => ?_) (fun c18 => ?_)
            · have h := ipos c18 h
              refine k_iconst d_K_isCharacter_55 cI_0 ?_
              exact k_sb (sb_n sb_nil) (hJ2 0 _ h)
            · have h := ineg c18 h
              exact k_sb (sb_n sb_nil) (hJ7 () _ h)
      have hY20 : ¬ (¬ a0 = 9 ∧ (¬ a0 = 10 ∧ (¬ a0 = 13))) → OkI BF L (d + 1) 12 b_K_isCharacter 1 2 51 [] [some (.inl a0)] σ (qi Q) := fun e21 => by
        have h := ineg e21 h
        exact k_sb (sb_n sb_nil) (hJ7 () _ h)
      refine k_iceq d_K_isCharacter_3 rfl (fun c22 => ?_) (fun c22 => ?_)
      · exact hY20 (fun z => z.1 c22)
      · refine k_iload_n d_K_isCharacter_6 rfl ?_
        refine k_bipush d_K_isCharacter_7 cB_10 ?_
        refine k_iceq d_K_isCharacter_9 rfl (fun c23 => ?_) (fun c23 => ?_)
        · exact hY20 (fun z => (fun z => z.1 c23) z.2)
        · refine k_iload_n d_K_isCharacter_12 rfl ?_
          refine k_bipush d_K_isCharacter_13 cB_13 ?_
          refine k_iceq d_K_isCharacter_15 rfl (fun c24 => ?_) (fun c24 => ?_)
          · exact hY20 (fun z => (fun z => (fun z => z c24) z.2) z.2)
          · exact hX19 (⟨c22, ⟨c23, c24⟩⟩)
theorem d_K_isStart_0 : decode b_K_isStart 0 = .ok (.iload_n 0, 1) := by decide +kernel
theorem d_K_isStart_1 : decode b_K_isStart 1 = .ok (.sipush 128, 3) := by decide +kernel
theorem d_K_isStart_4 : decode b_K_isStart 4 = .ok (.if_icmp .ge 43, 3) := by decide +kernel
theorem d_K_isStart_7 : decode b_K_isStart 7 = .ok (.iload_n 0, 1) := by decide +kernel
theorem d_K_isStart_8 : decode b_K_isStart 8 = .ok (.bipush 58, 2) := by decide +kernel
theorem d_K_isStart_10 : decode b_K_isStart 10 = .ok (.if_icmp .eq 31, 3) := by decide +kernel
theorem d_K_isStart_13 : decode b_K_isStart 13 = .ok (.iload_n 0, 1) := by decide +kernel
theorem d_K_isStart_14 : decode b_K_isStart 14 = .ok (.bipush 95, 2) := by decide +kernel
theorem d_K_isStart_16 : decode b_K_isStart 16 = .ok (.if_icmp .eq 25, 3) := by decide +kernel
theorem d_K_isStart_19 : decode b_K_isStart 19 = .ok (.iload_n 0, 1) := by decide +kernel
theorem d_K_isStart_20 : decode b_K_isStart 20 = .ok (.bipush 65, 2) := by decide +kernel
theorem d_K_isStart_22 : decode b_K_isStart 22 = .ok (.bipush 90, 2) := by decide +kernel
theorem d_K_isStart_24 : decode b_K_isStart 24 = .ok (.invokestatic 2, 3) := by decide +kernel
theorem d_K_isStart_27 : decode b_K_isStart 27 = .ok (.ifCond .ne 14, 3) := by decide +kernel
theorem d_K_isStart_30 : decode b_K_isStart 30 = .ok (.iload_n 0, 1) := by decide +kernel
theorem d_K_isStart_31 : decode b_K_isStart 31 = .ok (.bipush 97, 2) := by decide +kernel
theorem d_K_isStart_33 : decode b_K_isStart 33 = .ok (.bipush 122, 2) := by decide +kernel
theorem d_K_isStart_35 : decode b_K_isStart 35 = .ok (.invokestatic 2, 3) := by decide +kernel
theorem d_K_isStart_38 : decode b_K_isStart 38 = .ok (.ifCond .eq 7, 3) := by decide +kernel
theorem d_K_isStart_41 : decode b_K_isStart 41 = .ok (.iconst 1, 1) := by decide +kernel
theorem d_K_isStart_42 : decode b_K_isStart 42 = .ok (.goto 4, 3) := by decide +kernel
theorem d_K_isStart_45 : decode b_K_isStart 45 = .ok (.iconst 0, 1) := by decide +kernel
theorem d_K_isStart_46 : decode b_K_isStart 46 = .ok (.ireturn, 1) := by decide +kernel
theorem d_K_isStart_47 : decode b_K_isStart 47 = .ok (.iload_n 0, 1) := by decide +kernel
theorem d_K_isStart_48 : decode b_K_isStart 48 = .ok (.sipush 192, 3) := by decide +kernel
theorem d_K_isStart_51 : decode b_K_isStart 51 = .ok (.sipush 214, 3) := by decide +kernel
theorem d_K_isStart_54 : decode b_K_isStart 54 = .ok (.invokestatic 2, 3) := by decide +kernel
theorem d_K_isStart_57 : decode b_K_isStart 57 = .ok (.ifCond .ne 140, 3) := by decide +kernel
theorem d_K_isStart_60 : decode b_K_isStart 60 = .ok (.iload_n 0, 1) := by decide +kernel
theorem d_K_isStart_61 : decode b_K_isStart 61 = .ok (.sipush 216, 3) := by decide +kernel
theorem d_K_isStart_64 : decode b_K_isStart 64 = .ok (.sipush 246, 3) := by decide +kernel
theorem d_K_isStart_67 : decode b_K_isStart 67 = .ok (.invokestatic 2, 3) := by decide +kernel
theorem d_K_isStart_70 : decode b_K_isStart 70 = .ok (.ifCond .ne 127, 3) := by decide +kernel
theorem d_K_isStart_73 : decode b_K_isStart 73 = .ok (.iload_n 0, 1) := by decide +kernel
theorem d_K_isStart_74 : decode b_K_isStart 74 = .ok (.sipush 248, 3) := by decide +kernel
theorem d_K_isStart_77 : decode b_K_isStart 77 = .ok (.sipush 767, 3) := by decide +kernel
theorem d_K_isStart_80 : decode b_K_isStart 80 = .ok (.invokestatic 2, 3) := by decide +kernel
theorem d_K_isStart_83 : decode b_K_isStart 83 = .ok (.ifCond .ne 114, 3) := by decide +kernel
theorem d_K_isStart_86 : decode b_K_isStart 86 = .ok (.iload_n 0, 1) := by decide +kernel
theorem d_K_isStart_87 : decode b_K_isStart 87 = .ok (.sipush 880, 3) := by decide +kernel
theorem d_K_isStart_90 : decode b_K_isStart 90 = .ok (.sipush 893, 3) := by decide +kernel
theorem d_K_isStart_93 : decode b_K_isStart 93 = .ok (.invokestatic 2, 3) := by decide +kernel
theorem d_K_isStart_96 : decode b_K_isStart 96 = .ok (.ifCond .ne 101, 3) := by decide +kernel
theorem d_K_isStart_99 : decode b_K_isStart 99 = .ok (.iload_n 0, 1) := by decide +kernel
theorem d_K_isStart_100 : decode b_K_isStart 100 = .ok (.sipush 895, 3) := by decide +kernel
theorem d_K_isStart_103 : decode b_K_isStart 103 = .ok (.sipush 8191, 3) := by decide +kernel
theorem d_K_isStart_106 : decode b_K_isStart 106 = .ok (.invokestatic 2, 3) := by decide +kernel
theorem d_K_isStart_109 : decode b_K_isStart 109 = .ok (.ifCond .ne 88, 3) := by decide +kernel
theorem d_K_isStart_112 : decode b_K_isStart 112 = .ok (.iload_n 0, 1) := by decide +kernel
theorem d_K_isStart_113 : decode b_K_isStart 113 = .ok (.sipush 8204, 3) := by decide +kernel
theorem d_K_isStart_116 : decode b_K_isStart 116 = .ok (.if_icmp .eq 81, 3) := by decide +kernel
theorem d_K_isStart_119 : decode b_K_isStart 119 = .ok (.iload_n 0, 1) := by decide +kernel
theorem d_K_isStart_120 : decode b_K_isStart 120 = .ok (.sipush 8205, 3) := by decide +kernel
theorem d_K_isStart_123 : decode b_K_isStart 123 = .ok (.if_icmp .eq 74, 3) := by decide +kernel
theorem d_K_isStart_126 : decode b_K_isStart 126 = .ok (.iload_n 0, 1) := by decide +kernel
theorem d_K_isStart_127 : decode b_K_isStart 127 = .ok (.sipush 8304, 3) := by decide +kernel
theorem d_K_isStart_130 : decode b_K_isStart 130 = .ok (.sipush 8591, 3) := by decide +kernel
theorem d_K_isStart_133 : decode b_K_isStart 133 = .ok (.invokestatic 2, 3) := by decide +kernel
theorem d_K_isStart_136 : decode b_K_isStart 136 = .ok (.ifCond .ne 61, 3) := by decide +kernel
theorem d_K_isStart_139 : decode b_K_isStart 139 = .ok (.iload_n 0, 1) := by decide +kernel
theorem d_K_isStart_140 : decode b_K_isStart 140 = .ok (.sipush 11264, 3) := by decide +kernel
theorem d_K_isStart_143 : decode b_K_isStart 143 = .ok (.sipush 12271, 3) := by decide +kernel
theorem d_K_isStart_146 : decode b_K_isStart 146 = .ok (.invokestatic 2, 3) := by decide +kernel
theorem d_K_isStart_149 : decode b_K_isStart 149 = .ok (.ifCond .ne 48, 3) := by decide +kernel
theorem d_K_isStart_152 : decode b_K_isStart 152 = .ok (.iload_n 0, 1) := by decide +kernel
theorem d_K_isStart_153 : decode b_K_isStart 153 = .ok (.sipush 12289, 3) := by decide +kernel
theorem d_K_isStart_156 : decode b_K_isStart 156 = .ok (.ldc 1, 2) := by decide +kernel
theorem d_K_isStart_158 : decode b_K_isStart 158 = .ok (.invokestatic 2, 3) := by decide +kernel
theorem d_K_isStart_161 : decode b_K_isStart 161 = .ok (.ifCond .ne 36, 3) := by decide +kernel
theorem d_K_isStart_164 : decode b_K_isStart 164 = .ok (.iload_n 0, 1) := by decide +kernel
theorem d_K_isStart_165 : decode b_K_isStart 165 = .ok (.ldc 12, 2) := by decide +kernel
theorem d_K_isStart_167 : decode b_K_isStart 167 = .ok (.ldc 13, 2) := by decide +kernel
theorem d_K_isStart_169 : decode b_K_isStart 169 = .ok (.invokestatic 2, 3) := by decide +kernel
theorem d_K_isStart_172 : decode b_K_isStart 172 = .ok (.ifCond .ne 25, 3) := by decide +kernel
theorem d_K_isStart_175 : decode b_K_isStart 175 = .ok (.iload_n 0, 1) := by decide +kernel
theorem d_K_isStart_176 : decode b_K_isStart 176 = .ok (.ldc 14, 2) := by decide +kernel
theorem d_K_isStart_178 : decode b_K_isStart 178 = .ok (.ldc 9, 2) := by decide +kernel
theorem d_K_isStart_180 : decode b_K_isStart 180 = .ok (.invokestatic 2, 3) := by decide +kernel
theorem d_K_isStart_183 : decode b_K_isStart 183 = .ok (.ifCond .ne 14, 3) := by decide +kernel
theorem d_K_isStart_186 : decode b_K_isStart 186 = .ok (.iload_n 0, 1) := by decide +kernel
theorem d_K_isStart_187 : decode b_K_isStart 187 = .ok (.ldc 10, 2) := by decide +kernel
theorem d_K_isStart_189 : decode b_K_isStart 189 = .ok (.ldc 15, 2) := by decide +kernel
theorem d_K_isStart_191 : decode b_K_isStart 191 = .ok (.invokestatic 2, 3) := by decide +kernel
theorem d_K_isStart_194 : decode b_K_isStart 194 = .ok (.ifCond .eq 7, 3) := by decide +kernel
theorem d_K_isStart_197 : decode b_K_isStart 197 = .ok (.iconst 1, 1) := by decide +kernel
theorem d_K_isStart_198 : decode b_K_isStart 198 = .ok (.goto 4, 3) := by decide +kernel
theorem d_K_isStart_201 : decode b_K_isStart 201 = .ok (.iconst 0, 1) := by decide +kernel
theorem d_K_isStart_202 : decode b_K_isStart 202 = .ok (.ireturn, 1) := by decide +kernel
/-- K_isStart -/
def w_K_isStart (L : Nat → Nat) (a0 : Int) (Q : Int → IS → Prop) (σ : IS) : Prop := if a0 < 128 then WJ (fun (s51 : Int) (σ52 : IS) => is01 s51 ∧ Q s51 σ52) (fun J49 => WJ (fun (s56 : Unit) (σ57 : IS) => J49 1 σ57) (fun J54 => if ¬ a0 = 58 ∧ (¬ a0 = 95) then w_K_isIn L a0 65 90 (fun v59 σ58 => if v59 = 0 then w_K_isIn L a0 97 122 (fun v62 σ61 => if v62 = 0 then J49 0 σ61 else J54 () σ61) σ58 else J54 () σ58) σ else J54 () σ)) else w_K_isIn L a0 192 214 (fun v3 σ2 => WJ (fun (s6 : Int) (σ7 : IS) => is01 s6 ∧ Q s6 σ7) (fun J4 => WJ (fun (s11 : Unit) (σ12 : IS) => J4 1 σ12) (fun J9 => if v3 = 0 then w_K_isIn L a0 216 246 (fun v15 σ14 => if v15 = 0 then w_K_isIn L a0 248 767 (fun v18 σ17 => if v18 = 0 then w_K_isIn L a0 880 893 (fun v21 σ20 => if v21 = 0 then w_K_isIn L a0 895 8191 (fun v24 σ23 => if v24 = 0 ∧ (¬ a0 = 8204 ∧ (¬ a0 = 8205)) then w_K_isIn L a0 8304 8591 (fun v26 σ25 => if v26 = 0 then w_K_isIn L a0 11264 12271 (fun v29 σ28 => if v29 = 0 then w_K_isIn L a0 12289 55295 (fun v32 σ31 => if v32 = 0 then w_K_isIn L a0 63744 64975 (fun v35 σ34 => if v35 = 0 then w_K_isIn L a0 65008 65533 (fun v38 σ37 => if v38 = 0 then w_K_isIn L a0 65536 983039 (fun v41 σ40 => if v41 = 0 then J4 0 σ40 else J9 () σ40) σ37 else J9 () σ37) σ34 else J9 () σ34) σ31 else J9 () σ31) σ28 else J9 () σ28) σ25 else J9 () σ25) σ23 else J9 () σ23) σ20 else J9 () σ20) σ17 else J9 () σ17) σ14 else J9 () σ14) σ2 else J9 () σ2))) σ
set_option maxHeartbeats 4000000 in
set_option maxRecDepth 20000 in
theorem s_K_isStart {L : Nat → Nat} (hL : ∀ r, L r < 2147483648) {d : Nat} (hd : 1 ≤ d) {a0 : Int} {Q : Int → IS → Prop} {σ : IS}  (h : w_K_isStart L a0 Q σ) : OkI BF L d 12 b_K_isStart 1 2 0 [] [some (.inl a0)] σ (qi Q) := by
  unfold w_K_isStart at h
  obtain ⟨d, rfl⟩ : ∃ e, d = e + 1 := ⟨d - 1, by omega⟩
  refine k_sb (lv' := [some (.inl a0)]) (sb_s sb_nil) ?_
  refine k_iload_n d_K_isStart_0 rfl ?_
  refine k_sipush d_K_isStart_1 cS_128 ?_
  refine k_icge d_K_isStart_4 rfl (fun c1 => ?_) (fun c1 => ?_)
  · have h := ineg c1 h
    refine k_iload_n d_K_isStart_47 rfl ?_
    refine k_sipush d_K_isStart_48 cS_192 ?_
    refine k_sipush d_K_isStart_51 cS_214 ?_
    refine k_csi [.inl a0, .inl 192, .inl 214] d_K_isStart_54 ml_12_2 (Or.inl rfl) rfl rfl rfl (s_K_isIn hL (by omega)  h) (fun v3 σ2 h => ?_)
    refine k_join (S := Int) (pc' := 202) (st' := fun s6 => [.inl s6]) (lv' := fun s6 => [none]) (fun s6 σ7 h => ?_) (fun J4 hJ5 h => ?_) h
    · obtain ⟨p8, h⟩ := h
      exact k_iret d_K_isStart_202 (Or.inr ⟨rfl, p8⟩) h
    · refine k_join (S := Unit) (pc' := 197) (st' := fun s11 => []) (lv' := fun s11 => [none]) (fun s11 σ12 h => ?_) (fun J9 hJ10 h => ?_) h
      · refine k_iconst d_K_isStart_197 cI_1 ?_
        refine k_goto d_K_isStart_198 rfl ?_
        exact k_sb (sb_s sb_nil) (hJ5 1 _ h)
      · refine k_ifne d_K_isStart_57 rfl (fun c13 => ?_) (fun c13 => ?_)
        · have h := ineg c13 h
          exact k_sb (sb_n sb_nil) (hJ10 () _ h)
        · have h := ipos c13 h
          refine k_iload_n d_K_isStart_60 rfl ?_
          refine k_sipush d_K_isStart_61 cS_216 ?_
          refine k_sipush d_K_isStart_64 cS_246 ?_
          refine k_csi [.inl a0, .inl 216, .inl 246] d_K_isStart_67 ml_12_2 (Or.inl rfl) rfl rfl rfl (s_K_isIn hL (by omega)  h) (fun v15 σ14 h => ?_)
          refine k_ifne d_K_isStart_70 rfl (fun c16 => ?_) (fun c16 => ?_)
          · have h := ineg c16 h
            exact k_sb (sb_n sb_nil) (hJ10 () _ h)
          · have h := ipos c16 h
            refine k_iload_n d_K_isStart_73 rfl ?_
            refine k_sipush d_K_isStart_74 cS_248 ?_
            refine k_sipush d_K_isStart_77 cS_767 ?_
            refine k_csi [.inl a0, .inl 248, .inl 767] d_K_isStart_80 ml_12_2 (Or.inl rfl) rfl rfl rfl (s_K_isIn hL (by omega)  h) (fun v18 σ17 h => ?_)
            refine k_ifne d_K_isStart_83 rfl (fun c19 => ?_) (fun c19 => ?_)
            · have h := ineg c19 h
              exact k_sb (sb_n sb_nil) (hJ10 () _ h)
            · have h := ipos c19 h
              refine k_iload_n d_K_isStart_86 rfl ?_
              refine k_sipush d_K_isStart_87 cS_880 ?_
              refine k_sipush d_K_isStart_90 cS_893 ?_
              refine k_csi [.inl a0, .inl 880, .inl 893] d_K_isStart_93 ml_12_2 (Or.inl rfl) rfl rfl rfl (s_K_isIn hL (by omega)  h) (fun v21 σ20 h => ?_)
              refine k_ifne d_K_isStart_96 rfl (fun c22 => ?_) (fun c22 => ?_)
              · have h := ineg c22 h
                exact k_sb (sb_n sb_nil) (hJ10 () _ h)
              · have h := ipos c22 h
                refine k_iload_n d_K_isStart_99 rfl ?_
                refine k_sipush d_K_isStart_100 cS_895 ?_
                refine k_sipush d_K_isStart_103 cS_8191 ?_
                refine k_csi [.inl a0, .inl 895, .inl 8191] d_K_isStart_106 ml_12_2 (Or.inl rfl) rfl rfl rfl (s_K_isIn hL (by omega)  h) (fun v24 σ23 h => ?_)
                have hX43 : (v24 = 0 ∧ (¬ a0 = 8204 ∧ (¬ a0 = 8205))) → OkI BF L (d + 1) 12 b_K_isStart 1 2 126 [] [some (.inl a0)] σ23 (qi Q) := fun e45 => by
                  have h := ipos e45 h
                  refine k_iload_n d_K_isStart_126 rfl ?_
                  refine k_sipush d_K_isStart_127 cS_8304 ?_
                  refine k_sipush d_K_isStart_130 cS_8591 ?_
                  refine k_csi [.inl a0, .inl 8304, .inl 8591] d_K_isStart_133 ml_12_2 (Or.inl rfl) rfl rfl rfl (s_K_isIn hL (by omega)  h) (fun v26 σ25 h => ?_)
                  refine k_ifne d_K_isStart_136 rfl (fun c27 => ?_) (fun c27 => ?_)
                  · have h := ineg c27 h
                    exact k_sb (sb_n sb_nil) (hJ10 () _ h)
                  · have h := ipos c27 h
                    refine k_iload_n d_K_isStart_139 rfl ?_
                    refine k_sipush d_K_isStart_140 cS_11264 ?_
                    refine k_sipush d_K_isStart_143 cS_12271 ?_
                    refine k_csi [.inl a0, .inl 11264, .inl 12271] d_K_isStart_146 ml_12_2 (Or.inl rfl) rfl rfl rfl (s_K_isIn hL (by omega)  h) (fun v29 σ28 h => ?_)
                    refine k_ifne d_K_isStart_149 rfl (fun c30 => ?_) (fun c30 => ?_)
                    · have h := ineg c30 h
                      exact k_sb (sb_n sb_nil) (hJ10 () _ h)
                    · have h := ipos c30 h
                      refine k_iload_n d_K_isStart_152 rfl ?_
                      refine k_sipush d_K_isStart_153 cS_12289 ?_
                      refine k_ldc d_K_isStart_156 ks_12_1 cL_55295 ?_
                      refine k_csi [.inl a0, .inl 12289, .inl 55295] d_K_isStart_158 ml_12_2 (Or.inl rfl) rfl rfl rfl (s_K_isIn hL (by omega)  h) (fun v32 σ31 h => ?_)
                      refine k_ifne d_K_isStart_161 rfl (fun c33 => ?_) (fun c33 => ?_)
                      · have h := ineg c33 h
                        exact k_sb (sb_n sb_nil) (hJ10 () _ h)
                      · have h := ipos c33 h
                        refine k_iload_n d_K_isStart_164 rfl ?_
                        refine k_ldc d_K_isStart_165 ks_12_12 cL_63744 ?_
                        refine k_ldc d_K_isStart_167 ks_12_13 cL_64975 ?_
                        refine k_csi [.inl a0, .inl 63744, .inl 64975] d_K_isStart_169 ml_12_2 (Or.inl rfl) rfl rfl rfl (s_K_isIn hL (by omega)  h) (fun v35 σ34 h => ?_)
                        refine k_ifne d_K_isStart_172 rfl (fun c36 => ?_) (fun c36 => ?_)
                        · have h := ineg c36 h
                          exact k_sb (sb_n sb_nil) (hJ10 () _ h)
                        · have h := ipos c36 h
                          refine k_iload_n d_K_isStart_175 rfl ?_
                          refine k_ldc d_K_isStart_176 ks_12_14 cL_65008 ?_
                          refine k_ldc d_K_isStart_178 ks_12_9 cL_65533 ?_
                          refine k_csi [.inl a0, .inl 65008, .inl 65533] d_K_isStart_180 ml_12_2 (Or.inl rfl) rfl rfl rfl (s_K_isIn hL (by omega)  h) (fun v38 σ37 h => ?_)
                          refine k_ifne d_K_isStart_183 rfl (fun c39 => ?_) (fun c39 => ?_)
                          · have h := ineg c39 h
                            exact k_sb (sb_n sb_nil) (hJ10 () _ h)
                          · have h := ipos c39 h
                            refine k_iload_n d_K_isStart_186 rfl ?_
                            refine k_ldc d_K_isStart_187 ks_12_10 cL_65536 ?_
                            refine k_ldc d_K_isStart_189 ks_12_15 cL_983039 ?_
                            refine k_csi [.inl a0, .inl 65536, .inl 983039] d_K_isStart_191 ml_12_2 (Or.inl rfl) rfl rfl rfl (s_K_isIn hL (by omega)  h) (fun v41 σ40 h => ?_)
                            refine k_ifeq d_K_isStart_194 rfl (fun c42 => ?_) (fun c42 => ?_)
                            · have h := ipos c42 h
                              refine k_iconst d_K_isStart_201 cI_0 ?_
                              exact k_sb (sb_n sb_nil) (hJ5 0 _ h)
                            · have h := ineg c42 h
                              exact k_sb (sb_n sb_nil) (hJ10 () _ h)
                have hY44 : ¬ (v24 = 0 ∧ (¬ a0 = 8204 ∧ (¬ a0 = 8205))) → OkI BF L (d + 1) 12 b_K_isStart 1 2 197 [] [some (.inl a0)] σ23 (qi Q) := fun e45 => by
                  have h := ineg e45 h
                  exact k_sb (sb_n sb_nil) (hJ10 () _ h)
                refine k_ifne d_K_isStart_109 rfl (fun c46 => ?_) (fun c46 => ?_)
                · exact hY44 (fun z => c46 z.1)
                · refine k_iload_n d_K_isStart_112 rfl ?_
                  refine k_sipush d_K_isStart_113 cS_8204 ?_
                  refine k_iceq d_K_isStart_116 rfl (fun c47 => ?_) (fun c47 => ?_)
                  · exact hY44 (fun z => (fun z => z.1 c47) z.2)
                  · refine k_iload_n d_K_isStart_119 rfl ?_
                    refine k_sipush d_K_isStart_120 cS_8205 ?_
                    refine k_iceq d_K_isStart_123 rfl (fun c48 => ?_) (fun c48 => ?_)
                    · exact hY44 (fun z => (fun z => (fun z => z c48) z.2) z.2)
                    · exact hX43 (⟨c46, ⟨c47, c48⟩⟩)
  · have h := ipos c1 h
    refine k_iload_n d_K_isStart_7 rfl ?_
    refine k_bipush d_K_isStart_8 cB_58 ?_
    refine k_join (S := Int) (pc' := 46) (st' := fun s51 => [.inl s51]) (lv' := fun s51 => [none]) (fun s51 σ52 h => ?_) (fun J49 hJ50 h => ?_) h
    · obtain ⟨p53, h⟩ := h
      exact k_iret d_K_isStart_46 (Or.inr ⟨rfl, p53⟩) h
    · refine k_join (S := Unit) (pc' := 41) (st' := fun s56 => []) (lv' := fun s56 => [none]) (fun s56 σ57 h => ?_) (fun J54 hJ55 h => ?_) h
      · refine k_iconst d_K_isStart_41 cI_1 ?_
        refine k_goto d_K_isStart_42 rfl ?_
        exact k_sb (sb_s sb_nil) (hJ50 1 _ h)
      · have hX64 : (¬ a0 = 58 ∧ (¬ a0 = 95)) → OkI BF L (d + 1) 12 b_K_isStart 1 2 19 [] [some (.inl a0)] σ (qi Q) := fun e66 => by
          have h := ipos e66 h
          refine k_iload_n d_K_isStart_19 rfl ?_
          refine k_bipush d_K_isStart_20 cB_65 ?_
          refine k_bipush d_K_isStart_22 cB_90 ?_
          refine k_csi [.inl a0, .inl 65, .inl 90] d_K_isStart_24 ml_12_2 (Or.inl rfl) rfl rfl rfl (s_K_isIn hL (by omega)  h) (fun v59 σ58 h => ?_)
          refine k_ifne d_K_isStart_27 rfl (fun c60 => ?_) (fun c60 => ?_)
          · have h := ineg c60 h
            exact k_sb (sb_n sb_nil) (hJ55 () _ h)
          · have h := ipos c60 h
            refine k_iload_n d_K_isStart_30 rfl ?_
            refine k_bipush d_K_isStart_31 cB_97 ?_
            refine k_bipush d_K_isStart_33 cB_122 ?_
            refine k_csi [.inl a0, .inl 97, .inl 122] d_K_isStart_35 ml_12_2 (Or.inl rfl) rfl rfl rfl (s_K_isIn hL (by omega)  h) (fun v62 σ61 h => ?_)
            refine k_ifeq d_K_isStart_38 rfl (fun c63 => ?_) (fun c63 => ?_)
            · have h := ipos c63 h
              refine k_iconst d_K_isStart_45 cI_0 ?_
              exact k_sb (sb_n sb_nil) (hJ50 0 _ h)
            · have h := ineg c63 h
              exact k_sb (sb_n sb_nil) (hJ55 () _ h)
        have hY65 : ¬ (¬ a0 = 58 ∧ (¬ a0 = 95)) → OkI BF L (d + 1) 12 b_K_isStart 1 2 41 [] [some (.inl a0)] σ (qi Q) := fun e66 => by
          have h := ineg e66 h
          exact k_sb (sb_n sb_nil) (hJ55 () _ h)
        refine k_iceq d_K_isStart_10 rfl (fun c67 => ?_) (fun c67 => ?_)
        · exact hY65 (fun z => z.1 c67)
        · refine k_iload_n d_K_isStart_13 rfl ?_
          refine k_bipush d_K_isStart_14 cB_95 ?_
          refine k_iceq d_K_isStart_16 rfl (fun c68 => ?_) (fun c68 => ?_)
          · exact hY65 (fun z => (fun z => z c68) z.2)
          · exact hX64 (⟨c67, c68⟩)
theorem d_K_isNaming_0 : decode b_K_isNaming 0 = .ok (.iload_n 0, 1) := by decide +kernel
theorem d_K_isNaming_1 : decode b_K_isNaming 1 = .ok (.invokestatic 16, 3) := by decide +kernel
theorem d_K_isNaming_4 : decode b_K_isNaming 4 = .ok (.ifCond .ne 60, 3) := by decide +kernel
theorem d_K_isNaming_7 : decode b_K_isNaming 7 = .ok (.iload_n 0, 1) := by decide +kernel
theorem d_K_isNaming_8 : decode b_K_isNaming 8 = .ok (.bipush 45, 2) := by decide +kernel
theorem d_K_isNaming_10 : decode b_K_isNaming 10 = .ok (.if_icmp .eq 54, 3) := by decide +kernel
theorem d_K_isNaming_13 : decode b_K_isNaming 13 = .ok (.iload_n 0, 1) := by decide +kernel
theorem d_K_isNaming_14 : decode b_K_isNaming 14 = .ok (.bipush 46, 2) := by decide +kernel
theorem d_K_isNaming_16 : decode b_K_isNaming 16 = .ok (.if_icmp .eq 48, 3) := by decide +kernel
theorem d_K_isNaming_19 : decode b_K_isNaming 19 = .ok (.iload_n 0, 1) := by decide +kernel
theorem d_K_isNaming_20 : decode b_K_isNaming 20 = .ok (.bipush 48, 2) := by decide +kernel
theorem d_K_isNaming_22 : decode b_K_isNaming 22 = .ok (.bipush 57, 2) := by decide +kernel
theorem d_K_isNaming_24 : decode b_K_isNaming 24 = .ok (.invokestatic 2, 3) := by decide +kernel
theorem d_K_isNaming_27 : decode b_K_isNaming 27 = .ok (.ifCond .ne 37, 3) := by decide +kernel
theorem d_K_isNaming_30 : decode b_K_isNaming 30 = .ok (.iload_n 0, 1) := by decide +kernel
theorem d_K_isNaming_31 : decode b_K_isNaming 31 = .ok (.sipush 183, 3) := by decide +kernel
theorem d_K_isNaming_34 : decode b_K_isNaming 34 = .ok (.if_icmp .eq 30, 3) := by decide +kernel
theorem d_K_isNaming_37 : decode b_K_isNaming 37 = .ok (.iload_n 0, 1) := by decide +kernel
theorem d_K_isNaming_38 : decode b_K_isNaming 38 = .ok (.sipush 768, 3) := by decide +kernel
theorem d_K_isNaming_41 : decode b_K_isNaming 41 = .ok (.sipush 879, 3) := by decide +kernel
theorem d_K_isNaming_44 : decode b_K_isNaming 44 = .ok (.invokestatic 2, 3) := by decide +kernel
theorem d_K_isNaming_47 : decode b_K_isNaming 47 = .ok (.ifCond .ne 17, 3) := by decide +kernel
theorem d_K_isNaming_50 : decode b_K_isNaming 50 = .ok (.iload_n 0, 1) := by decide +kernel
theorem d_K_isNaming_51 : decode b_K_isNaming 51 = .ok (.sipush 8255, 3) := by decide +kernel
theorem d_K_isNaming_54 : decode b_K_isNaming 54 = .ok (.if_icmp .eq 10, 3) := by decide +kernel
theorem d_K_isNaming_57 : decode b_K_isNaming 57 = .ok (.iload_n 0, 1) := by decide +kernel
theorem d_K_isNaming_58 : decode b_K_isNaming 58 = .ok (.sipush 8256, 3) := by decide +kernel
theorem d_K_isNaming_61 : decode b_K_isNaming 61 = .ok (.if_icmp .ne 7, 3) := by decide +kernel
theorem d_K_isNaming_64 : decode b_K_isNaming 64 = .ok (.iconst 1, 1) := by decide +kernel
theorem d_K_isNaming_65 : decode b_K_isNaming 65 = .ok (.goto 4, 3) := by decide +kernel
theorem d_K_isNaming_68 : decode b_K_isNaming 68 = .ok (.iconst 0, 1) := by decide +kernel
theorem d_K_isNaming_69 : decode b_K_isNaming 69 = .ok (.ireturn, 1) := by decide +kernel
/-- K_isNaming -/
def w_K_isNaming (L : Nat → Nat) (a0 : Int) (Q : Int → IS → Prop) (σ : IS) : Prop := w_K_isStart L a0 (fun v2 σ1 => WJ (fun (s5 : Int) (σ6 : IS) => is01 s5 ∧ Q s5 σ6) (fun J3 => WJ (fun (s10 : Unit) (σ11 : IS) => J3 1 σ11) (fun J8 => if v2 = 0 ∧ (¬ a0 = 45 ∧ (¬ a0 = 46)) then w_K_isIn L a0 48 57 (fun v13 σ12 => if v13 = 0 ∧ (¬ a0 = 183) then w_K_isIn L a0 768 879 (fun v15 σ14 => if v15 = 0 ∧ (¬ a0 = 8255 ∧ (¬ a0 = 8256)) then J3 0 σ14 else J8 () σ14) σ12 else J8 () σ12) σ1 else J8 () σ1))) σ
set_option maxHeartbeats 4000000 in
set_option maxRecDepth 20000 in
theorem s_K_isNaming {L : Nat → Nat} (hL : ∀ r, L r < 2147483648) {d : Nat} (hd : 2 ≤ d) {a0 : Int} {Q : Int → IS → Prop} {σ : IS}  (h : w_K_isNaming L a0 Q σ) : OkI BF L d 12 b_K_isNaming 1 2 0 [] [some (.inl a0)] σ (qi Q) := by
  unfold w_K_isNaming at h
  obtain ⟨d, rfl⟩ : ∃ e, d = e + 1 := ⟨d - 1, by omega⟩
  refine k_sb (lv' := [some (.inl a0)]) (sb_s sb_nil) ?_
  refine k_iload_n d_K_isNaming_0 rfl ?_
  refine k_csi [.inl a0] d_K_isNaming_1 ml_12_16 (Or.inl rfl) rfl rfl rfl (s_K_isStart hL (by omega)  h) (fun v2 σ1 h => ?_)
  refine k_join (S := Int) (pc' := 69) (st' := fun s5 => [.inl s5]) (lv' := fun s5 => [none]) (fun s5 σ6 h => ?_) (fun J3 hJ4 h => ?_) h
  · obtain ⟨p7, h⟩ := h
    exact k_iret d_K_isNaming_69 (Or.inr ⟨rfl, p7⟩) h
  · refine k_join (S := Unit) (pc' := 64) (st' := fun s10 => []) (lv' := fun s10 => [none]) (fun s10 σ11 h => ?_) (fun J8 hJ9 h => ?_) h
    · refine k_iconst d_K_isNaming_64 cI_1 ?_
      refine k_goto d_K_isNaming_65 rfl ?_
      exact k_sb (sb_s sb_nil) (hJ4 1 _ h)
    · have hX27 : (v2 = 0 ∧ (¬ a0 = 45 ∧ (¬ a0 = 46))) → OkI BF L (d + 1) 12 b_K_isNaming 1 2 19 [] [some (.inl a0)] σ1 (qi Q) := fun e29 => by
        have h := ipos e29 h
        refine k_iload_n d_K_isNaming_19 rfl ?_
        refine k_bipush d_K_isNaming_20 cB_48 ?_
        refine k_bipush d_K_isNaming_22 cB_57 ?_
        refine k_csi [.inl a0, .inl 48, .inl 57] d_K_isNaming_24 ml_12_2 (Or.inl rfl) rfl rfl rfl (s_K_isIn hL (by omega)  h) (fun v13 σ12 h => ?_)
        have hX22 : (v13 = 0 ∧ (¬ a0 = 183)) → OkI BF L (d + 1) 12 b_K_isNaming 1 2 37 [] [some (.inl a0)] σ12 (qi Q) := fun e24 => by
          have h := ipos e24 h
          refine k_iload_n d_K_isNaming_37 rfl ?_
          refine k_sipush d_K_isNaming_38 cS_768 ?_
          refine k_sipush d_K_isNaming_41 cS_879 ?_
          refine k_csi [.inl a0, .inl 768, .inl 879] d_K_isNaming_44 ml_12_2 (Or.inl rfl) rfl rfl rfl (s_K_isIn hL (by omega)  h) (fun v15 σ14 h => ?_)
          have hX16 : (v15 = 0 ∧ (¬ a0 = 8255 ∧ (¬ a0 = 8256))) → OkI BF L (d + 1) 12 b_K_isNaming 1 2 68 [] [some (.inl a0)] σ14 (qi Q) := fun e18 => by
            have h := ipos e18 h
            refine k_iconst d_K_isNaming_68 cI_0 ?_
            exact k_sb (sb_n sb_nil) (hJ4 0 _ h)
          have hY17 : ¬ (v15 = 0 ∧ (¬ a0 = 8255 ∧ (¬ a0 = 8256))) → OkI BF L (d + 1) 12 b_K_isNaming 1 2 64 [] [some (.inl a0)] σ14 (qi Q) := fun e18 => by
            have h := ineg e18 h
            exact k_sb (sb_n sb_nil) (hJ9 () _ h)
          refine k_ifne d_K_isNaming_47 rfl (fun c19 => ?_) (fun c19 => ?_)
          · exact hY17 (fun z => c19 z.1)
          · refine k_iload_n d_K_isNaming_50 rfl ?_
            refine k_sipush d_K_isNaming_51 cS_8255 ?_
            refine k_iceq d_K_isNaming_54 rfl (fun c20 => ?_) (fun c20 => ?_)
            · exact hY17 (fun z => (fun z => z.1 c20) z.2)
            · refine k_iload_n d_K_isNaming_57 rfl ?_
              refine k_sipush d_K_isNaming_58 cS_8256 ?_
              refine k_icne d_K_isNaming_61 rfl (fun c21 => ?_) (fun c21 => ?_)
              · exact hX16 (⟨c19, ⟨c20, c21⟩⟩)
              · exact hY17 (fun z => (fun z => (fun z => z c21) z.2) z.2)
        have hY23 : ¬ (v13 = 0 ∧ (¬ a0 = 183)) → OkI BF L (d + 1) 12 b_K_isNaming 1 2 64 [] [some (.inl a0)] σ12 (qi Q) := fun e24 => by
          have h := ineg e24 h
          exact k_sb (sb_n sb_nil) (hJ9 () _ h)
        refine k_ifne d_K_isNaming_27 rfl (fun c25 => ?_) (fun c25 => ?_)
        · exact hY23 (fun z => c25 z.1)
        · refine k_iload_n d_K_isNaming_30 rfl ?_
          refine k_sipush d_K_isNaming_31 cS_183 ?_
          refine k_iceq d_K_isNaming_34 rfl (fun c26 => ?_) (fun c26 => ?_)
          · exact hY23 (fun z => (fun z => z c26) z.2)
          · exact hX22 (⟨c25, c26⟩)
      have hY28 : ¬ (v2 = 0 ∧ (¬ a0 = 45 ∧ (¬ a0 = 46))) → OkI BF L (d + 1) 12 b_K_isNaming 1 2 64 [] [some (.inl a0)] σ1 (qi Q) := fun e29 => by
        have h := ineg e29 h
        exact k_sb (sb_n sb_nil) (hJ9 () _ h)
      refine k_ifne d_K_isNaming_4 rfl (fun c30 => ?_) (fun c30 => ?_)
      · exact hY28 (fun z => c30 z.1)
      · refine k_iload_n d_K_isNaming_7 rfl ?_
        refine k_bipush d_K_isNaming_8 cB_45 ?_
        refine k_iceq d_K_isNaming_10 rfl (fun c31 => ?_) (fun c31 => ?_)
        · exact hY28 (fun z => (fun z => z.1 c31) z.2)
        · refine k_iload_n d_K_isNaming_13 rfl ?_
          refine k_bipush d_K_isNaming_14 cB_46 ?_
          refine k_iceq d_K_isNaming_16 rfl (fun c32 => ?_) (fun c32 => ?_)
          · exact hY28 (fun z => (fun z => (fun z => z c32) z.2) z.2)
          · exact hX27 (⟨c30, ⟨c31, c32⟩⟩)
theorem d_K_isSpace_0 : decode b_K_isSpace 0 = .ok (.iload_n 0, 1) := by decide +kernel
theorem d_K_isSpace_1 : decode b_K_isSpace 1 = .ok (.bipush 32, 2) := by decide +kernel
theorem d_K_isSpace_3 : decode b_K_isSpace 3 = .ok (.if_icmp .eq 21, 3) := by decide +kernel
theorem d_K_isSpace_6 : decode b_K_isSpace 6 = .ok (.iload_n 0, 1) := by decide +kernel
theorem d_K_isSpace_7 : decode b_K_isSpace 7 = .ok (.bipush 9, 2) := by decide +kernel
theorem d_K_isSpace_9 : decode b_K_isSpace 9 = .ok (.if_icmp .eq 15, 3) := by decide +kernel
theorem d_K_isSpace_12 : decode b_K_isSpace 12 = .ok (.iload_n 0, 1) := by decide +kernel
theorem d_K_isSpace_13 : decode b_K_isSpace 13 = .ok (.bipush 13, 2) := by decide +kernel
theorem d_K_isSpace_15 : decode b_K_isSpace 15 = .ok (.if_icmp .eq 9, 3) := by decide +kernel
theorem d_K_isSpace_18 : decode b_K_isSpace 18 = .ok (.iload_n 0, 1) := by decide +kernel
theorem d_K_isSpace_19 : decode b_K_isSpace 19 = .ok (.bipush 10, 2) := by decide +kernel
theorem d_K_isSpace_21 : decode b_K_isSpace 21 = .ok (.if_icmp .ne 7, 3) := by decide +kernel
theorem d_K_isSpace_24 : decode b_K_isSpace 24 = .ok (.iconst 1, 1) := by decide +kernel
theorem d_K_isSpace_25 : decode b_K_isSpace 25 = .ok (.goto 4, 3) := by decide +kernel
theorem d_K_isSpace_28 : decode b_K_isSpace 28 = .ok (.iconst 0, 1) := by decide +kernel
theorem d_K_isSpace_29 : decode b_K_isSpace 29 = .ok (.ireturn, 1) := by decide +kernel
/-- K_isSpace -/
def w_K_isSpace (L : Nat → Nat) (a0 : Int) (Q : Int → IS → Prop) (σ : IS) : Prop := Q (if a0 = 32 then (1 : Int) else (if a0 = 9 then (1 : Int) else (if a0 = 13 then (1 : Int) else (if a0 = 10 then (1 : Int) else (0 : Int))))) σ
set_option maxHeartbeats 4000000 in
set_option maxRecDepth 20000 in
theorem s_K_isSpace {L : Nat → Nat} (hL : ∀ r, L r < 2147483648) {d : Nat} (hd : 0 ≤ d) {a0 : Int} {Q : Int → IS → Prop} {σ : IS}  (h : w_K_isSpace L a0 Q σ) : OkI BF L d 12 b_K_isSpace 1 2 0 [] [some (.inl a0)] σ (qi Q) := by
  unfold w_K_isSpace at h
  refine k_sb (lv' := [some (.inl a0)]) (sb_s sb_nil) ?_
  refine k_iload_n d_K_isSpace_0 rfl ?_
  refine k_bipush d_K_isSpace_1 cB_32 ?_
  have hV1 : OkI BF L d 12 b_K_isSpace 1 2 29 [.inl (if a0 = 32 then (1 : Int) else (if a0 = 9 then (1 : Int) else (if a0 = 13 then (1 : Int) else (if a0 = 10 then (1 : Int) else (0 : Int)))))] [some (.inl a0)] σ (qi Q) := by
    exact k_iret d_K_isSpace_29 (Or.inr ⟨rfl, it01 (Or.inr rfl) (it01 (Or.inr rfl) (it01 (Or.inr rfl) (it01 (Or.inr rfl) (Or.inl rfl))))⟩) h
  refine k_iceq d_K_isSpace_3 rfl (fun c2 => ?_) (fun c2 => ?_)
  · have hV3 := k_eqI (if_pos c2) hV1
    refine k_iconst d_K_isSpace_24 cI_1 ?_
    refine k_goto d_K_isSpace_25 rfl ?_
    exact hV3
  · have hV4 := k_eqI (if_neg c2) hV1
    refine k_iload_n d_K_isSpace_6 rfl ?_
    refine k_bipush d_K_isSpace_7 cB_9 ?_
    refine k_iceq d_K_isSpace_9 rfl (fun c5 => ?_) (fun c5 => ?_)
    · have hV6 := k_eqI (if_pos c5) hV4
      refine k_iconst d_K_isSpace_24 cI_1 ?_
      refine k_goto d_K_isSpace_25 rfl ?_
      exact hV6
    · have hV7 := k_eqI (if_neg c5) hV4
      refine k_iload_n d_K_isSpace_12 rfl ?_
      refine k_bipush d_K_isSpace_13 cB_13 ?_
      refine k_iceq d_K_isSpace_15 rfl (fun c8 => ?_) (fun c8 => ?_)
      · have hV9 := k_eqI (if_pos c8) hV7
        refine k_iconst d_K_isSpace_24 cI_1 ?_
        refine k_goto d_K_isSpace_25 rfl ?_
        exact hV9
      · have hV10 := k_eqI (if_neg c8) hV7
        refine k_iload_n d_K_isSpace_18 rfl ?_
        refine k_bipush d_K_isSpace_19 cB_10 ?_
        refine k_icne d_K_isSpace_21 rfl (fun c11 => ?_) (fun c11 => ?_)
        · have hV13 := k_eqI (if_neg c11) hV10
          refine k_iconst d_K_isSpace_28 cI_0 ?_
          exact hV13
        · have hV12 := k_eqI (if_pos c11) hV10
          refine k_iconst d_K_isSpace_24 cI_1 ?_
          refine k_goto d_K_isSpace_25 rfl ?_
          exact hV12
/-- KBook_clear -/
def w_KBook_clear (L : Nat → Nat)  (Q : IS → Prop) (σ : IS) : Prop := WL (fun (K1 : Int → IS → Prop) (s3 : Int) (σ4 : IS) => if s3 < 8192 then inL L 211 s3 ∧ inR (s3 + 1) ∧ K1 (s3 + 1) (pr σ4 211 (Int.toNat s3) (-1)) else Q σ4) 0 (pf (pf σ 13 1 0) 13 6 0)
set_option maxHeartbeats 4000000 in
set_option maxRecDepth 20000 in
theorem s_KBook_clear {L : Nat → Nat} (hL : ∀ r, L r < 2147483648) {d : Nat} (hd : 0 ≤ d)  {Q : IS → Prop} {σ : IS}  (h : w_KBook_clear L  Q σ) : OkI BF L d 13 b_KBook_clear 2 0 0 [] [some (.inr 13)] σ (qv Q) := by
  unfold w_KBook_clear at h
  refine k_sb (lv' := [some (.inr 13), none]) (sb_s (sb_e sb_nil)) ?_
  refine k_aload_n d_KBook_clear_0 rfl ?_
  refine k_iconst d_KBook_clear_1 cI_0 ?_
  refine k_putI d_KBook_clear_2 fl_13_30 ob_13 rfl ?_
  refine k_aload_n d_KBook_clear_5 rfl ?_
  refine k_iconst d_KBook_clear_6 cI_0 ?_
  refine k_putI d_KBook_clear_7 fl_13_34 ob_13 rfl ?_
  refine k_iconst d_KBook_clear_10 cI_0 ?_
  refine k_istore_n (lv' := [some (.inr 13), some (.inl 0)]) d_KBook_clear_11 rfl rfl ?_
  refine k_sb (lv' := [some (.inr 13), some (.inl 0)]) (sb_s (sb_s sb_nil)) ?_
  refine k_loop (S := Int) (st := fun _ => []) (lv := fun s3 => [some (.inr 13), some (.inl s3)]) (fun K1 hK2 s3 σ4 h => ?_) 0 _ h
  refine k_iload_n d_KBook_clear_12 rfl ?_
  refine k_sipush d_KBook_clear_13 cS_8192 ?_
  refine k_icge d_KBook_clear_16 rfl (fun c5 => ?_) (fun c5 => ?_)
  · have h := ineg c5 h
    exact k_ret d_KBook_clear_32 h
  · have h := ipos c5 h
    refine k_aload_n d_KBook_clear_19 rfl ?_
    refine k_getR d_KBook_clear_20 fl_13_9 ob_13 rfl ?_
    refine k_iload_n d_KBook_clear_23 rfl ?_
    refine k_iconst d_KBook_clear_24 cI_m1 ?_
    obtain ⟨p7, h⟩ := h
    refine k_ist d_KBook_clear_25 rI_211 p7 ?_
    obtain ⟨p6, h⟩ := h
    refine k_iinc (lv' := [some (.inr 13), some (.inl (s3 + 1))]) d_KBook_clear_26 cI_1 rfl rfl p6 rfl ?_
    refine k_goto d_KBook_clear_29 rfl ?_
    exact k_sb (sb_s (sb_s sb_nil)) (hK2 (s3 + 1) _ h)
/-- KDoc_clear -/
def w_KDoc_clear (L : Nat → Nat) (o : Nat) (Q : IS → Prop) (σ : IS) : Prop := WJ (fun (s3 : Unit) (σ4 : IS) => WL (fun (K5 : Int → IS → Prop) (s7 : Int) (σ8 : IS) => if s7 < 23 then inL L (rfo o 18) s7 ∧ inR (s7 + 1) ∧ K5 (s7 + 1) (pr σ8 (rfo o 18) (Int.toNat s7) 0) else WL (fun (K10 : Int → IS → Prop) (s12 : Int) (σ13 : IS) => if s12 < 6 then inL L (rfo o 19) s12 ∧ inR (s12 + 1) ∧ K10 (s12 + 1) (pr σ13 (rfo o 19) (Int.toNat s12) 0) else Q σ13) 0 σ8) 0 (pf (pf (pf (pf (pf (pf (pf σ4 o 2 0) o 7 0) o 14 0) o 16 0) o 17 (-1)) o 20 0) o 21 0)) (fun J1 => if (σ.1 o 22) = 0 then w_KBook_clear L  (fun σ20 => J1 () σ20) σ else J1 () σ)
set_option maxHeartbeats 4000000 in
set_option maxRecDepth 20000 in
theorem s_KDoc_clear {L : Nat → Nat} (hL : ∀ r, L r < 2147483648) {d : Nat} (hd : 1 ≤ d) {o : Nat} {Q : IS → Prop} {σ : IS} (ho : isDoc o) (h : w_KDoc_clear L o Q σ) : OkI BF L d 14 b_KDoc_clear 2 0 0 [] [some (.inr o)] σ (qv Q) := by
  unfold w_KDoc_clear at h
  obtain ⟨d, rfl⟩ : ∃ e, d = e + 1 := ⟨d - 1, by omega⟩
  refine k_sb (lv' := [some (.inr o), none]) (sb_s (sb_e sb_nil)) ?_
  refine k_aload_n d_KDoc_clear_0 rfl ?_
  refine k_getI (x := (σ.1 o 22)) d_KDoc_clear_1 fl_14_38 (doc_ob ho) (dfi_22 ho) rfl ?_
  refine k_join (S := Unit) (pc' := 14) (st' := fun s3 => []) (lv' := fun s3 => [some (.inr o), none]) (fun s3 σ4 h => ?_) (fun J1 hJ2 h => ?_) h
  · refine k_aload_n d_KDoc_clear_14 rfl ?_
    refine k_iconst d_KDoc_clear_15 cI_0 ?_
    refine k_putI d_KDoc_clear_16 fl_14_69 (doc_ob ho) (dfz_2 ho) ?_
    refine k_aload_n d_KDoc_clear_19 rfl ?_
    refine k_iconst d_KDoc_clear_20 cI_0 ?_
    refine k_putI d_KDoc_clear_21 fl_14_73 (doc_ob ho) (dfz_7 ho) ?_
    refine k_aload_n d_KDoc_clear_24 rfl ?_
    refine k_iconst d_KDoc_clear_25 cI_0 ?_
    refine k_putI d_KDoc_clear_26 fl_14_76 (doc_ob ho) (dfz_14 ho) ?_
    refine k_aload_n d_KDoc_clear_29 rfl ?_
    refine k_iconst d_KDoc_clear_30 cI_0 ?_
    refine k_putI d_KDoc_clear_31 fl_14_79 (doc_ob ho) (dfz_16 ho) ?_
    refine k_aload_n d_KDoc_clear_34 rfl ?_
    refine k_iconst d_KDoc_clear_35 cI_m1 ?_
    refine k_putI d_KDoc_clear_36 fl_14_82 (doc_ob ho) (dfz_17 ho) ?_
    refine k_aload_n d_KDoc_clear_39 rfl ?_
    refine k_iconst d_KDoc_clear_40 cI_0 ?_
    refine k_putI d_KDoc_clear_41 fl_14_85 (doc_ob ho) (dfz_20 ho) ?_
    refine k_aload_n d_KDoc_clear_44 rfl ?_
    refine k_iconst d_KDoc_clear_45 cI_0 ?_
    refine k_putI d_KDoc_clear_46 fl_14_88 (doc_ob ho) (dfz_21 ho) ?_
    refine k_iconst d_KDoc_clear_49 cI_0 ?_
    refine k_istore_n (lv' := [some (.inr o), some (.inl 0)]) d_KDoc_clear_50 rfl rfl ?_
    refine k_sb (lv' := [some (.inr o), some (.inl 0)]) (sb_s (sb_s sb_nil)) ?_
    refine k_loop (S := Int) (st := fun _ => []) (lv := fun s7 => [some (.inr o), some (.inl s7)]) (fun K5 hK6 s7 σ8 h => ?_) 0 _ h
    refine k_iload_n d_KDoc_clear_51 rfl ?_
    refine k_bipush d_KDoc_clear_52 cB_23 ?_
    refine k_icge d_KDoc_clear_54 rfl (fun c9 => ?_) (fun c9 => ?_)
    · have h := ineg c9 h
      refine k_iconst d_KDoc_clear_70 cI_0 ?_
      refine k_istore_n (lv' := [some (.inr o), some (.inl 0)]) d_KDoc_clear_71 rfl rfl ?_
      refine k_sb (lv' := [some (.inr o), some (.inl 0)]) (sb_s (sb_s sb_nil)) ?_
      refine k_loop (S := Int) (st := fun _ => []) (lv := fun s12 => [some (.inr o), some (.inl s12)]) (fun K10 hK11 s12 σ13 h => ?_) 0 _ h
      refine k_iload_n d_KDoc_clear_72 rfl ?_
      refine k_bipush d_KDoc_clear_73 cB_6 ?_
      refine k_icge d_KDoc_clear_75 rfl (fun c14 => ?_) (fun c14 => ?_)
      · have h := ineg c14 h
        exact k_ret d_KDoc_clear_91 h
      · have h := ipos c14 h
        refine k_aload_n d_KDoc_clear_78 rfl ?_
        refine k_getR d_KDoc_clear_79 fl_14_31 (doc_ob ho) (dfr_19 ho) ?_
        refine k_iload_n d_KDoc_clear_82 rfl ?_
        refine k_iconst d_KDoc_clear_83 cI_0 ?_
        obtain ⟨p16, h⟩ := h
        refine k_ist d_KDoc_clear_84 (drI_19 ho) p16 ?_
        obtain ⟨p15, h⟩ := h
        refine k_iinc (lv' := [some (.inr o), some (.inl (s12 + 1))]) d_KDoc_clear_85 cI_1 rfl rfl p15 rfl ?_
        refine k_goto d_KDoc_clear_88 rfl ?_
        exact k_sb (sb_s (sb_s sb_nil)) (hK11 (s12 + 1) _ h)
    · have h := ipos c9 h
      refine k_aload_n d_KDoc_clear_57 rfl ?_
      refine k_getR d_KDoc_clear_58 fl_14_28 (doc_ob ho) (dfr_18 ho) ?_
      refine k_iload_n d_KDoc_clear_61 rfl ?_
      refine k_iconst d_KDoc_clear_62 cI_0 ?_
      obtain ⟨p18, h⟩ := h
      refine k_ist d_KDoc_clear_63 (drI_18 ho) p18 ?_
      obtain ⟨p17, h⟩ := h
      refine k_iinc (lv' := [some (.inr o), some (.inl (s7 + 1))]) d_KDoc_clear_64 cI_1 rfl rfl p17 rfl ?_
      refine k_goto d_KDoc_clear_67 rfl ?_
      exact k_sb (sb_s (sb_s sb_nil)) (hK6 (s7 + 1) _ h)
  · refine k_ifne d_KDoc_clear_4 rfl (fun c19 => ?_) (fun c19 => ?_)
    · have h := ineg c19 h
      exact k_sb (sb_s (sb_s sb_nil)) (hJ2 () _ h)
    · have h := ipos c19 h
      refine k_aload_n d_KDoc_clear_7 rfl ?_
      refine k_getR d_KDoc_clear_8 fl_14_34 (doc_ob ho) (dfr_0 ho) ?_
      refine k_cvv [] d_KDoc_clear_11 ml_14_64 rfl rfl ob_13 rfl (s_KBook_clear hL (by omega)  h) (fun σ20 h => ?_)
      exact k_sb (sb_s (sb_s sb_nil)) (hJ2 () _ h)
/-- KReader_begin -/
def w_KReader_begin (L : Nat → Nat) (a1 : Nat) (a2 : Int) (a3 : Int) (Q : IS → Prop) (σ : IS) : Prop := dyD ((a1 : Nat) : Int) ∧ w_KDoc_clear L (Int.toNat ((a1 : Nat) : Int)) (fun σ2 => Q (pf (pf (pf (pf (pf (pf (pf (pf (pf (pf (pf (pf (pf (pf (pf (pf (pf (pf (pf (pf σ2 16 3 0) 16 4 (-1)) 16 6 0) 16 14 0) 16 15 0) 16 19 0) 16 20 0) 16 21 0) 16 22 0) 16 23 0) 16 24 (-1)) 16 26 0) 16 32 0) 16 34 0) 16 40 0) 16 47 0) 16 56 0) 16 58 0) 16 64 0) 16 66 0)) (pf (pf (pf σ 16 2 ((a1 : Nat) : Int)) 16 0 a2) 16 1 a3)
set_option maxHeartbeats 4000000 in
set_option maxRecDepth 20000 in
theorem s_KReader_begin {L : Nat → Nat} (hL : ∀ r, L r < 2147483648) {d : Nat} (hd : 2 ≤ d) {a1 : Nat} {a2 : Int} {a3 : Int} {Q : IS → Prop} {σ : IS} (ha1 : isDoc a1) (h : w_KReader_begin L a1 a2 a3 Q σ) : OkI BF L d 15 b_KReader_begin 4 0 0 [] [some (.inr 16), some (.inr a1), some (.inl a2), some (.inl a3)] σ (qv Q) := by
  unfold w_KReader_begin at h
  obtain ⟨d, rfl⟩ : ∃ e, d = e + 1 := ⟨d - 1, by omega⟩
  refine k_sb (lv' := [some (.inr 16), some (.inr a1), some (.inl a2), some (.inl a3)]) (sb_s (sb_s (sb_s (sb_s sb_nil)))) ?_
  refine k_aload_n d_KReader_begin_0 rfl ?_
  refine k_aload_n d_KReader_begin_1 rfl ?_
  refine k_putD d_KReader_begin_2 fl_15_150 ob_16 rfl (doc_lt ha1) ?_
  refine k_aload_n d_KReader_begin_5 rfl ?_
  refine k_iload_n d_KReader_begin_6 rfl ?_
  refine k_putI d_KReader_begin_7 fl_15_154 ob_16 rfl ?_
  refine k_aload_n d_KReader_begin_10 rfl ?_
  refine k_iload_n d_KReader_begin_11 rfl ?_
  refine k_putI d_KReader_begin_12 fl_15_158 ob_16 rfl ?_
  refine k_aload_n d_KReader_begin_15 rfl ?_
  obtain ⟨y1, h⟩ := h
  refine k_getD (x := ((a1 : Nat) : Int)) d_KReader_begin_16 fl_15_150 ob_16 rfl rfl (dyD_pos y1) ?_
  refine k_cvv [] d_KReader_begin_19 ml_15_161 rfl rfl (doc_ob (dyD_doc y1)) rfl (s_KDoc_clear hL (by omega) (dyD_doc y1) h) (fun σ2 h => ?_)
  refine k_aload_n d_KReader_begin_22 rfl ?_
  refine k_iconst d_KReader_begin_23 cI_0 ?_
  refine k_putI d_KReader_begin_24 fl_15_166 ob_16 rfl ?_
  refine k_aload_n d_KReader_begin_27 rfl ?_
  refine k_iconst d_KReader_begin_28 cI_m1 ?_
  refine k_putI d_KReader_begin_29 fl_15_169 ob_16 rfl ?_
  refine k_aload_n d_KReader_begin_32 rfl ?_
  refine k_iconst d_KReader_begin_33 cI_0 ?_
  refine k_putI d_KReader_begin_34 fl_15_172 ob_16 rfl ?_
  refine k_aload_n d_KReader_begin_37 rfl ?_
  refine k_iconst d_KReader_begin_38 cI_0 ?_
  refine k_putI d_KReader_begin_39 fl_15_175 ob_16 rfl ?_
  refine k_aload_n d_KReader_begin_42 rfl ?_
  refine k_iconst d_KReader_begin_43 cI_0 ?_
  refine k_putI d_KReader_begin_44 fl_15_178 ob_16 rfl ?_
  refine k_aload_n d_KReader_begin_47 rfl ?_
  refine k_iconst d_KReader_begin_48 cI_0 ?_
  refine k_putI d_KReader_begin_49 fl_15_181 ob_16 rfl ?_
  refine k_aload_n d_KReader_begin_52 rfl ?_
  refine k_iconst d_KReader_begin_53 cI_0 ?_
  refine k_putZ d_KReader_begin_54 fl_15_184 ob_16 rfl (Or.inl rfl) ?_
  refine k_aload_n d_KReader_begin_57 rfl ?_
  refine k_iconst d_KReader_begin_58 cI_0 ?_
  refine k_putZ d_KReader_begin_59 fl_15_188 ob_16 rfl (Or.inl rfl) ?_
  refine k_aload_n d_KReader_begin_62 rfl ?_
  refine k_iconst d_KReader_begin_63 cI_0 ?_
  refine k_putZ d_KReader_begin_64 fl_15_191 ob_16 rfl (Or.inl rfl) ?_
  refine k_aload_n d_KReader_begin_67 rfl ?_
  refine k_iconst d_KReader_begin_68 cI_0 ?_
  refine k_putZ d_KReader_begin_69 fl_15_194 ob_16 rfl (Or.inl rfl) ?_
  refine k_aload_n d_KReader_begin_72 rfl ?_
  refine k_iconst d_KReader_begin_73 cI_m1 ?_
  refine k_putI d_KReader_begin_74 fl_15_197 ob_16 rfl ?_
  refine k_aload_n d_KReader_begin_77 rfl ?_
  refine k_iconst d_KReader_begin_78 cI_0 ?_
  refine k_putI d_KReader_begin_79 fl_15_200 ob_16 rfl ?_
  refine k_aload_n d_KReader_begin_82 rfl ?_
  refine k_iconst d_KReader_begin_83 cI_0 ?_
  refine k_putI d_KReader_begin_84 fl_15_203 ob_16 rfl ?_
  refine k_aload_n d_KReader_begin_87 rfl ?_
  refine k_iconst d_KReader_begin_88 cI_0 ?_
  refine k_putI d_KReader_begin_89 fl_15_206 ob_16 rfl ?_
  refine k_aload_n d_KReader_begin_92 rfl ?_
  refine k_iconst d_KReader_begin_93 cI_0 ?_
  refine k_putI d_KReader_begin_94 fl_15_209 ob_16 rfl ?_
  refine k_aload_n d_KReader_begin_97 rfl ?_
  refine k_iconst d_KReader_begin_98 cI_0 ?_
  refine k_putI d_KReader_begin_99 fl_15_212 ob_16 rfl ?_
  refine k_aload_n d_KReader_begin_102 rfl ?_
  refine k_iconst d_KReader_begin_103 cI_0 ?_
  refine k_putI d_KReader_begin_104 fl_15_215 ob_16 rfl ?_
  refine k_aload_n d_KReader_begin_107 rfl ?_
  refine k_iconst d_KReader_begin_108 cI_0 ?_
  refine k_putI d_KReader_begin_109 fl_15_218 ob_16 rfl ?_
  refine k_aload_n d_KReader_begin_112 rfl ?_
  refine k_iconst d_KReader_begin_113 cI_0 ?_
  refine k_putI d_KReader_begin_114 fl_15_221 ob_16 rfl ?_
  refine k_aload_n d_KReader_begin_117 rfl ?_
  refine k_iconst d_KReader_begin_118 cI_0 ?_
  refine k_putI d_KReader_begin_119 fl_15_224 ob_16 rfl ?_
  exact k_ret d_KReader_begin_122 h
theorem d_KReader_pair_0 : decode b_KReader_pair 0 = .ok (.aload_n 0, 1) := by decide +kernel
theorem d_KReader_pair_1 : decode b_KReader_pair 1 = .ok (.iload_n 1, 1) := by decide +kernel
theorem d_KReader_pair_2 : decode b_KReader_pair 2 = .ok (.baload, 1) := by decide +kernel
theorem d_KReader_pair_3 : decode b_KReader_pair 3 = .ok (.sipush 255, 3) := by decide +kernel
theorem d_KReader_pair_6 : decode b_KReader_pair 6 = .ok (.iand, 1) := by decide +kernel
theorem d_KReader_pair_7 : decode b_KReader_pair 7 = .ok (.istore_n 3, 1) := by decide +kernel
theorem d_KReader_pair_8 : decode b_KReader_pair 8 = .ok (.aload_n 0, 1) := by decide +kernel
theorem d_KReader_pair_9 : decode b_KReader_pair 9 = .ok (.iload_n 1, 1) := by decide +kernel
theorem d_KReader_pair_10 : decode b_KReader_pair 10 = .ok (.iconst 1, 1) := by decide +kernel
theorem d_KReader_pair_11 : decode b_KReader_pair 11 = .ok (.iadd, 1) := by decide +kernel
theorem d_KReader_pair_12 : decode b_KReader_pair 12 = .ok (.baload, 1) := by decide +kernel
theorem d_KReader_pair_13 : decode b_KReader_pair 13 = .ok (.sipush 255, 3) := by decide +kernel
theorem d_KReader_pair_16 : decode b_KReader_pair 16 = .ok (.iand, 1) := by decide +kernel
theorem d_KReader_pair_17 : decode b_KReader_pair 17 = .ok (.istore 4, 2) := by decide +kernel
theorem d_KReader_pair_19 : decode b_KReader_pair 19 = .ok (.iload_n 2, 1) := by decide +kernel
theorem d_KReader_pair_20 : decode b_KReader_pair 20 = .ok (.ifCond .eq 14, 3) := by decide +kernel
theorem d_KReader_pair_23 : decode b_KReader_pair 23 = .ok (.sipush 256, 3) := by decide +kernel
theorem d_KReader_pair_26 : decode b_KReader_pair 26 = .ok (.iload_n 3, 1) := by decide +kernel
theorem d_KReader_pair_27 : decode b_KReader_pair 27 = .ok (.imul, 1) := by decide +kernel
theorem d_KReader_pair_28 : decode b_KReader_pair 28 = .ok (.iload 4, 2) := by decide +kernel
theorem d_KReader_pair_30 : decode b_KReader_pair 30 = .ok (.iadd, 1) := by decide +kernel
theorem d_KReader_pair_31 : decode b_KReader_pair 31 = .ok (.goto 11, 3) := by decide +kernel
theorem d_KReader_pair_34 : decode b_KReader_pair 34 = .ok (.sipush 256, 3) := by decide +kernel
theorem d_KReader_pair_37 : decode b_KReader_pair 37 = .ok (.iload 4, 2) := by decide +kernel
theorem d_KReader_pair_39 : decode b_KReader_pair 39 = .ok (.imul, 1) := by decide +kernel
theorem d_KReader_pair_40 : decode b_KReader_pair 40 = .ok (.iload_n 3, 1) := by decide +kernel
theorem d_KReader_pair_41 : decode b_KReader_pair 41 = .ok (.iadd, 1) := by decide +kernel
theorem d_KReader_pair_42 : decode b_KReader_pair 42 = .ok (.ireturn, 1) := by decide +kernel
/-- KReader_pair -/
def w_KReader_pair (L : Nat → Nat) (a0 : Nat) (a1 : Int) (a2 : Int) (Q : Int → IS → Prop) (σ : IS) : Prop := inL L a0 a1 ∧ inR (a1 + 1) ∧ inL L a0 (a1 + 1) ∧ (((a2 = 0 → (inR (256 * (ia (σ.2 a0 (Int.toNat (a1 + 1))) 255)) ∧ inR ((256 * (ia (σ.2 a0 (Int.toNat (a1 + 1))) 255)) + (ia (σ.2 a0 (Int.toNat a1)) 255)))) ∧ (¬ a2 = 0 → (inR (256 * (ia (σ.2 a0 (Int.toNat a1)) 255)) ∧ inR ((256 * (ia (σ.2 a0 (Int.toNat a1)) 255)) + (ia (σ.2 a0 (Int.toNat (a1 + 1))) 255)))))) ∧ Q (if a2 = 0 then ((256 * (ia (σ.2 a0 (Int.toNat (a1 + 1))) 255)) + (ia (σ.2 a0 (Int.toNat a1)) 255)) else ((256 * (ia (σ.2 a0 (Int.toNat a1)) 255)) + (ia (σ.2 a0 (Int.toNat (a1 + 1))) 255))) σ
set_option maxHeartbeats 4000000 in
set_option maxRecDepth 20000 in
theorem s_KReader_pair {L : Nat → Nat} (hL : ∀ r, L r < 2147483648) {d : Nat} (hd : 0 ≤ d) {a0 : Nat} {a1 : Int} {a2 : Int} {Q : Int → IS → Prop} {σ : IS} (ha0 : rwB BF a0) (h : w_KReader_pair L a0 a1 a2 Q σ) : OkI BF L d 15 b_KReader_pair 5 1 0 [] [some (.inr a0), some (.inl a1), some (.inl a2)] σ (qi Q) := by
  unfold w_KReader_pair at h
  refine k_sb (lv' := [some (.inr a0), some (.inl a1), some (.inl a2), none, none]) (sb_s (sb_s (sb_s (sb_e (sb_e sb_nil))))) ?_
  refine k_aload_n d_KReader_pair_0 rfl ?_
  refine k_iload_n d_KReader_pair_1 rfl ?_
  obtain ⟨p14, h⟩ := h
  refine k_bld (x := (σ.2 a0 (Int.toNat a1))) d_KReader_pair_2 ha0 p14 rfl ?_
  refine k_sipush d_KReader_pair_3 cS_255 ?_
  refine k_iand d_KReader_pair_6 ?_
  refine k_istore_n (lv' := [some (.inr a0), some (.inl a1), some (.inl a2), some (.inl (ia (σ.2 a0 (Int.toNat a1)) 255)), none]) d_KReader_pair_7 rfl rfl ?_
  refine k_aload_n d_KReader_pair_8 rfl ?_
  refine k_iload_n d_KReader_pair_9 rfl ?_
  refine k_iconst d_KReader_pair_10 cI_1 ?_
  obtain ⟨p13, h⟩ := h
  refine k_iadd d_KReader_pair_11 p13 ?_
  obtain ⟨p12, h⟩ := h
  refine k_bld (x := (σ.2 a0 (Int.toNat (a1 + 1)))) d_KReader_pair_12 ha0 p12 rfl ?_
  refine k_sipush d_KReader_pair_13 cS_255 ?_
  refine k_iand d_KReader_pair_16 ?_
  refine k_istore (lv' := [some (.inr a0), some (.inl a1), some (.inl a2), some (.inl (ia (σ.2 a0 (Int.toNat a1)) 255)), some (.inl (ia (σ.2 a0 (Int.toNat (a1 + 1))) 255))]) d_KReader_pair_17 rfl rfl ?_
  refine k_iload_n d_KReader_pair_19 rfl ?_
  obtain ⟨pt6, h⟩ := h
  have hV5 : OkI BF L d 15 b_KReader_pair 5 1 42 [.inl (if a2 = 0 then ((256 * (ia (σ.2 a0 (Int.toNat (a1 + 1))) 255)) + (ia (σ.2 a0 (Int.toNat a1)) 255)) else ((256 * (ia (σ.2 a0 (Int.toNat a1)) 255)) + (ia (σ.2 a0 (Int.toNat (a1 + 1))) 255)))] [some (.inr a0), some (.inl a1), some (.inl a2), some (.inl (ia (σ.2 a0 (Int.toNat a1)) 255)), some (.inl (ia (σ.2 a0 (Int.toNat (a1 + 1))) 255))] σ (qi Q) := by
    exact k_iret d_KReader_pair_42 (Or.inl rfl) h
  obtain ⟨pa7, pb8⟩ := pt6
  refine k_ifeq d_KReader_pair_20 rfl (fun c9 => ?_) (fun c9 => ?_)
  · have pa7 := pa7 c9
    have hV10 := k_eqI (if_pos c9) hV5
    obtain ⟨p1, p2⟩ := pa7
    refine k_sipush d_KReader_pair_34 cS_256 ?_
    refine k_iload d_KReader_pair_37 rfl ?_
    refine k_imul d_KReader_pair_39 p1 ?_
    refine k_iload_n d_KReader_pair_40 rfl ?_
    refine k_iadd d_KReader_pair_41 p2 ?_
    exact hV10
  · have pb8 := pb8 c9
    have hV11 := k_eqI (if_neg c9) hV5
    obtain ⟨p3, p4⟩ := pb8
    refine k_sipush d_KReader_pair_23 cS_256 ?_
    refine k_iload_n d_KReader_pair_26 rfl ?_
    refine k_imul d_KReader_pair_27 p3 ?_
    refine k_iload d_KReader_pair_28 rfl ?_
    refine k_iadd d_KReader_pair_30 p4 ?_
    refine k_goto d_KReader_pair_31 rfl ?_
    exact hV11
theorem d_KReader_unit_0 : decode b_KReader_unit 0 = .ok (.iload_n 3, 1) := by decide +kernel
theorem d_KReader_unit_1 : decode b_KReader_unit 1 = .ok (.iconst 1, 1) := by decide +kernel
theorem d_KReader_unit_2 : decode b_KReader_unit 2 = .ok (.iadd, 1) := by decide +kernel
theorem d_KReader_unit_3 : decode b_KReader_unit 3 = .ok (.iload_n 2, 1) := by decide +kernel
theorem d_KReader_unit_4 : decode b_KReader_unit 4 = .ok (.if_icmp .lt 5, 3) := by decide +kernel
theorem d_KReader_unit_7 : decode b_KReader_unit 7 = .ok (.iconst 0, 1) := by decide +kernel
theorem d_KReader_unit_8 : decode b_KReader_unit 8 = .ok (.ireturn, 1) := by decide +kernel
theorem d_KReader_unit_9 : decode b_KReader_unit 9 = .ok (.aload_n 0, 1) := by decide +kernel
theorem d_KReader_unit_10 : decode b_KReader_unit 10 = .ok (.aload_n 1, 1) := by decide +kernel
theorem d_KReader_unit_11 : decode b_KReader_unit 11 = .ok (.iload_n 3, 1) := by decide +kernel
theorem d_KReader_unit_12 : decode b_KReader_unit 12 = .ok (.iload 4, 2) := by decide +kernel
theorem d_KReader_unit_14 : decode b_KReader_unit 14 = .ok (.invokestatic 261, 3) := by decide +kernel
theorem d_KReader_unit_17 : decode b_KReader_unit 17 = .ok (.putfield 248, 3) := by decide +kernel
theorem d_KReader_unit_20 : decode b_KReader_unit 20 = .ok (.aload_n 0, 1) := by decide +kernel
theorem d_KReader_unit_21 : decode b_KReader_unit 21 = .ok (.getfield 248, 3) := by decide +kernel
theorem d_KReader_unit_24 : decode b_KReader_unit 24 = .ok (.ldc_w 265, 3) := by decide +kernel
theorem d_KReader_unit_27 : decode b_KReader_unit 27 = .ok (.ldc_w 266, 3) := by decide +kernel
theorem d_KReader_unit_30 : decode b_KReader_unit 30 = .ok (.invokestatic 267, 3) := by decide +kernel
theorem d_KReader_unit_33 : decode b_KReader_unit 33 = .ok (.ifCond .eq 10, 3) := by decide +kernel
theorem d_KReader_unit_36 : decode b_KReader_unit 36 = .ok (.iload_n 3, 1) := by decide +kernel
theorem d_KReader_unit_37 : decode b_KReader_unit 37 = .ok (.iconst 3, 1) := by decide +kernel
theorem d_KReader_unit_38 : decode b_KReader_unit 38 = .ok (.iadd, 1) := by decide +kernel
theorem d_KReader_unit_39 : decode b_KReader_unit 39 = .ok (.iload_n 2, 1) := by decide +kernel
theorem d_KReader_unit_40 : decode b_KReader_unit 40 = .ok (.if_icmp .lt 5, 3) := by decide +kernel
theorem d_KReader_unit_43 : decode b_KReader_unit 43 = .ok (.iconst 2, 1) := by decide +kernel
theorem d_KReader_unit_44 : decode b_KReader_unit 44 = .ok (.ireturn, 1) := by decide +kernel
theorem d_KReader_unit_45 : decode b_KReader_unit 45 = .ok (.aload_n 1, 1) := by decide +kernel
theorem d_KReader_unit_46 : decode b_KReader_unit 46 = .ok (.iload_n 3, 1) := by decide +kernel
theorem d_KReader_unit_47 : decode b_KReader_unit 47 = .ok (.iconst 2, 1) := by decide +kernel
theorem d_KReader_unit_48 : decode b_KReader_unit 48 = .ok (.iadd, 1) := by decide +kernel
theorem d_KReader_unit_49 : decode b_KReader_unit 49 = .ok (.iload 4, 2) := by decide +kernel
theorem d_KReader_unit_51 : decode b_KReader_unit 51 = .ok (.invokestatic 261, 3) := by decide +kernel
theorem d_KReader_unit_54 : decode b_KReader_unit 54 = .ok (.istore 5, 2) := by decide +kernel
theorem d_KReader_unit_56 : decode b_KReader_unit 56 = .ok (.iload 5, 2) := by decide +kernel
theorem d_KReader_unit_58 : decode b_KReader_unit 58 = .ok (.ldc_w 271, 3) := by decide +kernel
theorem d_KReader_unit_61 : decode b_KReader_unit 61 = .ok (.ldc_w 272, 3) := by decide +kernel
theorem d_KReader_unit_64 : decode b_KReader_unit 64 = .ok (.invokestatic 267, 3) := by decide +kernel
theorem d_KReader_unit_67 : decode b_KReader_unit 67 = .ok (.ifCond .ne 5, 3) := by decide +kernel
theorem d_KReader_unit_70 : decode b_KReader_unit 70 = .ok (.iconst 2, 1) := by decide +kernel
theorem d_KReader_unit_71 : decode b_KReader_unit 71 = .ok (.ireturn, 1) := by decide +kernel
theorem d_KReader_unit_72 : decode b_KReader_unit 72 = .ok (.aload_n 0, 1) := by decide +kernel
theorem d_KReader_unit_73 : decode b_KReader_unit 73 = .ok (.ldc 40, 2) := by decide +kernel
theorem d_KReader_unit_75 : decode b_KReader_unit 75 = .ok (.sipush 1024, 3) := by decide +kernel
theorem d_KReader_unit_78 : decode b_KReader_unit 78 = .ok (.aload_n 0, 1) := by decide +kernel
theorem d_KReader_unit_79 : decode b_KReader_unit 79 = .ok (.getfield 248, 3) := by decide +kernel
theorem d_KReader_unit_82 : decode b_KReader_unit 82 = .ok (.ldc_w 265, 3) := by decide +kernel
theorem d_KReader_unit_85 : decode b_KReader_unit 85 = .ok (.isub, 1) := by decide +kernel
theorem d_KReader_unit_86 : decode b_KReader_unit 86 = .ok (.imul, 1) := by decide +kernel
theorem d_KReader_unit_87 : decode b_KReader_unit 87 = .ok (.iadd, 1) := by decide +kernel
theorem d_KReader_unit_88 : decode b_KReader_unit 88 = .ok (.iload 5, 2) := by decide +kernel
theorem d_KReader_unit_90 : decode b_KReader_unit 90 = .ok (.iadd, 1) := by decide +kernel
theorem d_KReader_unit_91 : decode b_KReader_unit 91 = .ok (.ldc_w 271, 3) := by decide +kernel
theorem d_KReader_unit_94 : decode b_KReader_unit 94 = .ok (.isub, 1) := by decide +kernel
theorem d_KReader_unit_95 : decode b_KReader_unit 95 = .ok (.putfield 248, 3) := by decide +kernel
theorem d_KReader_unit_98 : decode b_KReader_unit 98 = .ok (.iconst 4, 1) := by decide +kernel
theorem d_KReader_unit_99 : decode b_KReader_unit 99 = .ok (.ireturn, 1) := by decide +kernel
/-- KReader_unit -/
def w_KReader_unit (L : Nat → Nat) (a1 : Nat) (a2 : Int) (a3 : Int) (a4 : Int) (Q : Int → IS → Prop) (σ : IS) : Prop := inR (a3 + 1) ∧ if (a3 + 1) < a2 then w_KReader_pair L a1 a3 a4 (fun v3 σ2 => w_K_isIn L v3 55296 56319 (fun v5 σ4 => ((¬ v5 = 0 → inR (a3 + 3))) ∧ if ¬ v5 = 0 ∧ ((a3 + 3) < a2) then inR (a3 + 2) ∧ w_KReader_pair L a1 (a3 + 2) a4 (fun v8 σ7 => w_K_isIn L v8 56320 57343 (fun v10 σ9 => if v10 = 0 then Q 2 σ9 else inR ((σ9.1 16 75) - 55296) ∧ inR (1024 * ((σ9.1 16 75) - 55296)) ∧ inR (65536 + (1024 * ((σ9.1 16 75) - 55296))) ∧ inR ((65536 + (1024 * ((σ9.1 16 75) - 55296))) + v8) ∧ inR (((65536 + (1024 * ((σ9.1 16 75) - 55296))) + v8) - 56320) ∧ Q 4 (pf σ9 16 75 (((65536 + (1024 * ((σ9.1 16 75) - 55296))) + v8) - 56320))) σ7) σ4 else Q 2 σ4) (pf σ2 16 75 v3)) σ else Q 0 σ
set_option maxHeartbeats 4000000 in
set_option maxRecDepth 20000 in
theorem s_KReader_unit {L : Nat → Nat} (hL : ∀ r, L r < 2147483648) {d : Nat} (hd : 1 ≤ d) {a1 : Nat} {a2 : Int} {a3 : Int} {a4 : Int} {Q : Int → IS → Prop} {σ : IS} (ha1 : rwB BF a1) (h : w_KReader_unit L a1 a2 a3 a4 Q σ) : OkI BF L d 15 b_KReader_unit 6 1 0 [] [some (.inr 16), some (.inr a1), some (.inl a2), some (.inl a3), some (.inl a4)] σ (qi Q) := by
  unfold w_KReader_unit at h
  obtain ⟨d, rfl⟩ : ∃ e, d = e + 1 := ⟨d - 1, by omega⟩
  refine k_sb (lv' := [some (.inr 16), some (.inr a1), some (.inl a2), some (.inl a3), some (.inl a4), none]) (sb_s (sb_s (sb_s (sb_s (sb_s (sb_e sb_nil)))))) ?_
  refine k_iload_n d_KReader_unit_0 rfl ?_
  refine k_iconst d_KReader_unit_1 cI_1 ?_
  obtain ⟨p25, h⟩ := h
  refine k_iadd d_KReader_unit_2 p25 ?_
  refine k_iload_n d_KReader_unit_3 rfl ?_
  refine k_iclt d_KReader_unit_4 rfl (fun c1 => ?_) (fun c1 => ?_)
  · have h := ipos c1 h
    refine k_aload_n d_KReader_unit_9 rfl ?_
    refine k_aload_n d_KReader_unit_10 rfl ?_
    refine k_iload_n d_KReader_unit_11 rfl ?_
    refine k_iload d_KReader_unit_12 rfl ?_
    refine k_csi [.inr a1, .inl a3, .inl a4] d_KReader_unit_14 ml_15_261 (Or.inl rfl) rfl rfl rfl (s_KReader_pair hL (by omega) ha1 h) (fun v3 σ2 h => ?_)
    refine k_putI d_KReader_unit_17 fl_15_248 ob_16 rfl ?_
    refine k_aload_n d_KReader_unit_20 rfl ?_
    refine k_getI (x := v3) d_KReader_unit_21 fl_15_248 ob_16 rfl rfl ?_
    refine k_ldcw d_KReader_unit_24 ks_15_265 cL_55296 ?_
    refine k_ldcw d_KReader_unit_27 ks_15_266 cL_56319 ?_
    refine k_csi [.inl v3, .inl 55296, .inl 56319] d_KReader_unit_30 ml_15_267 (Or.inr rfl) rfl rfl rfl (s_K_isIn hL (by omega)  h) (fun v5 σ4 h => ?_)
    obtain ⟨pt21, h⟩ := h
    have hX18 : (¬ v5 = 0 ∧ ((a3 + 3) < a2)) → OkI BF L (d + 1) 15 b_KReader_unit 6 1 45 [] [some (.inr 16), some (.inr a1), some (.inl a2), some (.inl a3), some (.inl a4), none] σ4 (qi Q) := fun e20 => by
      have h := ipos e20 h
      refine k_aload_n d_KReader_unit_45 rfl ?_
      refine k_iload_n d_KReader_unit_46 rfl ?_
      refine k_iconst d_KReader_unit_47 cI_2 ?_
      obtain ⟨p17, h⟩ := h
      refine k_iadd d_KReader_unit_48 p17 ?_
      refine k_iload d_KReader_unit_49 rfl ?_
      refine k_csi [.inr a1, .inl (a3 + 2), .inl a4] d_KReader_unit_51 ml_15_261 (Or.inl rfl) rfl rfl rfl (s_KReader_pair hL (by omega) ha1 h) (fun v8 σ7 h => ?_)
      refine k_istore (lv' := [some (.inr 16), some (.inr a1), some (.inl a2), some (.inl a3), some (.inl a4), some (.inl v8)]) d_KReader_unit_54 rfl rfl ?_
      refine k_iload d_KReader_unit_56 rfl ?_
      refine k_ldcw d_KReader_unit_58 ks_15_271 cL_56320 ?_
      refine k_ldcw d_KReader_unit_61 ks_15_272 cL_57343 ?_
      refine k_csi [.inl v8, .inl 56320, .inl 57343] d_KReader_unit_64 ml_15_267 (Or.inr rfl) rfl rfl rfl (s_K_isIn hL (by omega)  h) (fun v10 σ9 h => ?_)
      refine k_ifne d_KReader_unit_67 rfl (fun c11 => ?_) (fun c11 => ?_)
      · have h := ineg c11 h
        refine k_aload_n d_KReader_unit_72 rfl ?_
        refine k_ldc d_KReader_unit_73 ks_15_40 cL_65536 ?_
        refine k_sipush d_KReader_unit_75 cS_1024 ?_
        refine k_aload_n d_KReader_unit_78 rfl ?_
        refine k_getI (x := (σ9.1 16 75)) d_KReader_unit_79 fl_15_248 ob_16 rfl rfl ?_
        refine k_ldcw d_KReader_unit_82 ks_15_265 cL_55296 ?_
        obtain ⟨p16, h⟩ := h
        refine k_isub d_KReader_unit_85 p16 ?_
        obtain ⟨p15, h⟩ := h
        refine k_imul d_KReader_unit_86 p15 ?_
        obtain ⟨p14, h⟩ := h
        refine k_iadd d_KReader_unit_87 p14 ?_
        refine k_iload d_KReader_unit_88 rfl ?_
        obtain ⟨p13, h⟩ := h
        refine k_iadd d_KReader_unit_90 p13 ?_
        refine k_ldcw d_KReader_unit_91 ks_15_271 cL_56320 ?_
        obtain ⟨p12, h⟩ := h
        refine k_isub d_KReader_unit_94 p12 ?_
        refine k_putI d_KReader_unit_95 fl_15_248 ob_16 rfl ?_
        refine k_iconst d_KReader_unit_98 cI_4 ?_
        exact k_iret d_KReader_unit_99 (Or.inl rfl) h
      · have h := ipos c11 h
        refine k_iconst d_KReader_unit_70 cI_2 ?_
        exact k_iret d_KReader_unit_71 (Or.inl rfl) h
    have hY19 : ¬ (¬ v5 = 0 ∧ ((a3 + 3) < a2)) → OkI BF L (d + 1) 15 b_KReader_unit 6 1 43 [] [some (.inr 16), some (.inr a1), some (.inl a2), some (.inl a3), some (.inl a4), none] σ4 (qi Q) := fun e20 => by
      have h := ineg e20 h
      refine k_iconst d_KReader_unit_43 cI_2 ?_
      exact k_iret d_KReader_unit_44 (Or.inl rfl) h
    have pb22 := pt21
    refine k_ifeq d_KReader_unit_33 rfl (fun c23 => ?_) (fun c23 => ?_)
    · exact hY19 (fun z => z.1 c23)
    · have pb22 := pb22 c23
      have p6 := pb22
      refine k_iload_n d_KReader_unit_36 rfl ?_
      refine k_iconst d_KReader_unit_37 cI_3 ?_
      refine k_iadd d_KReader_unit_38 p6 ?_
      refine k_iload_n d_KReader_unit_39 rfl ?_
      refine k_iclt d_KReader_unit_40 rfl (fun c24 => ?_) (fun c24 => ?_)
      · exact hX18 (⟨c23, c24⟩)
      · exact hY19 (fun z => (c24) z.2)
  · have h := ineg c1 h
    refine k_iconst d_KReader_unit_7 cI_0 ?_
    exact k_iret d_KReader_unit_8 (Or.inl rfl) h
theorem d_KReader_eight_0 : decode b_KReader_eight 0 = .ok (.aload_n 1, 1) := by decide +kernel
theorem d_KReader_eight_1 : decode b_KReader_eight 1 = .ok (.iload_n 3, 1) := by decide +kernel
theorem d_KReader_eight_2 : decode b_KReader_eight 2 = .ok (.baload, 1) := by decide +kernel
theorem d_KReader_eight_3 : decode b_KReader_eight 3 = .ok (.sipush 255, 3) := by decide +kernel
theorem d_KReader_eight_6 : decode b_KReader_eight 6 = .ok (.iand, 1) := by decide +kernel
theorem d_KReader_eight_7 : decode b_KReader_eight 7 = .ok (.istore 4, 2) := by decide +kernel
theorem d_KReader_eight_9 : decode b_KReader_eight 9 = .ok (.iload 4, 2) := by decide +kernel
theorem d_KReader_eight_11 : decode b_KReader_eight 11 = .ok (.sipush 128, 3) := by decide +kernel
theorem d_KReader_eight_14 : decode b_KReader_eight 14 = .ok (.if_icmp .ge 11, 3) := by decide +kernel
theorem d_KReader_eight_17 : decode b_KReader_eight 17 = .ok (.aload_n 0, 1) := by decide +kernel
theorem d_KReader_eight_18 : decode b_KReader_eight 18 = .ok (.iload 4, 2) := by decide +kernel
theorem d_KReader_eight_20 : decode b_KReader_eight 20 = .ok (.putfield 248, 3) := by decide +kernel
theorem d_KReader_eight_23 : decode b_KReader_eight 23 = .ok (.iconst 1, 1) := by decide +kernel
theorem d_KReader_eight_24 : decode b_KReader_eight 24 = .ok (.ireturn, 1) := by decide +kernel
theorem d_KReader_eight_25 : decode b_KReader_eight 25 = .ok (.iload 4, 2) := by decide +kernel
theorem d_KReader_eight_27 : decode b_KReader_eight 27 = .ok (.sipush 192, 3) := by decide +kernel
theorem d_KReader_eight_30 : decode b_KReader_eight 30 = .ok (.if_icmp .lt 15, 3) := by decide +kernel
theorem d_KReader_eight_33 : decode b_KReader_eight 33 = .ok (.iload 4, 2) := by decide +kernel
theorem d_KReader_eight_35 : decode b_KReader_eight 35 = .ok (.sipush 224, 3) := by decide +kernel
theorem d_KReader_eight_38 : decode b_KReader_eight 38 = .ok (.if_icmp .ge 7, 3) := by decide +kernel
theorem d_KReader_eight_41 : decode b_KReader_eight 41 = .ok (.iconst 1, 1) := by decide +kernel
theorem d_KReader_eight_42 : decode b_KReader_eight 42 = .ok (.goto 44, 3) := by decide +kernel
theorem d_KReader_eight_45 : decode b_KReader_eight 45 = .ok (.iload 4, 2) := by decide +kernel
theorem d_KReader_eight_47 : decode b_KReader_eight 47 = .ok (.sipush 224, 3) := by decide +kernel
theorem d_KReader_eight_50 : decode b_KReader_eight 50 = .ok (.if_icmp .lt 15, 3) := by decide +kernel
theorem d_KReader_eight_53 : decode b_KReader_eight 53 = .ok (.iload 4, 2) := by decide +kernel
theorem d_KReader_eight_55 : decode b_KReader_eight 55 = .ok (.sipush 240, 3) := by decide +kernel
theorem d_KReader_eight_58 : decode b_KReader_eight 58 = .ok (.if_icmp .ge 7, 3) := by decide +kernel
theorem d_KReader_eight_61 : decode b_KReader_eight 61 = .ok (.iconst 2, 1) := by decide +kernel
theorem d_KReader_eight_62 : decode b_KReader_eight 62 = .ok (.goto 24, 3) := by decide +kernel
theorem d_KReader_eight_65 : decode b_KReader_eight 65 = .ok (.iload 4, 2) := by decide +kernel
theorem d_KReader_eight_67 : decode b_KReader_eight 67 = .ok (.sipush 240, 3) := by decide +kernel
theorem d_KReader_eight_70 : decode b_KReader_eight 70 = .ok (.if_icmp .lt 15, 3) := by decide +kernel
theorem d_KReader_eight_73 : decode b_KReader_eight 73 = .ok (.iload 4, 2) := by decide +kernel
theorem d_KReader_eight_75 : decode b_KReader_eight 75 = .ok (.sipush 248, 3) := by decide +kernel
theorem d_KReader_eight_78 : decode b_KReader_eight 78 = .ok (.if_icmp .ge 7, 3) := by decide +kernel
theorem d_KReader_eight_81 : decode b_KReader_eight 81 = .ok (.iconst 3, 1) := by decide +kernel
theorem d_KReader_eight_82 : decode b_KReader_eight 82 = .ok (.goto 4, 3) := by decide +kernel
theorem d_KReader_eight_85 : decode b_KReader_eight 85 = .ok (.iconst 0, 1) := by decide +kernel
theorem d_KReader_eight_86 : decode b_KReader_eight 86 = .ok (.istore 5, 2) := by decide +kernel
theorem d_KReader_eight_88 : decode b_KReader_eight 88 = .ok (.iload 5, 2) := by decide +kernel
theorem d_KReader_eight_90 : decode b_KReader_eight 90 = .ok (.ifCond .eq 11, 3) := by decide +kernel
theorem d_KReader_eight_93 : decode b_KReader_eight 93 = .ok (.iload_n 3, 1) := by decide +kernel
theorem d_KReader_eight_94 : decode b_KReader_eight 94 = .ok (.iload 5, 2) := by decide +kernel
theorem d_KReader_eight_96 : decode b_KReader_eight 96 = .ok (.iadd, 1) := by decide +kernel
theorem d_KReader_eight_97 : decode b_KReader_eight 97 = .ok (.iload_n 2, 1) := by decide +kernel
theorem d_KReader_eight_98 : decode b_KReader_eight 98 = .ok (.if_icmp .lt 5, 3) := by decide +kernel
theorem d_KReader_eight_101 : decode b_KReader_eight 101 = .ok (.iconst 0, 1) := by decide +kernel
theorem d_KReader_eight_102 : decode b_KReader_eight 102 = .ok (.ireturn, 1) := by decide +kernel
theorem d_KReader_eight_103 : decode b_KReader_eight 103 = .ok (.iload 4, 2) := by decide +kernel
theorem d_KReader_eight_105 : decode b_KReader_eight 105 = .ok (.iload 5, 2) := by decide +kernel
theorem d_KReader_eight_107 : decode b_KReader_eight 107 = .ok (.iconst 1, 1) := by decide +kernel
theorem d_KReader_eight_108 : decode b_KReader_eight 108 = .ok (.if_icmp .ne 8, 3) := by decide +kernel
theorem d_KReader_eight_111 : decode b_KReader_eight 111 = .ok (.bipush 31, 2) := by decide +kernel
theorem d_KReader_eight_113 : decode b_KReader_eight 113 = .ok (.goto 16, 3) := by decide +kernel
theorem d_KReader_eight_116 : decode b_KReader_eight 116 = .ok (.iload 5, 2) := by decide +kernel
theorem d_KReader_eight_118 : decode b_KReader_eight 118 = .ok (.iconst 2, 1) := by decide +kernel
theorem d_KReader_eight_119 : decode b_KReader_eight 119 = .ok (.if_icmp .ne 8, 3) := by decide +kernel
theorem d_KReader_eight_122 : decode b_KReader_eight 122 = .ok (.bipush 15, 2) := by decide +kernel
theorem d_KReader_eight_124 : decode b_KReader_eight 124 = .ok (.goto 5, 3) := by decide +kernel
theorem d_KReader_eight_127 : decode b_KReader_eight 127 = .ok (.bipush 7, 2) := by decide +kernel
theorem d_KReader_eight_129 : decode b_KReader_eight 129 = .ok (.iand, 1) := by decide +kernel
theorem d_KReader_eight_130 : decode b_KReader_eight 130 = .ok (.istore 6, 2) := by decide +kernel
theorem d_KReader_eight_132 : decode b_KReader_eight 132 = .ok (.iconst 1, 1) := by decide +kernel
theorem d_KReader_eight_133 : decode b_KReader_eight 133 = .ok (.istore 7, 2) := by decide +kernel
theorem d_KReader_eight_135 : decode b_KReader_eight 135 = .ok (.iload 7, 2) := by decide +kernel
theorem d_KReader_eight_137 : decode b_KReader_eight 137 = .ok (.iload 5, 2) := by decide +kernel
theorem d_KReader_eight_139 : decode b_KReader_eight 139 = .ok (.if_icmp .gt 53, 3) := by decide +kernel
theorem d_KReader_eight_142 : decode b_KReader_eight 142 = .ok (.aload_n 1, 1) := by decide +kernel
theorem d_KReader_eight_143 : decode b_KReader_eight 143 = .ok (.iload_n 3, 1) := by decide +kernel
theorem d_KReader_eight_144 : decode b_KReader_eight 144 = .ok (.iload 7, 2) := by decide +kernel
theorem d_KReader_eight_146 : decode b_KReader_eight 146 = .ok (.iadd, 1) := by decide +kernel
theorem d_KReader_eight_147 : decode b_KReader_eight 147 = .ok (.baload, 1) := by decide +kernel
theorem d_KReader_eight_148 : decode b_KReader_eight 148 = .ok (.sipush 255, 3) := by decide +kernel
theorem d_KReader_eight_151 : decode b_KReader_eight 151 = .ok (.iand, 1) := by decide +kernel
theorem d_KReader_eight_152 : decode b_KReader_eight 152 = .ok (.istore 8, 2) := by decide +kernel
theorem d_KReader_eight_154 : decode b_KReader_eight 154 = .ok (.iload 8, 2) := by decide +kernel
theorem d_KReader_eight_156 : decode b_KReader_eight 156 = .ok (.sipush 128, 3) := by decide +kernel
theorem d_KReader_eight_159 : decode b_KReader_eight 159 = .ok (.if_icmp .lt 11, 3) := by decide +kernel
theorem d_KReader_eight_162 : decode b_KReader_eight 162 = .ok (.iload 8, 2) := by decide +kernel
theorem d_KReader_eight_164 : decode b_KReader_eight 164 = .ok (.sipush 191, 3) := by decide +kernel
theorem d_KReader_eight_167 : decode b_KReader_eight 167 = .ok (.if_icmp .le 5, 3) := by decide +kernel
theorem d_KReader_eight_170 : decode b_KReader_eight 170 = .ok (.iconst 0, 1) := by decide +kernel
theorem d_KReader_eight_171 : decode b_KReader_eight 171 = .ok (.ireturn, 1) := by decide +kernel
theorem d_KReader_eight_172 : decode b_KReader_eight 172 = .ok (.iload 6, 2) := by decide +kernel
theorem d_KReader_eight_174 : decode b_KReader_eight 174 = .ok (.bipush 64, 2) := by decide +kernel
theorem d_KReader_eight_176 : decode b_KReader_eight 176 = .ok (.imul, 1) := by decide +kernel
theorem d_KReader_eight_177 : decode b_KReader_eight 177 = .ok (.iload 8, 2) := by decide +kernel
theorem d_KReader_eight_179 : decode b_KReader_eight 179 = .ok (.iadd, 1) := by decide +kernel
theorem d_KReader_eight_180 : decode b_KReader_eight 180 = .ok (.sipush 128, 3) := by decide +kernel
theorem d_KReader_eight_183 : decode b_KReader_eight 183 = .ok (.isub, 1) := by decide +kernel
theorem d_KReader_eight_184 : decode b_KReader_eight 184 = .ok (.istore 6, 2) := by decide +kernel
theorem d_KReader_eight_186 : decode b_KReader_eight 186 = .ok (.iinc 7 1, 3) := by decide +kernel
theorem d_KReader_eight_189 : decode b_KReader_eight 189 = .ok (.goto (-54), 3) := by decide +kernel
theorem d_KReader_eight_192 : decode b_KReader_eight 192 = .ok (.aload_n 0, 1) := by decide +kernel
theorem d_KReader_eight_193 : decode b_KReader_eight 193 = .ok (.iload 6, 2) := by decide +kernel
theorem d_KReader_eight_195 : decode b_KReader_eight 195 = .ok (.putfield 248, 3) := by decide +kernel
theorem d_KReader_eight_198 : decode b_KReader_eight 198 = .ok (.iload 6, 2) := by decide +kernel
theorem d_KReader_eight_200 : decode b_KReader_eight 200 = .ok (.iload 5, 2) := by decide +kernel
theorem d_KReader_eight_202 : decode b_KReader_eight 202 = .ok (.iconst 1, 1) := by decide +kernel
theorem d_KReader_eight_203 : decode b_KReader_eight 203 = .ok (.if_icmp .ne 9, 3) := by decide +kernel
theorem d_KReader_eight_206 : decode b_KReader_eight 206 = .ok (.sipush 128, 3) := by decide +kernel
theorem d_KReader_eight_209 : decode b_KReader_eight 209 = .ok (.goto 17, 3) := by decide +kernel
theorem d_KReader_eight_212 : decode b_KReader_eight 212 = .ok (.iload 5, 2) := by decide +kernel
theorem d_KReader_eight_214 : decode b_KReader_eight 214 = .ok (.iconst 2, 1) := by decide +kernel
theorem d_KReader_eight_215 : decode b_KReader_eight 215 = .ok (.if_icmp .ne 9, 3) := by decide +kernel
theorem d_KReader_eight_218 : decode b_KReader_eight 218 = .ok (.sipush 2048, 3) := by decide +kernel
theorem d_KReader_eight_221 : decode b_KReader_eight 221 = .ok (.goto 5, 3) := by decide +kernel
theorem d_KReader_eight_224 : decode b_KReader_eight 224 = .ok (.ldc 40, 2) := by decide +kernel
theorem d_KReader_eight_226 : decode b_KReader_eight 226 = .ok (.if_icmp .ge 7, 3) := by decide +kernel
theorem d_KReader_eight_229 : decode b_KReader_eight 229 = .ok (.iconst 0, 1) := by decide +kernel
theorem d_KReader_eight_230 : decode b_KReader_eight 230 = .ok (.goto 7, 3) := by decide +kernel
theorem d_KReader_eight_233 : decode b_KReader_eight 233 = .ok (.iload 5, 2) := by decide +kernel
theorem d_KReader_eight_235 : decode b_KReader_eight 235 = .ok (.iconst 1, 1) := by decide +kernel
theorem d_KReader_eight_236 : decode b_KReader_eight 236 = .ok (.iadd, 1) := by decide +kernel
theorem d_KReader_eight_237 : decode b_KReader_eight 237 = .ok (.ireturn, 1) := by decide +kernel
/-- KReader_eight -/
def w_KReader_eight (L : Nat → Nat) (a1 : Nat) (a2 : Int) (a3 : Int) (Q : Int → IS → Prop) (σ : IS) : Prop := inL L a1 a3 ∧ if (ia (σ.2 a1 (Int.toNat a3)) 255) < 128 then Q 1 (pf σ 16 75 (ia (σ.2 a1 (Int.toNat a3)) 255)) else LETI (if (ia (σ.2 a1 (Int.toNat a3)) 255) < 192 then (if (ia (σ.2 a1 (Int.toNat a3)) 255) < 224 then (if (ia (σ.2 a1 (Int.toNat a3)) 255) < 240 then (0 : Int) else (if (ia (σ.2 a1 (Int.toNat a3)) 255) < 248 then (3 : Int) else (0 : Int))) else (if (ia (σ.2 a1 (Int.toNat a3)) 255) < 240 then (2 : Int) else (if (ia (σ.2 a1 (Int.toNat a3)) 255) < 240 then (0 : Int) else (if (ia (σ.2 a1 (Int.toNat a3)) 255) < 248 then (3 : Int) else (0 : Int))))) else (if (ia (σ.2 a1 (Int.toNat a3)) 255) < 224 then (1 : Int) else (if (ia (σ.2 a1 (Int.toNat a3)) 255) < 224 then (if (ia (σ.2 a1 (Int.toNat a3)) 255) < 240 then (0 : Int) else (if (ia (σ.2 a1 (Int.toNat a3)) 255) < 248 then (3 : Int) else (0 : Int))) else (if (ia (σ.2 a1 (Int.toNat a3)) 255) < 240 then (2 : Int) else (if (ia (σ.2 a1 (Int.toNat a3)) 255) < 240 then (0 : Int) else (if (ia (σ.2 a1 (Int.toNat a3)) 255) < 248 then (3 : Int) else (0 : Int))))))) (fun t2 => ((¬ t2 = 0 → inR (a3 + t2))) ∧ if ¬ t2 = 0 ∧ ((a3 + t2) < a2) then WL (fun (K5 : Int × Int → IS → Prop) (s7 : Int × Int) (σ8 : IS) => if t2 < s7.2 then ((¬ s7.1 < (if t2 = 1 then (128 : Int) else (if t2 = 2 then (2048 : Int) else (65536 : Int))) → inR (t2 + 1))) ∧ Q (if s7.1 < (if t2 = 1 then (128 : Int) else (if t2 = 2 then (2048 : Int) else (65536 : Int))) then (0 : Int) else (t2 + 1)) (pf σ8 16 75 s7.1) else inR (a3 + s7.2) ∧ inL L a1 (a3 + s7.2) ∧ if ¬ (ia (σ8.2 a1 (Int.toNat (a3 + s7.2))) 255) < 128 ∧ (¬ 191 < (ia (σ8.2 a1 (Int.toNat (a3 + s7.2))) 255)) then inR (s7.1 * 64) ∧ inR ((s7.1 * 64) + (ia (σ8.2 a1 (Int.toNat (a3 + s7.2))) 255)) ∧ inR (((s7.1 * 64) + (ia (σ8.2 a1 (Int.toNat (a3 + s7.2))) 255)) - 128) ∧ inR (s7.2 + 1) ∧ K5 ((((s7.1 * 64) + (ia (σ8.2 a1 (Int.toNat (a3 + s7.2))) 255)) - 128), (s7.2 + 1)) σ8 else Q 0 σ8) ((ia (ia (σ.2 a1 (Int.toNat a3)) 255) (if t2 = 1 then (31 : Int) else (if t2 = 2 then (15 : Int) else (7 : Int)))), 1) σ else Q 0 σ)
set_option maxHeartbeats 4000000 in
set_option maxRecDepth 20000 in
theorem s_KReader_eight {L : Nat → Nat} (hL : ∀ r, L r < 2147483648) {d : Nat} (hd : 0 ≤ d) {a1 : Nat} {a2 : Int} {a3 : Int} {Q : Int → IS → Prop} {σ : IS} (ha1 : rwB BF a1) (h : w_KReader_eight L a1 a2 a3 Q σ) : OkI BF L d 15 b_KReader_eight 9 1 0 [] [some (.inr 16), some (.inr a1), some (.inl a2), some (.inl a3)] σ (qi Q) := by
  unfold w_KReader_eight at h
  refine k_sb (lv' := [some (.inr 16), some (.inr a1), some (.inl a2), some (.inl a3), none, none, none, none, none]) (sb_s (sb_s (sb_s (sb_s (sb_e (sb_e (sb_e (sb_e (sb_e sb_nil))))))))) ?_
  refine k_aload_n d_KReader_eight_0 rfl ?_
  refine k_iload_n d_KReader_eight_1 rfl ?_
  obtain ⟨p92, h⟩ := h
  refine k_bld (x := (σ.2 a1 (Int.toNat a3))) d_KReader_eight_2 ha1 p92 rfl ?_
  refine k_sipush d_KReader_eight_3 cS_255 ?_
  refine k_iand d_KReader_eight_6 ?_
  refine k_istore (lv' := [some (.inr 16), some (.inr a1), some (.inl a2), some (.inl a3), some (.inl (ia (σ.2 a1 (Int.toNat a3)) 255)), none, none, none, none]) d_KReader_eight_7 rfl rfl ?_
  refine k_iload d_KReader_eight_9 rfl ?_
  refine k_sipush d_KReader_eight_11 cS_128 ?_
  refine k_icge d_KReader_eight_14 rfl (fun c1 => ?_) (fun c1 => ?_)
  · have h := ineg c1 h
    refine k_iload d_KReader_eight_25 rfl ?_
    refine k_sipush d_KReader_eight_27 cS_192 ?_
    have hV49 : OkI BF L d 15 b_KReader_eight 9 1 86 [.inl (if (ia (σ.2 a1 (Int.toNat a3)) 255) < 192 then (if (ia (σ.2 a1 (Int.toNat a3)) 255) < 224 then (if (ia (σ.2 a1 (Int.toNat a3)) 255) < 240 then (0 : Int) else (if (ia (σ.2 a1 (Int.toNat a3)) 255) < 248 then (3 : Int) else (0 : Int))) else (if (ia (σ.2 a1 (Int.toNat a3)) 255) < 240 then (2 : Int) else (if (ia (σ.2 a1 (Int.toNat a3)) 255) < 240 then (0 : Int) else (if (ia (σ.2 a1 (Int.toNat a3)) 255) < 248 then (3 : Int) else (0 : Int))))) else (if (ia (σ.2 a1 (Int.toNat a3)) 255) < 224 then (1 : Int) else (if (ia (σ.2 a1 (Int.toNat a3)) 255) < 224 then (if (ia (σ.2 a1 (Int.toNat a3)) 255) < 240 then (0 : Int) else (if (ia (σ.2 a1 (Int.toNat a3)) 255) < 248 then (3 : Int) else (0 : Int))) else (if (ia (σ.2 a1 (Int.toNat a3)) 255) < 240 then (2 : Int) else (if (ia (σ.2 a1 (Int.toNat a3)) 255) < 240 then (0 : Int) else (if (ia (σ.2 a1 (Int.toNat a3)) 255) < 248 then (3 : Int) else (0 : Int)))))))] [some (.inr 16), some (.inr a1), some (.inl a2), some (.inl a3), some (.inl (ia (σ.2 a1 (Int.toNat a3)) 255)), none, none, none, none] σ (qi Q) := by
      refine k_letI (fun t2 ht3 h => ?_) h
      refine k_istore (lv' := [some (.inr 16), some (.inr a1), some (.inl a2), some (.inl a3), some (.inl (ia (σ.2 a1 (Int.toNat a3)) 255)), some (.inl t2), none, none, none]) d_KReader_eight_86 rfl rfl ?_
      refine k_iload d_KReader_eight_88 rfl ?_
      obtain ⟨pt45, h⟩ := h
      have hX42 : (¬ t2 = 0 ∧ ((a3 + t2) < a2)) → OkI BF L d 15 b_KReader_eight 9 1 103 [] [some (.inr 16), some (.inr a1), some (.inl a2), some (.inl a3), some (.inl (ia (σ.2 a1 (Int.toNat a3)) 255)), some (.inl t2), none, none, none] σ (qi Q) := fun e44 => by
        have h := ipos e44 h
        refine k_iload d_KReader_eight_103 rfl ?_
        refine k_iload d_KReader_eight_105 rfl ?_
        refine k_iconst d_KReader_eight_107 cI_1 ?_
        have hV35 : OkI BF L d 15 b_KReader_eight 9 1 129 [.inl (if t2 = 1 then (31 : Int) else (if t2 = 2 then (15 : Int) else (7 : Int))), .inl (ia (σ.2 a1 (Int.toNat a3)) 255)] [some (.inr 16), some (.inr a1), some (.inl a2), some (.inl a3), some (.inl (ia (σ.2 a1 (Int.toNat a3)) 255)), some (.inl t2), none, none, none] σ (qi Q) := by
          refine k_iand d_KReader_eight_129 ?_
          refine k_istore (lv' := [some (.inr 16), some (.inr a1), some (.inl a2), some (.inl a3), some (.inl (ia (σ.2 a1 (Int.toNat a3)) 255)), some (.inl t2), some (.inl (ia (ia (σ.2 a1 (Int.toNat a3)) 255) (if t2 = 1 then (31 : Int) else (if t2 = 2 then (15 : Int) else (7 : Int))))), none, none]) d_KReader_eight_130 rfl rfl ?_
          refine k_iconst d_KReader_eight_132 cI_1 ?_
          refine k_istore (lv' := [some (.inr 16), some (.inr a1), some (.inl a2), some (.inl a3), some (.inl (ia (σ.2 a1 (Int.toNat a3)) 255)), some (.inl t2), some (.inl (ia (ia (σ.2 a1 (Int.toNat a3)) 255) (if t2 = 1 then (31 : Int) else (if t2 = 2 then (15 : Int) else (7 : Int))))), some (.inl 1), none]) d_KReader_eight_133 rfl rfl ?_
          refine k_sb (lv' := [some (.inr 16), some (.inr a1), none, some (.inl a3), none, some (.inl t2), some (.inl (ia (ia (σ.2 a1 (Int.toNat a3)) 255) (if t2 = 1 then (31 : Int) else (if t2 = 2 then (15 : Int) else (7 : Int))))), some (.inl 1), none]) (sb_s (sb_s (sb_n (sb_s (sb_n (sb_s (sb_s (sb_s (sb_s sb_nil))))))))) ?_
          refine k_loop (S := Int × Int) (st := fun _ => []) (lv := fun s7 => [some (.inr 16), some (.inr a1), none, some (.inl a3), none, some (.inl t2), some (.inl s7.1), some (.inl s7.2), none]) (fun K5 hK6 s7 σ8 h => ?_) ((ia (ia (σ.2 a1 (Int.toNat a3)) 255) (if t2 = 1 then (31 : Int) else (if t2 = 2 then (15 : Int) else (7 : Int)))), 1) _ h
          refine k_iload d_KReader_eight_135 rfl ?_
          refine k_iload d_KReader_eight_137 rfl ?_
          refine k_icgt d_KReader_eight_139 rfl (fun c9 => ?_) (fun c9 => ?_)
          · have h := ipos c9 h
            refine k_aload_n d_KReader_eight_192 rfl ?_
            refine k_iload d_KReader_eight_193 rfl ?_
            refine k_putI d_KReader_eight_195 fl_15_248 ob_16 rfl ?_
            refine k_iload d_KReader_eight_198 rfl ?_
            refine k_iload d_KReader_eight_200 rfl ?_
            refine k_iconst d_KReader_eight_202 cI_1 ?_
            have hV17 : OkI BF L d 15 b_KReader_eight 9 1 226 [.inl (if t2 = 1 then (128 : Int) else (if t2 = 2 then (2048 : Int) else (65536 : Int))), .inl s7.1] [some (.inr 16), some (.inr a1), none, some (.inl a3), none, some (.inl t2), some (.inl s7.1), some (.inl s7.2), none] (pf σ8 16 75 s7.1) (qi Q) := by
              obtain ⟨pt12, h⟩ := h
              have hV11 : OkI BF L d 15 b_KReader_eight 9 1 237 [.inl (if s7.1 < (if t2 = 1 then (128 : Int) else (if t2 = 2 then (2048 : Int) else (65536 : Int))) then (0 : Int) else (t2 + 1))] [some (.inr 16), some (.inr a1), none, some (.inl a3), none, some (.inl t2), some (.inl s7.1), some (.inl s7.2), none] (pf σ8 16 75 s7.1) (qi Q) := by
                exact k_iret d_KReader_eight_237 (Or.inl rfl) h
              have pb13 := pt12
              refine k_icge d_KReader_eight_226 rfl (fun c14 => ?_) (fun c14 => ?_)
              · have pb13 := pb13 c14
                have hV16 := k_eqI (if_neg c14) hV11
                have p10 := pb13
                refine k_iload d_KReader_eight_233 rfl ?_
                refine k_iconst d_KReader_eight_235 cI_1 ?_
                refine k_iadd d_KReader_eight_236 p10 ?_
                exact hV16
              · have hV15 := k_eqI (if_pos c14) hV11
                refine k_iconst d_KReader_eight_229 cI_0 ?_
                refine k_goto d_KReader_eight_230 rfl ?_
                exact hV15
            refine k_icne d_KReader_eight_203 rfl (fun c18 => ?_) (fun c18 => ?_)
            · have hV20 := k_eqI (if_neg c18) hV17
              refine k_iload d_KReader_eight_212 rfl ?_
              refine k_iconst d_KReader_eight_214 cI_2 ?_
              refine k_icne d_KReader_eight_215 rfl (fun c21 => ?_) (fun c21 => ?_)
              · have hV23 := k_eqI (if_neg c21) hV20
                refine k_ldc d_KReader_eight_224 ks_15_40 cL_65536 ?_
                exact hV23
              · have hV22 := k_eqI (if_pos c21) hV20
                refine k_sipush d_KReader_eight_218 cS_2048 ?_
                refine k_goto d_KReader_eight_221 rfl ?_
                exact hV22
            · have hV19 := k_eqI (if_pos c18) hV17
              refine k_sipush d_KReader_eight_206 cS_128 ?_
              refine k_goto d_KReader_eight_209 rfl ?_
              exact hV19
          · have h := ineg c9 h
            refine k_aload_n d_KReader_eight_142 rfl ?_
            refine k_iload_n d_KReader_eight_143 rfl ?_
            refine k_iload d_KReader_eight_144 rfl ?_
            obtain ⟨p34, h⟩ := h
            refine k_iadd d_KReader_eight_146 p34 ?_
            obtain ⟨p33, h⟩ := h
            refine k_bld (x := (σ8.2 a1 (Int.toNat (a3 + s7.2)))) d_KReader_eight_147 ha1 p33 rfl ?_
            refine k_sipush d_KReader_eight_148 cS_255 ?_
            refine k_iand d_KReader_eight_151 ?_
            refine k_istore (lv' := [some (.inr 16), some (.inr a1), none, some (.inl a3), none, some (.inl t2), some (.inl s7.1), some (.inl s7.2), some (.inl (ia (σ8.2 a1 (Int.toNat (a3 + s7.2))) 255))]) d_KReader_eight_152 rfl rfl ?_
            refine k_iload d_KReader_eight_154 rfl ?_
            refine k_sipush d_KReader_eight_156 cS_128 ?_
            have hX28 : (¬ (ia (σ8.2 a1 (Int.toNat (a3 + s7.2))) 255) < 128 ∧ (¬ 191 < (ia (σ8.2 a1 (Int.toNat (a3 + s7.2))) 255))) → OkI BF L d 15 b_KReader_eight 9 1 172 [] [some (.inr 16), some (.inr a1), none, some (.inl a3), none, some (.inl t2), some (.inl s7.1), some (.inl s7.2), some (.inl (ia (σ8.2 a1 (Int.toNat (a3 + s7.2))) 255))] σ8 (qi Q) := fun e30 => by
              have h := ipos e30 h
              refine k_iload d_KReader_eight_172 rfl ?_
              refine k_bipush d_KReader_eight_174 cB_64 ?_
              obtain ⟨p27, h⟩ := h
              refine k_imul d_KReader_eight_176 p27 ?_
              refine k_iload d_KReader_eight_177 rfl ?_
              obtain ⟨p26, h⟩ := h
              refine k_iadd d_KReader_eight_179 p26 ?_
              refine k_sipush d_KReader_eight_180 cS_128 ?_
              obtain ⟨p25, h⟩ := h
              refine k_isub d_KReader_eight_183 p25 ?_
              refine k_istore (lv' := [some (.inr 16), some (.inr a1), none, some (.inl a3), none, some (.inl t2), some (.inl (((s7.1 * 64) + (ia (σ8.2 a1 (Int.toNat (a3 + s7.2))) 255)) - 128)), some (.inl s7.2), some (.inl (ia (σ8.2 a1 (Int.toNat (a3 + s7.2))) 255))]) d_KReader_eight_184 rfl rfl ?_
              obtain ⟨p24, h⟩ := h
              refine k_iinc (lv' := [some (.inr 16), some (.inr a1), none, some (.inl a3), none, some (.inl t2), some (.inl (((s7.1 * 64) + (ia (σ8.2 a1 (Int.toNat (a3 + s7.2))) 255)) - 128)), some (.inl (s7.2 + 1)), some (.inl (ia (σ8.2 a1 (Int.toNat (a3 + s7.2))) 255))]) d_KReader_eight_186 cI_1 rfl rfl p24 rfl ?_
              refine k_goto d_KReader_eight_189 rfl ?_
              exact k_sb (sb_s (sb_s (sb_s (sb_s (sb_s (sb_s (sb_s (sb_s (sb_n sb_nil))))))))) (hK6 ((((s7.1 * 64) + (ia (σ8.2 a1 (Int.toNat (a3 + s7.2))) 255)) - 128), (s7.2 + 1)) _ h)
            have hY29 : ¬ (¬ (ia (σ8.2 a1 (Int.toNat (a3 + s7.2))) 255) < 128 ∧ (¬ 191 < (ia (σ8.2 a1 (Int.toNat (a3 + s7.2))) 255))) → OkI BF L d 15 b_KReader_eight 9 1 170 [] [some (.inr 16), some (.inr a1), none, some (.inl a3), none, some (.inl t2), some (.inl s7.1), some (.inl s7.2), some (.inl (ia (σ8.2 a1 (Int.toNat (a3 + s7.2))) 255))] σ8 (qi Q) := fun e30 => by
              have h := ineg e30 h
              refine k_iconst d_KReader_eight_170 cI_0 ?_
              exact k_iret d_KReader_eight_171 (Or.inl rfl) h
            refine k_iclt d_KReader_eight_159 rfl (fun c31 => ?_) (fun c31 => ?_)
            · exact hY29 (fun z => z.1 c31)
            · refine k_iload d_KReader_eight_162 rfl ?_
              refine k_sipush d_KReader_eight_164 cS_191 ?_
              refine k_icle d_KReader_eight_167 rfl (fun c32 => ?_) (fun c32 => ?_)
              · exact hX28 (⟨c31, c32⟩)
              · exact hY29 (fun z => (fun z => z c32) z.2)
        refine k_icne d_KReader_eight_108 rfl (fun c36 => ?_) (fun c36 => ?_)
        · have hV38 := k_eqI (if_neg c36) hV35
          refine k_iload d_KReader_eight_116 rfl ?_
          refine k_iconst d_KReader_eight_118 cI_2 ?_
          refine k_icne d_KReader_eight_119 rfl (fun c39 => ?_) (fun c39 => ?_)
          · have hV41 := k_eqI (if_neg c39) hV38
            refine k_bipush d_KReader_eight_127 cB_7 ?_
            exact hV41
          · have hV40 := k_eqI (if_pos c39) hV38
            refine k_bipush d_KReader_eight_122 cB_15 ?_
            refine k_goto d_KReader_eight_124 rfl ?_
            exact hV40
        · have hV37 := k_eqI (if_pos c36) hV35
          refine k_bipush d_KReader_eight_111 cB_31 ?_
          refine k_goto d_KReader_eight_113 rfl ?_
          exact hV37
      have hY43 : ¬ (¬ t2 = 0 ∧ ((a3 + t2) < a2)) → OkI BF L d 15 b_KReader_eight 9 1 101 [] [some (.inr 16), some (.inr a1), some (.inl a2), some (.inl a3), some (.inl (ia (σ.2 a1 (Int.toNat a3)) 255)), some (.inl t2), none, none, none] σ (qi Q) := fun e44 => by
        have h := ineg e44 h
        refine k_iconst d_KReader_eight_101 cI_0 ?_
        exact k_iret d_KReader_eight_102 (Or.inl rfl) h
      have pb46 := pt45
      refine k_ifeq d_KReader_eight_90 rfl (fun c47 => ?_) (fun c47 => ?_)
      · exact hY43 (fun z => z.1 c47)
      · have pb46 := pb46 c47
        have p4 := pb46
        refine k_iload_n d_KReader_eight_93 rfl ?_
        refine k_iload d_KReader_eight_94 rfl ?_
        refine k_iadd d_KReader_eight_96 p4 ?_
        refine k_iload_n d_KReader_eight_97 rfl ?_
        refine k_iclt d_KReader_eight_98 rfl (fun c48 => ?_) (fun c48 => ?_)
        · exact hX42 (⟨c47, c48⟩)
        · exact hY43 (fun z => (c48) z.2)
    refine k_iclt d_KReader_eight_30 rfl (fun c50 => ?_) (fun c50 => ?_)
    · have hV51 := k_eqI (if_pos c50) hV49
      refine k_iload d_KReader_eight_45 rfl ?_
      refine k_sipush d_KReader_eight_47 cS_224 ?_
      refine k_iclt d_KReader_eight_50 rfl (fun c52 => ?_) (fun c52 => ?_)
      · have hV53 := k_eqI (if_pos c52) hV51
        refine k_iload d_KReader_eight_65 rfl ?_
        refine k_sipush d_KReader_eight_67 cS_240 ?_
        refine k_iclt d_KReader_eight_70 rfl (fun c54 => ?_) (fun c54 => ?_)
        · have hV55 := k_eqI (if_pos c54) hV53
          refine k_iconst d_KReader_eight_85 cI_0 ?_
          exact hV55
        · have hV56 := k_eqI (if_neg c54) hV53
          refine k_iload d_KReader_eight_73 rfl ?_
          refine k_sipush d_KReader_eight_75 cS_248 ?_
          refine k_icge d_KReader_eight_78 rfl (fun c57 => ?_) (fun c57 => ?_)
          · have hV59 := k_eqI (if_neg c57) hV56
            refine k_iconst d_KReader_eight_85 cI_0 ?_
            exact hV59
          · have hV58 := k_eqI (if_pos c57) hV56
            refine k_iconst d_KReader_eight_81 cI_3 ?_
            refine k_goto d_KReader_eight_82 rfl ?_
            exact hV58
      · have hV60 := k_eqI (if_neg c52) hV51
        refine k_iload d_KReader_eight_53 rfl ?_
        refine k_sipush d_KReader_eight_55 cS_240 ?_
        refine k_icge d_KReader_eight_58 rfl (fun c61 => ?_) (fun c61 => ?_)
        · have hV63 := k_eqI (if_neg c61) hV60
          refine k_iload d_KReader_eight_65 rfl ?_
          refine k_sipush d_KReader_eight_67 cS_240 ?_
          refine k_iclt d_KReader_eight_70 rfl (fun c64 => ?_) (fun c64 => ?_)
          · have hV65 := k_eqI (if_pos c64) hV63
            refine k_iconst d_KReader_eight_85 cI_0 ?_
            exact hV65
          · have hV66 := k_eqI (if_neg c64) hV63
            refine k_iload d_KReader_eight_73 rfl ?_
            refine k_sipush d_KReader_eight_75 cS_248 ?_
            refine k_icge d_KReader_eight_78 rfl (fun c67 => ?_) (fun c67 => ?_)
            · have hV69 := k_eqI (if_neg c67) hV66
              refine k_iconst d_KReader_eight_85 cI_0 ?_
              exact hV69
            · have hV68 := k_eqI (if_pos c67) hV66
              refine k_iconst d_KReader_eight_81 cI_3 ?_
              refine k_goto d_KReader_eight_82 rfl ?_
              exact hV68
        · have hV62 := k_eqI (if_pos c61) hV60
          refine k_iconst d_KReader_eight_61 cI_2 ?_
          refine k_goto d_KReader_eight_62 rfl ?_
          exact hV62
    · have hV70 := k_eqI (if_neg c50) hV49
      refine k_iload d_KReader_eight_33 rfl ?_
      refine k_sipush d_KReader_eight_35 cS_224 ?_
      refine k_icge d_KReader_eight_38 rfl (fun c71 => ?_) (fun c71 => ?_)
      · have hV73 := k_eqI (if_neg c71) hV70
        refine k_iload d_KReader_eight_45 rfl ?_
        refine k_sipush d_KReader_eight_47 cS_224 ?_
        refine k_iclt d_KReader_eight_50 rfl (fun c74 => ?_) (fun c74 => ?_)
        · have hV75 := k_eqI (if_pos c74) hV73
          refine k_iload d_KReader_eight_65 rfl ?_
          refine k_sipush d_KReader_eight_67 cS_240 ?_
          refine k_iclt d_KReader_eight_70 rfl (fun c76 => ?_) (fun c76 => ?_)
          · have hV77 := k_eqI (if_pos c76) hV75
            refine k_iconst d_KReader_eight_85 cI_0 ?_
            exact hV77
          · have hV78 := k_eqI (if_neg c76) hV75
            refine k_iload d_KReader_eight_73 rfl ?_
            refine k_sipush d_KReader_eight_75 cS_248 ?_
            refine k_icge d_KReader_eight_78 rfl (fun c79 => ?_) (fun c79 => ?_)
            · have hV81 := k_eqI (if_neg c79) hV78
              refine k_iconst d_KReader_eight_85 cI_0 ?_
              exact hV81
            · have hV80 := k_eqI (if_pos c79) hV78
              refine k_iconst d_KReader_eight_81 cI_3 ?_
              refine k_goto d_KReader_eight_82 rfl ?_
              exact hV80
        · have hV82 := k_eqI (if_neg c74) hV73
          refine k_iload d_KReader_eight_53 rfl ?_
          refine k_sipush d_KReader_eight_55 cS_240 ?_
          refine k_icge d_KReader_eight_58 rfl (fun c83 => ?_) (fun c83 => ?_)
          · have hV85 := k_eqI (if_neg c83) hV82
            refine k_iload d_KReader_eight_65 rfl ?_
            refine k_sipush d_KReader_eight_67 cS_240 ?_
            refine k_iclt d_KReader_eight_70 rfl (fun c86 => ?_) (fun c86 => ?_)
            · have hV87 := k_eqI (if_pos c86) hV85
              refine k_iconst d_KReader_eight_85 cI_0 ?_
              exact hV87
            · have hV88 := k_eqI (if_neg c86) hV85
              refine k_iload d_KReader_eight_73 rfl ?_
              refine k_sipush d_KReader_eight_75 cS_248 ?_
              refine k_icge d_KReader_eight_78 rfl (fun c89 => ?_) (fun c89 => ?_)
              · have hV91 := k_eqI (if_neg c89) hV88
                refine k_iconst d_KReader_eight_85 cI_0 ?_
                exact hV91
              · have hV90 := k_eqI (if_pos c89) hV88
                refine k_iconst d_KReader_eight_81 cI_3 ?_
                refine k_goto d_KReader_eight_82 rfl ?_
                exact hV90
          · have hV84 := k_eqI (if_pos c83) hV82
            refine k_iconst d_KReader_eight_61 cI_2 ?_
            refine k_goto d_KReader_eight_62 rfl ?_
            exact hV84
      · have hV72 := k_eqI (if_pos c71) hV70
        refine k_iconst d_KReader_eight_41 cI_1 ?_
        refine k_goto d_KReader_eight_42 rfl ?_
        exact hV72
  · have h := ipos c1 h
    refine k_aload_n d_KReader_eight_17 rfl ?_
    refine k_iload d_KReader_eight_18 rfl ?_
    refine k_putI d_KReader_eight_20 fl_15_248 ob_16 rfl ?_
    refine k_iconst d_KReader_eight_23 cI_1 ?_
    exact k_iret d_KReader_eight_24 (Or.inl rfl) h
theorem d_KReader_endLines_14 : decode b_KReader_endLines 14 = .ok (.iload_n 3, 1) := by decide +kernel
theorem d_KReader_endLines_15 : decode b_KReader_endLines 15 = .ok (.ifCond .le 22, 3) := by decide +kernel
theorem d_KReader_endLines_18 : decode b_KReader_endLines 18 = .ok (.aload_n 0, 1) := by decide +kernel
theorem d_KReader_endLines_19 : decode b_KReader_endLines 19 = .ok (.getfield 45, 3) := by decide +kernel
theorem d_KReader_endLines_22 : decode b_KReader_endLines 22 = .ok (.iload_n 3, 1) := by decide +kernel
theorem d_KReader_endLines_23 : decode b_KReader_endLines 23 = .ok (.iaload, 1) := by decide +kernel
theorem d_KReader_endLines_24 : decode b_KReader_endLines 24 = .ok (.bipush 10, 2) := by decide +kernel
theorem d_KReader_endLines_26 : decode b_KReader_endLines 26 = .ok (.if_icmp .ne 11, 3) := by decide +kernel
theorem d_KReader_endLines_29 : decode b_KReader_endLines 29 = .ok (.iload_n 1, 1) := by decide +kernel
theorem d_KReader_endLines_30 : decode b_KReader_endLines 30 = .ok (.ifCond .eq 7, 3) := by decide +kernel
theorem d_KReader_endLines_33 : decode b_KReader_endLines 33 = .ok (.iconst 1, 1) := by decide +kernel
theorem d_KReader_endLines_34 : decode b_KReader_endLines 34 = .ok (.goto 4, 3) := by decide +kernel
theorem d_KReader_endLines_37 : decode b_KReader_endLines 37 = .ok (.iconst 0, 1) := by decide +kernel
theorem d_KReader_endLines_38 : decode b_KReader_endLines 38 = .ok (.istore 4, 2) := by decide +kernel
theorem d_KReader_endLines_40 : decode b_KReader_endLines 40 = .ok (.aload_n 0, 1) := by decide +kernel
theorem d_KReader_endLines_41 : decode b_KReader_endLines 41 = .ok (.getfield 45, 3) := by decide +kernel
theorem d_KReader_endLines_44 : decode b_KReader_endLines 44 = .ok (.iload_n 3, 1) := by decide +kernel
theorem d_KReader_endLines_45 : decode b_KReader_endLines 45 = .ok (.iaload, 1) := by decide +kernel
theorem d_KReader_endLines_46 : decode b_KReader_endLines 46 = .ok (.bipush 13, 2) := by decide +kernel
theorem d_KReader_endLines_48 : decode b_KReader_endLines 48 = .ok (.if_icmp .ne 7, 3) := by decide +kernel
theorem d_KReader_endLines_51 : decode b_KReader_endLines 51 = .ok (.iconst 1, 1) := by decide +kernel
theorem d_KReader_endLines_52 : decode b_KReader_endLines 52 = .ok (.goto 4, 3) := by decide +kernel
theorem d_KReader_endLines_55 : decode b_KReader_endLines 55 = .ok (.iconst 0, 1) := by decide +kernel
theorem d_KReader_endLines_56 : decode b_KReader_endLines 56 = .ok (.istore_n 1, 1) := by decide +kernel
theorem d_KReader_endLines_57 : decode b_KReader_endLines 57 = .ok (.iload 4, 2) := by decide +kernel
theorem d_KReader_endLines_59 : decode b_KReader_endLines 59 = .ok (.ifCond .ne 27, 3) := by decide +kernel
theorem d_KReader_endLines_62 : decode b_KReader_endLines 62 = .ok (.aload_n 0, 1) := by decide +kernel
theorem d_KReader_endLines_63 : decode b_KReader_endLines 63 = .ok (.getfield 45, 3) := by decide +kernel
theorem d_KReader_endLines_66 : decode b_KReader_endLines 66 = .ok (.iload_n 2, 1) := by decide +kernel
theorem d_KReader_endLines_67 : decode b_KReader_endLines 67 = .ok (.iload_n 1, 1) := by decide +kernel
theorem d_KReader_endLines_68 : decode b_KReader_endLines 68 = .ok (.ifCond .eq 8, 3) := by decide +kernel
theorem d_KReader_endLines_71 : decode b_KReader_endLines 71 = .ok (.bipush 10, 2) := by decide +kernel
theorem d_KReader_endLines_73 : decode b_KReader_endLines 73 = .ok (.goto 9, 3) := by decide +kernel
theorem d_KReader_endLines_76 : decode b_KReader_endLines 76 = .ok (.aload_n 0, 1) := by decide +kernel
theorem d_KReader_endLines_77 : decode b_KReader_endLines 77 = .ok (.getfield 45, 3) := by decide +kernel
theorem d_KReader_endLines_80 : decode b_KReader_endLines 80 = .ok (.iload_n 3, 1) := by decide +kernel
theorem d_KReader_endLines_81 : decode b_KReader_endLines 81 = .ok (.iaload, 1) := by decide +kernel
theorem d_KReader_endLines_82 : decode b_KReader_endLines 82 = .ok (.iastore, 1) := by decide +kernel
theorem d_KReader_endLines_83 : decode b_KReader_endLines 83 = .ok (.iinc 2 1, 3) := by decide +kernel
theorem d_KReader_endLines_86 : decode b_KReader_endLines 86 = .ok (.iinc 3 1, 3) := by decide +kernel
theorem d_KReader_endLines_89 : decode b_KReader_endLines 89 = .ok (.goto (-83), 3) := by decide +kernel
/-- KReader_endLines -/
def w_KReader_endLines (L : Nat → Nat)  (Q : IS → Prop) (σ : IS) : Prop := WL (fun (K1 : Int × Int × Int → IS → Prop) (s3 : Int × Int × Int) (σ4 : IS) => if s3.2.2 < (σ4.1 16 6) then ((0 < s3.2.2 → inL L 176 s3.2.2)) ∧ inL L 176 s3.2.2 ∧ WJ (fun (s9 : Int) (σ10 : IS) => inR (s3.2.2 + 1) ∧ K1 ((if (σ4.2 176 (Int.toNat s3.2.2)) = 13 then (1 : Int) else (0 : Int)), s9, (s3.2.2 + 1)) σ10) (fun J7 => if (if 0 < s3.2.2 then (if (σ4.2 176 (Int.toNat s3.2.2)) = 10 then (if s3.1 = 0 then (0 : Int) else (1 : Int)) else (0 : Int)) else (0 : Int)) = 0 then (((if (σ4.2 176 (Int.toNat s3.2.2)) = 13 then (1 : Int) else (0 : Int)) = 0 → inL L 176 s3.2.2)) ∧ inL L 176 s3.2.1 ∧ inR (s3.2.1 + 1) ∧ J7 (s3.2.1 + 1) (pr σ4 176 (Int.toNat s3.2.1) (if (if (σ4.2 176 (Int.toNat s3.2.2)) = 13 then (1 : Int) else (0 : Int)) = 0 then (σ4.2 176 (Int.toNat s3.2.2)) else (10 : Int))) else J7 s3.2.1 σ4) else Q (pf (pf σ4 16 6 s3.2.1) 16 7 s3.2.1)) (0, 0, 0) σ
set_option maxHeartbeats 4000000 in
set_option maxRecDepth 20000 in
theorem s_KReader_endLines {L : Nat → Nat} (hL : ∀ r, L r < 2147483648) {d : Nat} (hd : 0 ≤ d)  {Q : IS → Prop} {σ : IS}  (h : w_KReader_endLines L  Q σ) : OkI BF L d 15 b_KReader_endLines 5 0 0 [] [some (.inr 16)] σ (qv Q) := by
  unfold w_KReader_endLines at h
  refine k_sb (lv' := [some (.inr 16), none, none, none, none]) (sb_s (sb_e (sb_e (sb_e (sb_e sb_nil))))) ?_
  refine k_iconst d_KReader_endLines_0 cI_0 ?_
  refine k_istore_n (lv' := [some (.inr 16), some (.inl 0), none, none, none]) d_KReader_endLines_1 rfl rfl ?_
  refine k_iconst d_KReader_endLines_2 cI_0 ?_
  refine k_istore_n (lv' := [some (.inr 16), some (.inl 0), some (.inl 0), none, none]) d_KReader_endLines_3 rfl rfl ?_
  refine k_iconst d_KReader_endLines_4 cI_0 ?_
  refine k_istore_n (lv' := [some (.inr 16), some (.inl 0), some (.inl 0), some (.inl 0), none]) d_KReader_endLines_5 rfl rfl ?_
  refine k_sb (lv' := [some (.inr 16), some (.inl 0), some (.inl 0), some (.inl 0), none]) (sb_s (sb_s (sb_s (sb_s (sb_s sb_nil))))) ?_
  refine k_loop (S := Int × Int × Int) (st := fun _ => []) (lv := fun s3 => [some (.inr 16), some (.inl s3.1), some (.inl s3.2.1), some (.inl s3.2.2), none]) (fun K1 hK2 s3 σ4 h => ?_) (0, 0, 0) _ h
  refine k_iload_n d_KReader_endLines_6 rfl ?_
  refine k_aload_n d_KReader_endLines_7 rfl ?_
  refine k_getI (x := (σ4.1 16 6)) d_KReader_endLines_8 fl_15_172 ob_16 rfl rfl ?_
  refine k_icge d_KReader_endLines_11 rfl (fun c5 => ?_) (fun c5 => ?_)
  · have h := ineg c5 h
    refine k_aload_n d_KReader_endLines_92 rfl ?_
    refine k_iload_n d_KReader_endLines_93 rfl ?_
    refine k_putI d_KReader_endLines_94 fl_15_172 ob_16 rfl ?_
    refine k_aload_n d_KReader_endLines_97 rfl ?_
    refine k_iload_n d_KReader_endLines_98 rfl ?_
    refine k_putI d_KReader_endLines_99 fl_15_258 ob_16 rfl ?_
    exact k_ret d_KReader_endLines_102 h
  · have h := ipos c5 h
    refine k_iload_n d_KReader_endLines_14 rfl ?_
    obtain ⟨pt28, h⟩ := h
    have hV27 : OkI BF L d 15 b_KReader_endLines 5 0 38 [.inl (if 0 < s3.2.2 then (if (σ4.2 176 (Int.toNat s3.2.2)) = 10 then (if s3.1 = 0 then (0 : Int) else (1 : Int)) else (0 : Int)) else (0 : Int))] [some (.inr 16), some (.inl s3.1), some (.inl s3.2.1), some (.inl s3.2.2), none] σ4 (qv Q) := by
      refine k_istore (lv' := [some (.inr 16), some (.inl s3.1), some (.inl s3.2.1), some (.inl s3.2.2), some (.inl (if 0 < s3.2.2 then (if (σ4.2 176 (Int.toNat s3.2.2)) = 10 then (if s3.1 = 0 then (0 : Int) else (1 : Int)) else (0 : Int)) else (0 : Int)))]) d_KReader_endLines_38 rfl rfl ?_
      refine k_aload_n d_KReader_endLines_40 rfl ?_
      refine k_getR d_KReader_endLines_41 fl_15_45 ob_16 rfl ?_
      refine k_iload_n d_KReader_endLines_44 rfl ?_
      obtain ⟨p26, h⟩ := h
      refine k_ild (x := (σ4.2 176 (Int.toNat s3.2.2))) d_KReader_endLines_45 rI_176 p26 rfl ?_
      refine k_bipush d_KReader_endLines_46 cB_13 ?_
      have hV22 : OkI BF L d 15 b_KReader_endLines 5 0 56 [.inl (if (σ4.2 176 (Int.toNat s3.2.2)) = 13 then (1 : Int) else (0 : Int))] [some (.inr 16), some (.inl s3.1), some (.inl s3.2.1), some (.inl s3.2.2), some (.inl (if 0 < s3.2.2 then (if (σ4.2 176 (Int.toNat s3.2.2)) = 10 then (if s3.1 = 0 then (0 : Int) else (1 : Int)) else (0 : Int)) else (0 : Int)))] σ4 (qv Q) := by
        refine k_istore_n (lv' := [some (.inr 16), some (.inl (if (σ4.2 176 (Int.toNat s3.2.2)) = 13 then (1 : Int) else (0 : Int))), some (.inl s3.2.1), some (.inl s3.2.2), some (.inl (if 0 < s3.2.2 then (if (σ4.2 176 (Int.toNat s3.2.2)) = 10 then (if s3.1 = 0 then (0 : Int) else (1 : Int)) else (0 : Int)) else (0 : Int)))]) d_KReader_endLines_56 rfl rfl ?_
        refine k_iload d_KReader_endLines_57 rfl ?_
        refine k_join (S := Int) (pc' := 86) (st' := fun s9 => []) (lv' := fun s9 => [some (.inr 16), some (.inl (if (σ4.2 176 (Int.toNat s3.2.2)) = 13 then (1 : Int) else (0 : Int))), some (.inl s9), some (.inl s3.2.2), none]) (fun s9 σ10 h => ?_) (fun J7 hJ8 h => ?_) h
        · obtain ⟨p11, h⟩ := h
          refine k_iinc (lv' := [some (.inr 16), some (.inl (if (σ4.2 176 (Int.toNat s3.2.2)) = 13 then (1 : Int) else (0 : Int))), some (.inl s9), some (.inl (s3.2.2 + 1)), none]) d_KReader_endLines_86 cI_1 rfl rfl p11 rfl ?_
          refine k_goto d_KReader_endLines_89 rfl ?_
          exact k_sb (sb_s (sb_s (sb_s (sb_s (sb_s sb_nil))))) (hK2 ((if (σ4.2 176 (Int.toNat s3.2.2)) = 13 then (1 : Int) else (0 : Int)), s9, (s3.2.2 + 1)) _ h)
        · refine k_ifne d_KReader_endLines_59 rfl (fun c12 => ?_) (fun c12 => ?_)
          · have h := ineg c12 h
            exact k_sb (sb_s (sb_s (sb_s (sb_s (sb_n sb_nil))))) (hJ8 s3.2.1 _ h)
          · have h := ipos c12 h
            refine k_aload_n d_KReader_endLines_62 rfl ?_
            refine k_getR d_KReader_endLines_63 fl_15_45 ob_16 rfl ?_
            refine k_iload_n d_KReader_endLines_66 rfl ?_
            refine k_iload_n d_KReader_endLines_67 rfl ?_
            obtain ⟨pt17, h⟩ := h
            have hV16 : OkI BF L d 15 b_KReader_endLines 5 0 82 [.inl (if (if (σ4.2 176 (Int.toNat s3.2.2)) = 13 then (1 : Int) else (0 : Int)) = 0 then (σ4.2 176 (Int.toNat s3.2.2)) else (10 : Int)), .inl s3.2.1, .inr 176] [some (.inr 16), some (.inl (if (σ4.2 176 (Int.toNat s3.2.2)) = 13 then (1 : Int) else (0 : Int))), some (.inl s3.2.1), some (.inl s3.2.2), some (.inl (if 0 < s3.2.2 then (if (σ4.2 176 (Int.toNat s3.2.2)) = 10 then (if s3.1 = 0 then (0 : Int) else (1 : Int)) else (0 : Int)) else (0 : Int)))] σ4 (qv Q) := by
              obtain ⟨p15, h⟩ := h
              refine k_ist d_KReader_endLines_82 rI_176 p15 ?_
              obtain ⟨p14, h⟩ := h
              refine k_iinc (lv' := [some (.inr 16), some (.inl (if (σ4.2 176 (Int.toNat s3.2.2)) = 13 then (1 : Int) else (0 : Int))), some (.inl (s3.2.1 + 1)), some (.inl s3.2.2), some (.inl (if 0 < s3.2.2 then (if (σ4.2 176 (Int.toNat s3.2.2)) = 10 then (if s3.1 = 0 then (0 : Int) else (1 : Int)) else (0 : Int)) else (0 : Int)))]) d_KReader_endLines_83 cI_1 rfl rfl p14 rfl ?_
              exact k_sb (sb_s (sb_s (sb_s (sb_s (sb_n sb_nil))))) (hJ8 (s3.2.1 + 1) _ h)
            have pa18 := pt17
            refine k_ifeq d_KReader_endLines_68 rfl (fun c19 => ?_) (fun c19 => ?_)
            · have pa18 := pa18 c19
              have hV20 := k_eqI (if_pos c19) hV16
              have p13 := pa18
              refine k_aload_n d_KReader_endLines_76 rfl ?_
              refine k_getR d_KReader_endLines_77 fl_15_45 ob_16 rfl ?_
              refine k_iload_n d_KReader_endLines_80 rfl ?_
              refine k_ild (x := (σ4.2 176 (Int.toNat s3.2.2))) d_KReader_endLines_81 rI_176 p13 rfl ?_
              exact hV20
            · have hV21 := k_eqI (if_neg c19) hV16
              refine k_bipush d_KReader_endLines_71 cB_10 ?_
              refine k_goto d_KReader_endLines_73 rfl ?_
              exact hV21
      refine k_icne d_KReader_endLines_48 rfl (fun c23 => ?_) (fun c23 => ?_)
      · have hV25 := k_eqI (if_neg c23) hV22
        refine k_iconst d_KReader_endLines_55 cI_0 ?_
        exact hV25
      · have hV24 := k_eqI (if_pos c23) hV22
        refine k_iconst d_KReader_endLines_51 cI_1 ?_
        refine k_goto d_KReader_endLines_52 rfl ?_
        exact hV24
    have pa29 := pt28
    refine k_ifle d_KReader_endLines_15 rfl (fun c30 => ?_) (fun c30 => ?_)
    · have hV38 := k_eqI (if_neg c30) hV27
      refine k_iconst d_KReader_endLines_37 cI_0 ?_
      exact hV38
    · have pa29 := pa29 c30
      have hV31 := k_eqI (if_pos c30) hV27
      have p6 := pa29
      refine k_aload_n d_KReader_endLines_18 rfl ?_
      refine k_getR d_KReader_endLines_19 fl_15_45 ob_16 rfl ?_
      refine k_iload_n d_KReader_endLines_22 rfl ?_
      refine k_ild (x := (σ4.2 176 (Int.toNat s3.2.2))) d_KReader_endLines_23 rI_176 p6 rfl ?_
      refine k_bipush d_KReader_endLines_24 cB_10 ?_
      refine k_icne d_KReader_endLines_26 rfl (fun c32 => ?_) (fun c32 => ?_)
      · have hV37 := k_eqI (if_neg c32) hV31
        refine k_iconst d_KReader_endLines_37 cI_0 ?_
        exact hV37
      · have hV33 := k_eqI (if_pos c32) hV31
        refine k_iload_n d_KReader_endLines_29 rfl ?_
        refine k_ifeq d_KReader_endLines_30 rfl (fun c34 => ?_) (fun c34 => ?_)
        · have hV35 := k_eqI (if_pos c34) hV33
          refine k_iconst d_KReader_endLines_37 cI_0 ?_
          exact hV35
        · have hV36 := k_eqI (if_neg c34) hV33
          refine k_iconst d_KReader_endLines_33 cI_1 ?_
          refine k_goto d_KReader_endLines_34 rfl ?_
          exact hV36
