theorem d_Reader_checkEntityText_0 : decode b_Reader_checkEntityText 0 = .ok (.aload_n 0, 1) := by decide +kernel
theorem d_Reader_checkEntityText_1 : decode b_Reader_checkEntityText 1 = .ok (.invokevirtual 155, 3) := by decide +kernel
theorem d_Reader_checkEntityText_4 : decode b_Reader_checkEntityText 4 = .ok (.aload_n 0, 1) := by decide +kernel
theorem d_Reader_checkEntityText_5 : decode b_Reader_checkEntityText 5 = .ok (.getfield 116, 3) := by decide +kernel
theorem d_Reader_checkEntityText_8 : decode b_Reader_checkEntityText 8 = .ok (.istore_n 1, 1) := by decide +kernel
theorem d_Reader_checkEntityText_9 : decode b_Reader_checkEntityText 9 = .ok (.aload_n 0, 1) := by decide +kernel
theorem d_Reader_checkEntityText_10 : decode b_Reader_checkEntityText 10 = .ok (.getfield 119, 3) := by decide +kernel
theorem d_Reader_checkEntityText_13 : decode b_Reader_checkEntityText 13 = .ok (.istore_n 2, 1) := by decide +kernel
theorem d_Reader_checkEntityText_14 : decode b_Reader_checkEntityText 14 = .ok (.aload_n 0, 1) := by decide +kernel
theorem d_Reader_checkEntityText_15 : decode b_Reader_checkEntityText 15 = .ok (.getfield 26, 3) := by decide +kernel
theorem d_Reader_checkEntityText_18 : decode b_Reader_checkEntityText 18 = .ok (.istore_n 3, 1) := by decide +kernel
theorem d_Reader_checkEntityText_19 : decode b_Reader_checkEntityText 19 = .ok (.aload_n 0, 1) := by decide +kernel
theorem d_Reader_checkEntityText_20 : decode b_Reader_checkEntityText 20 = .ok (.iload_n 1, 1) := by decide +kernel
theorem d_Reader_checkEntityText_21 : decode b_Reader_checkEntityText 21 = .ok (.putfield 26, 3) := by decide +kernel
theorem d_Reader_checkEntityText_24 : decode b_Reader_checkEntityText 24 = .ok (.iconst 0, 1) := by decide +kernel
theorem d_Reader_checkEntityText_25 : decode b_Reader_checkEntityText 25 = .ok (.istore 4, 2) := by decide +kernel
theorem d_Reader_checkEntityText_27 : decode b_Reader_checkEntityText 27 = .ok (.iload 4, 2) := by decide +kernel
theorem d_Reader_checkEntityText_29 : decode b_Reader_checkEntityText 29 = .ok (.iload_n 2, 1) := by decide +kernel
theorem d_Reader_checkEntityText_30 : decode b_Reader_checkEntityText 30 = .ok (.if_icmp .ge 79, 3) := by decide +kernel
theorem d_Reader_checkEntityText_33 : decode b_Reader_checkEntityText 33 = .ok (.aload_n 0, 1) := by decide +kernel
theorem d_Reader_checkEntityText_34 : decode b_Reader_checkEntityText 34 = .ok (.getfield 26, 3) := by decide +kernel
theorem d_Reader_checkEntityText_37 : decode b_Reader_checkEntityText 37 = .ok (.iload_n 1, 1) := by decide +kernel
theorem d_Reader_checkEntityText_38 : decode b_Reader_checkEntityText 38 = .ok (.iload_n 2, 1) := by decide +kernel
theorem d_Reader_checkEntityText_39 : decode b_Reader_checkEntityText 39 = .ok (.iadd, 1) := by decide +kernel
theorem d_Reader_checkEntityText_40 : decode b_Reader_checkEntityText 40 = .ok (.if_icmp .ge 69, 3) := by decide +kernel
theorem d_Reader_checkEntityText_43 : decode b_Reader_checkEntityText 43 = .ok (.aload_n 0, 1) := by decide +kernel
theorem d_Reader_checkEntityText_44 : decode b_Reader_checkEntityText 44 = .ok (.getfield 35, 3) := by decide +kernel
theorem d_Reader_checkEntityText_47 : decode b_Reader_checkEntityText 47 = .ok (.ifCond .ne 62, 3) := by decide +kernel
theorem d_Reader_checkEntityText_50 : decode b_Reader_checkEntityText 50 = .ok (.aload_n 0, 1) := by decide +kernel
theorem d_Reader_checkEntityText_51 : decode b_Reader_checkEntityText 51 = .ok (.getfield 21, 3) := by decide +kernel
theorem d_Reader_checkEntityText_54 : decode b_Reader_checkEntityText 54 = .ok (.aload_n 0, 1) := by decide +kernel
theorem d_Reader_checkEntityText_55 : decode b_Reader_checkEntityText 55 = .ok (.getfield 26, 3) := by decide +kernel
theorem d_Reader_checkEntityText_58 : decode b_Reader_checkEntityText 58 = .ok (.iaload, 1) := by decide +kernel
theorem d_Reader_checkEntityText_59 : decode b_Reader_checkEntityText 59 = .ok (.istore 5, 2) := by decide +kernel
theorem d_Reader_checkEntityText_61 : decode b_Reader_checkEntityText 61 = .ok (.iload 5, 2) := by decide +kernel
theorem d_Reader_checkEntityText_63 : decode b_Reader_checkEntityText 63 = .ok (.bipush 38, 2) := by decide +kernel
theorem d_Reader_checkEntityText_65 : decode b_Reader_checkEntityText 65 = .ok (.if_icmp .ne 10, 3) := by decide +kernel
theorem d_Reader_checkEntityText_68 : decode b_Reader_checkEntityText 68 = .ok (.aload_n 0, 1) := by decide +kernel
theorem d_Reader_checkEntityText_69 : decode b_Reader_checkEntityText 69 = .ok (.invokevirtual 184, 3) := by decide +kernel
theorem d_Reader_checkEntityText_72 : decode b_Reader_checkEntityText 72 = .ok (.goto 31, 3) := by decide +kernel
theorem d_Reader_checkEntityText_75 : decode b_Reader_checkEntityText 75 = .ok (.aload_n 0, 1) := by decide +kernel
theorem d_Reader_checkEntityText_76 : decode b_Reader_checkEntityText 76 = .ok (.dup, 1) := by decide +kernel
theorem d_Reader_checkEntityText_77 : decode b_Reader_checkEntityText 77 = .ok (.getfield 26, 3) := by decide +kernel
theorem d_Reader_checkEntityText_80 : decode b_Reader_checkEntityText 80 = .ok (.iconst 1, 1) := by decide +kernel
theorem d_Reader_checkEntityText_81 : decode b_Reader_checkEntityText 81 = .ok (.iadd, 1) := by decide +kernel
theorem d_Reader_checkEntityText_82 : decode b_Reader_checkEntityText 82 = .ok (.putfield 26, 3) := by decide +kernel
theorem d_Reader_checkEntityText_85 : decode b_Reader_checkEntityText 85 = .ok (.iload 5, 2) := by decide +kernel
theorem d_Reader_checkEntityText_87 : decode b_Reader_checkEntityText 87 = .ok (.bipush 37, 2) := by decide +kernel
theorem d_Reader_checkEntityText_89 : decode b_Reader_checkEntityText 89 = .ok (.if_icmp .ne 14, 3) := by decide +kernel
theorem d_Reader_checkEntityText_92 : decode b_Reader_checkEntityText 92 = .ok (.aload_n 0, 1) := by decide +kernel
theorem d_Reader_checkEntityText_93 : decode b_Reader_checkEntityText 93 = .ok (.invokevirtual 99, 3) := by decide +kernel
theorem d_Reader_checkEntityText_96 : decode b_Reader_checkEntityText 96 = .ok (.pop, 1) := by decide +kernel
theorem d_Reader_checkEntityText_97 : decode b_Reader_checkEntityText 97 = .ok (.aload_n 0, 1) := by decide +kernel
theorem d_Reader_checkEntityText_98 : decode b_Reader_checkEntityText 98 = .ok (.ldc 143, 2) := by decide +kernel
theorem d_Reader_checkEntityText_100 : decode b_Reader_checkEntityText 100 = .ok (.invokevirtual 86, 3) := by decide +kernel
theorem d_Reader_checkEntityText_103 : decode b_Reader_checkEntityText 103 = .ok (.iinc 4 1, 3) := by decide +kernel
theorem d_Reader_checkEntityText_106 : decode b_Reader_checkEntityText 106 = .ok (.goto (-79), 3) := by decide +kernel
theorem d_Reader_checkEntityText_109 : decode b_Reader_checkEntityText 109 = .ok (.aload_n 0, 1) := by decide +kernel
theorem d_Reader_checkEntityText_110 : decode b_Reader_checkEntityText 110 = .ok (.iload_n 3, 1) := by decide +kernel
theorem d_Reader_checkEntityText_111 : decode b_Reader_checkEntityText 111 = .ok (.putfield 26, 3) := by decide +kernel
theorem d_Reader_checkEntityText_114 : decode b_Reader_checkEntityText 114 = .ok (.return_, 1) := by decide +kernel
/-- Reader_checkEntityText -/
def w_Reader_checkEntityText (L : Nat → Nat)  (Q : IS → Prop) (σ : IS) : Prop := w_Reader_readLiteral L  (fun σ1 => WL (fun (K3 : Int → IS → Prop) (s5 : Int) (σ6 : IS) => ((s5 < (σ1.1 2 11) → inR ((σ1.1 2 10) + (σ1.1 2 11)))) ∧ if s5 < (σ1.1 2 11) ∧ ((σ6.1 2 2) < ((σ1.1 2 10) + (σ1.1 2 11)) ∧ ((σ6.1 2 4) = 0)) then inL L 101 (σ6.1 2 2) ∧ WJ (fun (s10 : Unit) (σ11 : IS) => inR (s5 + 1) ∧ K3 (s5 + 1) σ11) (fun J8 => if (σ6.2 101 (Int.toNat (σ6.1 2 2))) = 38 then w_Reader_readReference L  (fun σ20 => J8 () σ20) σ6 else inR ((σ6.1 2 2) + 1) ∧ if (σ6.2 101 (Int.toNat (σ6.1 2 2))) = 37 then w_Reader_readName L  (fun v16 σ15 => w_Reader_need L 1060 (fun σ17 => J8 () σ17) σ15) (pf σ6 2 2 ((σ6.1 2 2) + 1)) else J8 () (pf σ6 2 2 ((σ6.1 2 2) + 1))) else Q (pf σ6 2 2 (σ1.1 2 2))) 0 (pf σ1 2 2 (σ1.1 2 10))) σ
set_option maxHeartbeats 4000000 in
set_option maxRecDepth 20000 in
theorem s_Reader_checkEntityText {L : Nat → Nat} (hL : ∀ r, L r < 2147483648) {d : Nat} (hd : 3 ≤ d)  {Q : IS → Prop} {σ : IS}  (h : w_Reader_checkEntityText L  Q σ) : OkI BF L d 2 b_Reader_checkEntityText 6 0 0 [] [some (.inr 2)] σ (qv Q) := by
  unfold w_Reader_checkEntityText at h
  obtain ⟨d, rfl⟩ : ∃ e, d = e + 1 := ⟨d - 1, by omega⟩
  refine k_sb (lv' := [some (.inr 2), none, none, none, none, none]) (sb_s (sb_e (sb_e (sb_e (sb_e (sb_e sb_nil)))))) ?_
  refine k_aload_n d_Reader_checkEntityText_0 rfl ?_
  refine k_cvv [] d_Reader_checkEntityText_1 ml_2_155 rfl rfl ob_2 rfl (s_Reader_readLiteral hL (by omega)  h) (fun σ1 h => ?_)
  refine k_aload_n d_Reader_checkEntityText_4 rfl ?_
  refine k_getI (x := (σ1.1 2 10)) d_Reader_checkEntityText_5 fl_2_116 ob_2 rfl rfl ?_
  refine k_istore_n (lv' := [some (.inr 2), some (.inl (σ1.1 2 10)), none, none, none, none]) d_Reader_checkEntityText_8 rfl rfl ?_
  refine k_aload_n d_Reader_checkEntityText_9 rfl ?_
  refine k_getI (x := (σ1.1 2 11)) d_Reader_checkEntityText_10 fl_2_119 ob_2 rfl rfl ?_
  refine k_istore_n (lv' := [some (.inr 2), some (.inl (σ1.1 2 10)), some (.inl (σ1.1 2 11)), none, none, none]) d_Reader_checkEntityText_13 rfl rfl ?_
  refine k_aload_n d_Reader_checkEntityText_14 rfl ?_
  refine k_getI (x := (σ1.1 2 2)) d_Reader_checkEntityText_15 fl_2_26 ob_2 rfl rfl ?_
  refine k_istore_n (lv' := [some (.inr 2), some (.inl (σ1.1 2 10)), some (.inl (σ1.1 2 11)), some (.inl (σ1.1 2 2)), none, none]) d_Reader_checkEntityText_18 rfl rfl ?_
  refine k_aload_n d_Reader_checkEntityText_19 rfl ?_
  refine k_iload_n d_Reader_checkEntityText_20 rfl ?_
  refine k_putI d_Reader_checkEntityText_21 fl_2_26 ob_2 rfl ?_
  refine k_iconst d_Reader_checkEntityText_24 cI_0 ?_
  refine k_istore (lv' := [some (.inr 2), some (.inl (σ1.1 2 10)), some (.inl (σ1.1 2 11)), some (.inl (σ1.1 2 2)), some (.inl 0), none]) d_Reader_checkEntityText_25 rfl rfl ?_
  refine k_sb (lv' := [some (.inr 2), some (.inl (σ1.1 2 10)), some (.inl (σ1.1 2 11)), some (.inl (σ1.1 2 2)), some (.inl 0), none]) (sb_s (sb_s (sb_s (sb_s (sb_s (sb_s sb_nil)))))) ?_
  refine k_loop (S := Int) (st := fun _ => []) (lv := fun s5 => [some (.inr 2), some (.inl (σ1.1 2 10)), some (.inl (σ1.1 2 11)), some (.inl (σ1.1 2 2)), some (.inl s5), none]) (fun K3 hK4 s5 σ6 h => ?_) 0 _ h
  refine k_iload d_Reader_checkEntityText_27 rfl ?_
  refine k_iload_n d_Reader_checkEntityText_29 rfl ?_
  obtain ⟨pt26, h⟩ := h
  have hX23 : (s5 < (σ1.1 2 11) ∧ ((σ6.1 2 2) < ((σ1.1 2 10) + (σ1.1 2 11)) ∧ ((σ6.1 2 4) = 0))) → OkI BF L (d + 1) 2 b_Reader_checkEntityText 6 0 50 [] [some (.inr 2), some (.inl (σ1.1 2 10)), some (.inl (σ1.1 2 11)), some (.inl (σ1.1 2 2)), some (.inl s5), none] σ6 (qv Q) := fun e25 => by
    have h := ipos e25 h
    refine k_aload_n d_Reader_checkEntityText_50 rfl ?_
    refine k_getR d_Reader_checkEntityText_51 fl_2_21 ob_2 rfl ?_
    refine k_aload_n d_Reader_checkEntityText_54 rfl ?_
    refine k_getI (x := (σ6.1 2 2)) d_Reader_checkEntityText_55 fl_2_26 ob_2 rfl rfl ?_
    obtain ⟨p22, h⟩ := h
    refine k_ild (x := (σ6.2 101 (Int.toNat (σ6.1 2 2)))) d_Reader_checkEntityText_58 rI_101 p22 rfl ?_
    refine k_istore (lv' := [some (.inr 2), some (.inl (σ1.1 2 10)), some (.inl (σ1.1 2 11)), some (.inl (σ1.1 2 2)), some (.inl s5), some (.inl (σ6.2 101 (Int.toNat (σ6.1 2 2))))]) d_Reader_checkEntityText_59 rfl rfl ?_
    refine k_iload d_Reader_checkEntityText_61 rfl ?_
    refine k_bipush d_Reader_checkEntityText_63 cB_38 ?_
    refine k_join (S := Unit) (pc' := 103) (st' := fun s10 => []) (lv' := fun s10 => [some (.inr 2), some (.inl (σ1.1 2 10)), some (.inl (σ1.1 2 11)), some (.inl (σ1.1 2 2)), some (.inl s5), none]) (fun s10 σ11 h => ?_) (fun J8 hJ9 h => ?_) h
    · obtain ⟨p12, h⟩ := h
      refine k_iinc (lv' := [some (.inr 2), some (.inl (σ1.1 2 10)), some (.inl (σ1.1 2 11)), some (.inl (σ1.1 2 2)), some (.inl (s5 + 1)), none]) d_Reader_checkEntityText_103 cI_1 rfl rfl p12 rfl ?_
      refine k_goto d_Reader_checkEntityText_106 rfl ?_
      exact k_sb (sb_s (sb_s (sb_s (sb_s (sb_s (sb_s sb_nil)))))) (hK4 (s5 + 1) _ h)
    · refine k_icne d_Reader_checkEntityText_65 rfl (fun c13 => ?_) (fun c13 => ?_)
      · have h := ineg c13 h
        refine k_aload_n d_Reader_checkEntityText_75 rfl ?_
        refine k_dup d_Reader_checkEntityText_76 ?_
        refine k_getI (x := (σ6.1 2 2)) d_Reader_checkEntityText_77 fl_2_26 ob_2 rfl rfl ?_
        refine k_iconst d_Reader_checkEntityText_80 cI_1 ?_
        obtain ⟨p19, h⟩ := h
        refine k_iadd d_Reader_checkEntityText_81 p19 ?_
        refine k_putI d_Reader_checkEntityText_82 fl_2_26 ob_2 rfl ?_
        refine k_iload d_Reader_checkEntityText_85 rfl ?_
        refine k_bipush d_Reader_checkEntityText_87 cB_37 ?_
        refine k_icne d_Reader_checkEntityText_89 rfl (fun c14 => ?_) (fun c14 => ?_)
        · have h := ineg c14 h
          exact k_sb (sb_s (sb_s (sb_s (sb_s (sb_s (sb_n sb_nil)))))) (hJ9 () _ h)
        · have h := ipos c14 h
          refine k_aload_n d_Reader_checkEntityText_92 rfl ?_
          refine k_cvi [] d_Reader_checkEntityText_93 ml_2_99 rfl rfl ob_2 rfl (s_Reader_readName hL (by omega)  h) (fun v16 σ15 h => ?_)
          refine k_pop d_Reader_checkEntityText_96 ?_
          refine k_aload_n d_Reader_checkEntityText_97 rfl ?_
          refine k_ldc d_Reader_checkEntityText_98 ks_2_143 rfl ?_
          refine k_cvv [.inr 1060] d_Reader_checkEntityText_100 ml_2_86 rfl rfl ob_2 rfl (s_Reader_need hL (by omega) it_1060 h) (fun σ17 h => ?_)
          exact k_sb (sb_s (sb_s (sb_s (sb_s (sb_s (sb_n sb_nil)))))) (hJ9 () _ h)
      · have h := ipos c13 h
        refine k_aload_n d_Reader_checkEntityText_68 rfl ?_
        refine k_cvv [] d_Reader_checkEntityText_69 ml_2_184 rfl rfl ob_2 rfl (s_Reader_readReference hL (by omega)  h) (fun σ20 h => ?_)
        refine k_goto d_Reader_checkEntityText_72 rfl ?_
        exact k_sb (sb_s (sb_s (sb_s (sb_s (sb_s (sb_n sb_nil)))))) (hJ9 () _ h)
  have hY24 : ¬ (s5 < (σ1.1 2 11) ∧ ((σ6.1 2 2) < ((σ1.1 2 10) + (σ1.1 2 11)) ∧ ((σ6.1 2 4) = 0))) → OkI BF L (d + 1) 2 b_Reader_checkEntityText 6 0 109 [] [some (.inr 2), some (.inl (σ1.1 2 10)), some (.inl (σ1.1 2 11)), some (.inl (σ1.1 2 2)), some (.inl s5), none] σ6 (qv Q) := fun e25 => by
    have h := ineg e25 h
    refine k_aload_n d_Reader_checkEntityText_109 rfl ?_
    refine k_iload_n d_Reader_checkEntityText_110 rfl ?_
    refine k_putI d_Reader_checkEntityText_111 fl_2_26 ob_2 rfl ?_
    exact k_ret d_Reader_checkEntityText_114 h
  have pa27 := pt26
  refine k_icge d_Reader_checkEntityText_30 rfl (fun c28 => ?_) (fun c28 => ?_)
  · exact hY24 (fun z => c28 z.1)
  · have pa27 := pa27 c28
    have p7 := pa27
    refine k_aload_n d_Reader_checkEntityText_33 rfl ?_
    refine k_getI (x := (σ6.1 2 2)) d_Reader_checkEntityText_34 fl_2_26 ob_2 rfl rfl ?_
    refine k_iload_n d_Reader_checkEntityText_37 rfl ?_
    refine k_iload_n d_Reader_checkEntityText_38 rfl ?_
    refine k_iadd d_Reader_checkEntityText_39 p7 ?_
    refine k_icge d_Reader_checkEntityText_40 rfl (fun c29 => ?_) (fun c29 => ?_)
    · exact hY24 (fun z => (fun z => c29 z.1) z.2)
    · refine k_aload_n d_Reader_checkEntityText_43 rfl ?_
      refine k_getI (x := (σ6.1 2 4)) d_Reader_checkEntityText_44 fl_2_35 ob_2 rfl rfl ?_
      refine k_ifne d_Reader_checkEntityText_47 rfl (fun c30 => ?_) (fun c30 => ?_)
      · exact hY24 (fun z => (fun z => (c30) z.2) z.2)
      · exact hX23 (⟨c28, ⟨c29, c30⟩⟩)
theorem d_Reader_readPublicLiteral_0 : decode b_Reader_readPublicLiteral 0 = .ok (.aload_n 0, 1) := by decide +kernel
theorem d_Reader_readPublicLiteral_1 : decode b_Reader_readPublicLiteral 1 = .ok (.invokevirtual 155, 3) := by decide +kernel
theorem d_Reader_readPublicLiteral_4 : decode b_Reader_readPublicLiteral 4 = .ok (.aload_n 0, 1) := by decide +kernel
theorem d_Reader_readPublicLiteral_5 : decode b_Reader_readPublicLiteral 5 = .ok (.getfield 116, 3) := by decide +kernel
theorem d_Reader_readPublicLiteral_8 : decode b_Reader_readPublicLiteral 8 = .ok (.istore_n 1, 1) := by decide +kernel
theorem d_Reader_readPublicLiteral_9 : decode b_Reader_readPublicLiteral 9 = .ok (.iload_n 1, 1) := by decide +kernel
theorem d_Reader_readPublicLiteral_10 : decode b_Reader_readPublicLiteral 10 = .ok (.aload_n 0, 1) := by decide +kernel
theorem d_Reader_readPublicLiteral_11 : decode b_Reader_readPublicLiteral 11 = .ok (.getfield 116, 3) := by decide +kernel
theorem d_Reader_readPublicLiteral_14 : decode b_Reader_readPublicLiteral 14 = .ok (.aload_n 0, 1) := by decide +kernel
theorem d_Reader_readPublicLiteral_15 : decode b_Reader_readPublicLiteral 15 = .ok (.getfield 119, 3) := by decide +kernel
theorem d_Reader_readPublicLiteral_18 : decode b_Reader_readPublicLiteral 18 = .ok (.iadd, 1) := by decide +kernel
theorem d_Reader_readPublicLiteral_19 : decode b_Reader_readPublicLiteral 19 = .ok (.if_icmp .ge 70, 3) := by decide +kernel
theorem d_Reader_readPublicLiteral_22 : decode b_Reader_readPublicLiteral 22 = .ok (.aload_n 0, 1) := by decide +kernel
theorem d_Reader_readPublicLiteral_23 : decode b_Reader_readPublicLiteral 23 = .ok (.getfield 35, 3) := by decide +kernel
theorem d_Reader_readPublicLiteral_26 : decode b_Reader_readPublicLiteral 26 = .ok (.ifCond .ne 63, 3) := by decide +kernel
theorem d_Reader_readPublicLiteral_29 : decode b_Reader_readPublicLiteral 29 = .ok (.aload_n 0, 1) := by decide +kernel
theorem d_Reader_readPublicLiteral_30 : decode b_Reader_readPublicLiteral 30 = .ok (.getfield 21, 3) := by decide +kernel
theorem d_Reader_readPublicLiteral_33 : decode b_Reader_readPublicLiteral 33 = .ok (.iload_n 1, 1) := by decide +kernel
theorem d_Reader_readPublicLiteral_34 : decode b_Reader_readPublicLiteral 34 = .ok (.iaload, 1) := by decide +kernel
theorem d_Reader_readPublicLiteral_35 : decode b_Reader_readPublicLiteral 35 = .ok (.istore_n 2, 1) := by decide +kernel
theorem d_Reader_readPublicLiteral_36 : decode b_Reader_readPublicLiteral 36 = .ok (.iload_n 2, 1) := by decide +kernel
theorem d_Reader_readPublicLiteral_37 : decode b_Reader_readPublicLiteral 37 = .ok (.bipush 32, 2) := by decide +kernel
theorem d_Reader_readPublicLiteral_39 : decode b_Reader_readPublicLiteral 39 = .ok (.if_icmp .eq 44, 3) := by decide +kernel
theorem d_Reader_readPublicLiteral_42 : decode b_Reader_readPublicLiteral 42 = .ok (.iload_n 2, 1) := by decide +kernel
theorem d_Reader_readPublicLiteral_43 : decode b_Reader_readPublicLiteral 43 = .ok (.bipush 10, 2) := by decide +kernel
theorem d_Reader_readPublicLiteral_45 : decode b_Reader_readPublicLiteral 45 = .ok (.if_icmp .eq 38, 3) := by decide +kernel
theorem d_Reader_readPublicLiteral_48 : decode b_Reader_readPublicLiteral 48 = .ok (.iload_n 2, 1) := by decide +kernel
theorem d_Reader_readPublicLiteral_49 : decode b_Reader_readPublicLiteral 49 = .ok (.invokestatic 158, 3) := by decide +kernel
theorem d_Reader_readPublicLiteral_52 : decode b_Reader_readPublicLiteral 52 = .ok (.ifCond .ne 31, 3) := by decide +kernel
theorem d_Reader_readPublicLiteral_55 : decode b_Reader_readPublicLiteral 55 = .ok (.iload_n 2, 1) := by decide +kernel
theorem d_Reader_readPublicLiteral_56 : decode b_Reader_readPublicLiteral 56 = .ok (.invokestatic 161, 3) := by decide +kernel
theorem d_Reader_readPublicLiteral_59 : decode b_Reader_readPublicLiteral 59 = .ok (.ifCond .ne 24, 3) := by decide +kernel
theorem d_Reader_readPublicLiteral_62 : decode b_Reader_readPublicLiteral 62 = .ok (.iload_n 2, 1) := by decide +kernel
theorem d_Reader_readPublicLiteral_63 : decode b_Reader_readPublicLiteral 63 = .ok (.bipush 127, 2) := by decide +kernel
theorem d_Reader_readPublicLiteral_65 : decode b_Reader_readPublicLiteral 65 = .ok (.if_icmp .gt 13, 3) := by decide +kernel
theorem d_Reader_readPublicLiteral_68 : decode b_Reader_readPublicLiteral 68 = .ok (.ldc 164, 2) := by decide +kernel
theorem d_Reader_readPublicLiteral_70 : decode b_Reader_readPublicLiteral 70 = .ok (.iload_n 2, 1) := by decide +kernel
theorem d_Reader_readPublicLiteral_71 : decode b_Reader_readPublicLiteral 71 = .ok (.i2c, 1) := by decide +kernel
theorem d_Reader_readPublicLiteral_72 : decode b_Reader_readPublicLiteral 72 = .ok (.invokevirtual 166, 3) := by decide +kernel
theorem d_Reader_readPublicLiteral_75 : decode b_Reader_readPublicLiteral 75 = .ok (.ifCond .ge 8, 3) := by decide +kernel
theorem d_Reader_readPublicLiteral_78 : decode b_Reader_readPublicLiteral 78 = .ok (.aload_n 0, 1) := by decide +kernel
theorem d_Reader_readPublicLiteral_79 : decode b_Reader_readPublicLiteral 79 = .ok (.iconst 5, 1) := by decide +kernel
theorem d_Reader_readPublicLiteral_80 : decode b_Reader_readPublicLiteral 80 = .ok (.invokevirtual 66, 3) := by decide +kernel
theorem d_Reader_readPublicLiteral_83 : decode b_Reader_readPublicLiteral 83 = .ok (.iinc 1 1, 3) := by decide +kernel
theorem d_Reader_readPublicLiteral_86 : decode b_Reader_readPublicLiteral 86 = .ok (.goto (-77), 3) := by decide +kernel
theorem d_Reader_readPublicLiteral_89 : decode b_Reader_readPublicLiteral 89 = .ok (.return_, 1) := by decide +kernel
/-- Reader_readPublicLiteral -/
def w_Reader_readPublicLiteral (L : Nat → Nat)  (Q : IS → Prop) (σ : IS) : Prop := w_Reader_readLiteral L  (fun σ1 => WL (fun (K3 : Int → IS → Prop) (s5 : Int) (σ6 : IS) => inR ((σ6.1 2 10) + (σ6.1 2 11)) ∧ if s5 < ((σ6.1 2 10) + (σ6.1 2 11)) ∧ ((σ6.1 2 4) = 0) then inL L 101 s5 ∧ WJ (fun (s9 : Unit) (σ10 : IS) => inR (s5 + 1) ∧ K3 (s5 + 1) σ10) (fun J7 => if ¬ (σ6.2 101 (Int.toNat s5)) = 32 ∧ (¬ (σ6.2 101 (Int.toNat s5)) = 10) then w_Reader_isLetter L (σ6.2 101 (Int.toNat s5)) (fun v13 σ12 => if v13 = 0 then w_Reader_isDigit L (σ6.2 101 (Int.toNat s5)) (fun v16 σ15 => if v16 = 0 then ((¬ 127 < (σ6.2 101 (Int.toNat s5)) → ((0 : Int) ≤ (σ6.2 101 (Int.toNat s5)) ∧ (σ6.2 101 (Int.toNat s5)) < 65536))) ∧ if 127 < (σ6.2 101 (Int.toNat s5)) ∨ ((tF 1061 (σ6.2 101 (Int.toNat s5))) < 0) then w_Reader_fail L 5 (fun σ19 => J7 () σ19) σ15 else J7 () σ15 else J7 () σ15) σ12 else J7 () σ12) σ6 else J7 () σ6) else Q σ6) (σ1.1 2 10) σ1) σ
set_option maxHeartbeats 4000000 in
set_option maxRecDepth 20000 in
theorem s_Reader_readPublicLiteral {L : Nat → Nat} (hL : ∀ r, L r < 2147483648) {d : Nat} (hd : 2 ≤ d)  {Q : IS → Prop} {σ : IS}  (h : w_Reader_readPublicLiteral L  Q σ) : OkI BF L d 2 b_Reader_readPublicLiteral 3 0 0 [] [some (.inr 2)] σ (qv Q) := by
  unfold w_Reader_readPublicLiteral at h
  obtain ⟨d, rfl⟩ : ∃ e, d = e + 1 := ⟨d - 1, by omega⟩
  refine k_sb (lv' := [some (.inr 2), none, none]) (sb_s (sb_e (sb_e sb_nil))) ?_
  refine k_aload_n d_Reader_readPublicLiteral_0 rfl ?_
  refine k_cvv [] d_Reader_readPublicLiteral_1 ml_2_155 rfl rfl ob_2 rfl (s_Reader_readLiteral hL (by omega)  h) (fun σ1 h => ?_)
  refine k_aload_n d_Reader_readPublicLiteral_4 rfl ?_
  refine k_getI (x := (σ1.1 2 10)) d_Reader_readPublicLiteral_5 fl_2_116 ob_2 rfl rfl ?_
  refine k_istore_n (lv' := [some (.inr 2), some (.inl (σ1.1 2 10)), none]) d_Reader_readPublicLiteral_8 rfl rfl ?_
  refine k_sb (lv' := [some (.inr 2), some (.inl (σ1.1 2 10)), none]) (sb_s (sb_s (sb_s sb_nil))) ?_
  refine k_loop (S := Int) (st := fun _ => []) (lv := fun s5 => [some (.inr 2), some (.inl s5), none]) (fun K3 hK4 s5 σ6 h => ?_) (σ1.1 2 10) _ h
  refine k_iload_n d_Reader_readPublicLiteral_9 rfl ?_
  refine k_aload_n d_Reader_readPublicLiteral_10 rfl ?_
  refine k_getI (x := (σ6.1 2 10)) d_Reader_readPublicLiteral_11 fl_2_116 ob_2 rfl rfl ?_
  refine k_aload_n d_Reader_readPublicLiteral_14 rfl ?_
  refine k_getI (x := (σ6.1 2 11)) d_Reader_readPublicLiteral_15 fl_2_119 ob_2 rfl rfl ?_
  obtain ⟨p39, h⟩ := h
  refine k_iadd d_Reader_readPublicLiteral_18 p39 ?_
  have hX34 : (s5 < ((σ6.1 2 10) + (σ6.1 2 11)) ∧ ((σ6.1 2 4) = 0)) → OkI BF L (d + 1) 2 b_Reader_readPublicLiteral 3 0 29 [] [some (.inr 2), some (.inl s5), none] σ6 (qv Q) := fun e36 => by
    have h := ipos e36 h
    refine k_aload_n d_Reader_readPublicLiteral_29 rfl ?_
    refine k_getR d_Reader_readPublicLiteral_30 fl_2_21 ob_2 rfl ?_
    refine k_iload_n d_Reader_readPublicLiteral_33 rfl ?_
    obtain ⟨p33, h⟩ := h
    refine k_ild (x := (σ6.2 101 (Int.toNat s5))) d_Reader_readPublicLiteral_34 rI_101 p33 rfl ?_
    refine k_istore_n (lv' := [some (.inr 2), some (.inl s5), some (.inl (σ6.2 101 (Int.toNat s5)))]) d_Reader_readPublicLiteral_35 rfl rfl ?_
    refine k_iload_n d_Reader_readPublicLiteral_36 rfl ?_
    refine k_bipush d_Reader_readPublicLiteral_37 cB_32 ?_
    refine k_join (S := Unit) (pc' := 83) (st' := fun s9 => []) (lv' := fun s9 => [some (.inr 2), some (.inl s5), none]) (fun s9 σ10 h => ?_) (fun J7 hJ8 h => ?_) h
    · obtain ⟨p11, h⟩ := h
      refine k_iinc (lv' := [some (.inr 2), some (.inl (s5 + 1)), none]) d_Reader_readPublicLiteral_83 cI_1 rfl rfl p11 rfl ?_
      refine k_goto d_Reader_readPublicLiteral_86 rfl ?_
      exact k_sb (sb_s (sb_s (sb_s sb_nil))) (hK4 (s5 + 1) _ h)
    · have hX28 : (¬ (σ6.2 101 (Int.toNat s5)) = 32 ∧ (¬ (σ6.2 101 (Int.toNat s5)) = 10)) → OkI BF L (d + 1) 2 b_Reader_readPublicLiteral 3 0 48 [] [some (.inr 2), some (.inl s5), some (.inl (σ6.2 101 (Int.toNat s5)))] σ6 (qv Q) := fun e30 => by
        have h := ipos e30 h
        refine k_iload_n d_Reader_readPublicLiteral_48 rfl ?_
        refine k_csi [.inl (σ6.2 101 (Int.toNat s5))] d_Reader_readPublicLiteral_49 ml_2_158 (Or.inl rfl) rfl rfl rfl (s_Reader_isLetter hL (by omega)  h) (fun v13 σ12 h => ?_)
        refine k_ifne d_Reader_readPublicLiteral_52 rfl (fun c14 => ?_) (fun c14 => ?_)
        · have h := ineg c14 h
          exact k_sb (sb_s (sb_s (sb_n sb_nil))) (hJ8 () _ h)
        · have h := ipos c14 h
          refine k_iload_n d_Reader_readPublicLiteral_55 rfl ?_
          refine k_csi [.inl (σ6.2 101 (Int.toNat s5))] d_Reader_readPublicLiteral_56 ml_2_161 (Or.inl rfl) rfl rfl rfl (s_Reader_isDigit hL (by omega)  h) (fun v16 σ15 h => ?_)
          refine k_ifne d_Reader_readPublicLiteral_59 rfl (fun c17 => ?_) (fun c17 => ?_)
          · have h := ineg c17 h
            exact k_sb (sb_s (sb_s (sb_n sb_nil))) (hJ8 () _ h)
          · have h := ipos c17 h
            refine k_iload_n d_Reader_readPublicLiteral_62 rfl ?_
            refine k_bipush d_Reader_readPublicLiteral_63 cB_127 ?_
            obtain ⟨pt24, h⟩ := h
            have hX21 : (127 < (σ6.2 101 (Int.toNat s5)) ∨ ((tF 1061 (σ6.2 101 (Int.toNat s5))) < 0)) → OkI BF L (d + 1) 2 b_Reader_readPublicLiteral 3 0 78 [] [some (.inr 2), some (.inl s5), some (.inl (σ6.2 101 (Int.toNat s5)))] σ15 (qv Q) := fun e23 => by
              have h := ipos e23 h
              refine k_aload_n d_Reader_readPublicLiteral_78 rfl ?_
              refine k_iconst d_Reader_readPublicLiteral_79 cI_5 ?_
              refine k_cvv [.inl 5] d_Reader_readPublicLiteral_80 ml_2_66 rfl rfl ob_2 rfl (s_Reader_fail hL (by omega)  h) (fun σ19 h => ?_)
              exact k_sb (sb_s (sb_s (sb_n sb_nil))) (hJ8 () _ h)
            have hY22 : ¬ (127 < (σ6.2 101 (Int.toNat s5)) ∨ ((tF 1061 (σ6.2 101 (Int.toNat s5))) < 0)) → OkI BF L (d + 1) 2 b_Reader_readPublicLiteral 3 0 83 [] [some (.inr 2), some (.inl s5), some (.inl (σ6.2 101 (Int.toNat s5)))] σ15 (qv Q) := fun e23 => by
              have h := ineg e23 h
              exact k_sb (sb_s (sb_s (sb_n sb_nil))) (hJ8 () _ h)
            have pb25 := pt24
            refine k_icgt d_Reader_readPublicLiteral_65 rfl (fun c26 => ?_) (fun c26 => ?_)
            · exact hX21 (Or.inl c26)
            · have pb25 := pb25 c26
              have p18 := pb25
              refine k_ldc d_Reader_readPublicLiteral_68 ks_2_164 rfl ?_
              refine k_iload_n d_Reader_readPublicLiteral_70 rfl ?_
              refine k_i2c d_Reader_readPublicLiteral_71 p18 ?_
              refine k_tidx d_Reader_readPublicLiteral_72 ml_2_166 it_1061 rfl ?_
              refine k_ifge d_Reader_readPublicLiteral_75 rfl (fun c27 => ?_) (fun c27 => ?_)
              · exact hY22 (fun z => z.elim c26 (c27))
              · exact hX21 (Or.inr (c27))
      have hY29 : ¬ (¬ (σ6.2 101 (Int.toNat s5)) = 32 ∧ (¬ (σ6.2 101 (Int.toNat s5)) = 10)) → OkI BF L (d + 1) 2 b_Reader_readPublicLiteral 3 0 83 [] [some (.inr 2), some (.inl s5), some (.inl (σ6.2 101 (Int.toNat s5)))] σ6 (qv Q) := fun e30 => by
        have h := ineg e30 h
        exact k_sb (sb_s (sb_s (sb_n sb_nil))) (hJ8 () _ h)
      refine k_iceq d_Reader_readPublicLiteral_39 rfl (fun c31 => ?_) (fun c31 => ?_)
      · exact hY29 (fun z => z.1 c31)
      · refine k_iload_n d_Reader_readPublicLiteral_42 rfl ?_
        refine k_bipush d_Reader_readPublicLiteral_43 cB_10 ?_
        refine k_iceq d_Reader_readPublicLiteral_45 rfl (fun c32 => ?_) (fun c32 => ?_)
        · exact hY29 (fun z => (fun z => z c32) z.2)
        · exact hX28 (⟨c31, c32⟩)
  have hY35 : ¬ (s5 < ((σ6.1 2 10) + (σ6.1 2 11)) ∧ ((σ6.1 2 4) = 0)) → OkI BF L (d + 1) 2 b_Reader_readPublicLiteral 3 0 89 [] [some (.inr 2), some (.inl s5), none] σ6 (qv Q) := fun e36 => by
    have h := ineg e36 h
    exact k_ret d_Reader_readPublicLiteral_89 h
  refine k_icge d_Reader_readPublicLiteral_19 rfl (fun c37 => ?_) (fun c37 => ?_)
  · exact hY35 (fun z => c37 z.1)
  · refine k_aload_n d_Reader_readPublicLiteral_22 rfl ?_
    refine k_getI (x := (σ6.1 2 4)) d_Reader_readPublicLiteral_23 fl_2_35 ob_2 rfl rfl ?_
    refine k_ifne d_Reader_readPublicLiteral_26 rfl (fun c38 => ?_) (fun c38 => ?_)
    · exact hY35 (fun z => (c38) z.2)
    · exact hX34 (⟨c37, c38⟩)
theorem d_Reader_readOutside_0 : decode b_Reader_readOutside 0 = .ok (.aload_n 0, 1) := by decide +kernel
theorem d_Reader_readOutside_1 : decode b_Reader_readOutside 1 = .ok (.ldc 170, 2) := by decide +kernel
theorem d_Reader_readOutside_3 : decode b_Reader_readOutside 3 = .ok (.invokevirtual 135, 3) := by decide +kernel
theorem d_Reader_readOutside_6 : decode b_Reader_readOutside 6 = .ok (.ifCond .eq 12, 3) := by decide +kernel
theorem d_Reader_readOutside_9 : decode b_Reader_readOutside 9 = .ok (.aload_n 0, 1) := by decide +kernel
theorem d_Reader_readOutside_10 : decode b_Reader_readOutside 10 = .ok (.invokevirtual 172, 3) := by decide +kernel
theorem d_Reader_readOutside_13 : decode b_Reader_readOutside 13 = .ok (.aload_n 0, 1) := by decide +kernel
theorem d_Reader_readOutside_14 : decode b_Reader_readOutside 14 = .ok (.invokevirtual 155, 3) := by decide +kernel
theorem d_Reader_readOutside_17 : decode b_Reader_readOutside 17 = .ok (.return_, 1) := by decide +kernel
theorem d_Reader_readOutside_18 : decode b_Reader_readOutside 18 = .ok (.aload_n 0, 1) := by decide +kernel
theorem d_Reader_readOutside_19 : decode b_Reader_readOutside 19 = .ok (.ldc 175, 2) := by decide +kernel
theorem d_Reader_readOutside_21 : decode b_Reader_readOutside 21 = .ok (.invokevirtual 86, 3) := by decide +kernel
theorem d_Reader_readOutside_24 : decode b_Reader_readOutside 24 = .ok (.aload_n 0, 1) := by decide +kernel
theorem d_Reader_readOutside_25 : decode b_Reader_readOutside 25 = .ok (.invokevirtual 172, 3) := by decide +kernel
theorem d_Reader_readOutside_28 : decode b_Reader_readOutside 28 = .ok (.aload_n 0, 1) := by decide +kernel
theorem d_Reader_readOutside_29 : decode b_Reader_readOutside 29 = .ok (.invokevirtual 177, 3) := by decide +kernel
theorem d_Reader_readOutside_32 : decode b_Reader_readOutside 32 = .ok (.aload_n 0, 1) := by decide +kernel
theorem d_Reader_readOutside_33 : decode b_Reader_readOutside 33 = .ok (.invokevirtual 74, 3) := by decide +kernel
theorem d_Reader_readOutside_36 : decode b_Reader_readOutside 36 = .ok (.ifCond .eq 17, 3) := by decide +kernel
theorem d_Reader_readOutside_39 : decode b_Reader_readOutside 39 = .ok (.aload_n 0, 1) := by decide +kernel
theorem d_Reader_readOutside_40 : decode b_Reader_readOutside 40 = .ok (.invokevirtual 180, 3) := by decide +kernel
theorem d_Reader_readOutside_43 : decode b_Reader_readOutside 43 = .ok (.ifCond .eq 10, 3) := by decide +kernel
theorem d_Reader_readOutside_46 : decode b_Reader_readOutside 46 = .ok (.aload_n 0, 1) := by decide +kernel
theorem d_Reader_readOutside_47 : decode b_Reader_readOutside 47 = .ok (.invokevirtual 155, 3) := by decide +kernel
theorem d_Reader_readOutside_50 : decode b_Reader_readOutside 50 = .ok (.goto 12, 3) := by decide +kernel
theorem d_Reader_readOutside_53 : decode b_Reader_readOutside 53 = .ok (.iload_n 1, 1) := by decide +kernel
theorem d_Reader_readOutside_54 : decode b_Reader_readOutside 54 = .ok (.ifCond .ne 8, 3) := by decide +kernel
theorem d_Reader_readOutside_57 : decode b_Reader_readOutside 57 = .ok (.aload_n 0, 1) := by decide +kernel
theorem d_Reader_readOutside_58 : decode b_Reader_readOutside 58 = .ok (.iconst 5, 1) := by decide +kernel
theorem d_Reader_readOutside_59 : decode b_Reader_readOutside 59 = .ok (.invokevirtual 66, 3) := by decide +kernel
theorem d_Reader_readOutside_62 : decode b_Reader_readOutside 62 = .ok (.return_, 1) := by decide +kernel
/-- Reader_readOutside -/
def w_Reader_readOutside (L : Nat → Nat) (a1 : Int) (Q : IS → Prop) (σ : IS) : Prop := w_Reader_skip L 1062 (fun v2 σ1 => if v2 = 0 then w_Reader_need L 1063 (fun σ4 => w_Reader_needSpace L  (fun σ6 => w_Reader_readPublicLiteral L  (fun σ8 => w_Reader_skipSpace L  (fun v11 σ10 => WJ (fun (s14 : Unit) (σ15 : IS) => Q σ15) (fun J12 => WJ (fun (s18 : Unit) (σ19 : IS) => if a1 = 0 then w_Reader_fail L 5 (fun σ21 => J12 () σ21) σ19 else J12 () σ19) (fun J16 => if v11 = 0 then J16 () σ10 else w_Reader_atQuote L  (fun v25 σ24 => if v25 = 0 then J16 () σ24 else w_Reader_readLiteral L  (fun σ27 => J12 () σ27) σ24) σ10))) σ8) σ6) σ4) σ1 else w_Reader_needSpace L  (fun σ29 => w_Reader_readLiteral L  (fun σ31 => Q σ31) σ29) σ1) σ
set_option maxHeartbeats 4000000 in
set_option maxRecDepth 20000 in
theorem s_Reader_readOutside {L : Nat → Nat} (hL : ∀ r, L r < 2147483648) {d : Nat} (hd : 3 ≤ d) {a1 : Int} {Q : IS → Prop} {σ : IS}  (h : w_Reader_readOutside L a1 Q σ) : OkI BF L d 2 b_Reader_readOutside 2 0 0 [] [some (.inr 2), some (.inl a1)] σ (qv Q) := by
  unfold w_Reader_readOutside at h
  obtain ⟨d, rfl⟩ : ∃ e, d = e + 1 := ⟨d - 1, by omega⟩
  refine k_sb (lv' := [some (.inr 2), some (.inl a1)]) (sb_s (sb_s sb_nil)) ?_
  refine k_aload_n d_Reader_readOutside_0 rfl ?_
  refine k_ldc d_Reader_readOutside_1 ks_2_170 rfl ?_
  refine k_cvi [.inr 1062] d_Reader_readOutside_3 ml_2_135 rfl rfl ob_2 rfl (s_Reader_skip hL (by omega) it_1062 h) (fun v2 σ1 h => ?_)
  refine k_ifeq d_Reader_readOutside_6 rfl (fun c3 => ?_) (fun c3 => ?_)
  · have h := ipos c3 h
    refine k_aload_n d_Reader_readOutside_18 rfl ?_
    refine k_ldc d_Reader_readOutside_19 ks_2_175 rfl ?_
    refine k_cvv [.inr 1063] d_Reader_readOutside_21 ml_2_86 rfl rfl ob_2 rfl (s_Reader_need hL (by omega) it_1063 h) (fun σ4 h => ?_)
    refine k_aload_n d_Reader_readOutside_24 rfl ?_
    refine k_cvv [] d_Reader_readOutside_25 ml_2_172 rfl rfl ob_2 rfl (s_Reader_needSpace hL (by omega)  h) (fun σ6 h => ?_)
    refine k_aload_n d_Reader_readOutside_28 rfl ?_
    refine k_cvv [] d_Reader_readOutside_29 ml_2_177 rfl rfl ob_2 rfl (s_Reader_readPublicLiteral hL (by omega)  h) (fun σ8 h => ?_)
    refine k_aload_n d_Reader_readOutside_32 rfl ?_
    refine k_cvi [] d_Reader_readOutside_33 ml_2_74 rfl rfl ob_2 rfl (s_Reader_skipSpace hL (by omega)  h) (fun v11 σ10 h => ?_)
    refine k_join (S := Unit) (pc' := 62) (st' := fun s14 => []) (lv' := fun s14 => [none, none]) (fun s14 σ15 h => ?_) (fun J12 hJ13 h => ?_) h
    · exact k_ret d_Reader_readOutside_62 h
    · refine k_join (S := Unit) (pc' := 53) (st' := fun s18 => []) (lv' := fun s18 => [some (.inr 2), some (.inl a1)]) (fun s18 σ19 h => ?_) (fun J16 hJ17 h => ?_) h
      · refine k_iload_n d_Reader_readOutside_53 rfl ?_
        refine k_ifne d_Reader_readOutside_54 rfl (fun c20 => ?_) (fun c20 => ?_)
        · have h := ineg c20 h
          exact k_sb (sb_n (sb_n sb_nil)) (hJ13 () _ h)
        · have h := ipos c20 h
          refine k_aload_n d_Reader_readOutside_57 rfl ?_
          refine k_iconst d_Reader_readOutside_58 cI_5 ?_
          refine k_cvv [.inl 5] d_Reader_readOutside_59 ml_2_66 rfl rfl ob_2 rfl (s_Reader_fail hL (by omega)  h) (fun σ21 h => ?_)
          exact k_sb (sb_n (sb_n sb_nil)) (hJ13 () _ h)
      · refine k_ifeq d_Reader_readOutside_36 rfl (fun c23 => ?_) (fun c23 => ?_)
        · have h := ipos c23 h
          exact k_sb (sb_s (sb_s sb_nil)) (hJ17 () _ h)
        · have h := ineg c23 h
          refine k_aload_n d_Reader_readOutside_39 rfl ?_
          refine k_cvi [] d_Reader_readOutside_40 ml_2_180 rfl rfl ob_2 rfl (s_Reader_atQuote hL (by omega)  h) (fun v25 σ24 h => ?_)
          refine k_ifeq d_Reader_readOutside_43 rfl (fun c26 => ?_) (fun c26 => ?_)
          · have h := ipos c26 h
            exact k_sb (sb_s (sb_s sb_nil)) (hJ17 () _ h)
          · have h := ineg c26 h
            refine k_aload_n d_Reader_readOutside_46 rfl ?_
            refine k_cvv [] d_Reader_readOutside_47 ml_2_155 rfl rfl ob_2 rfl (s_Reader_readLiteral hL (by omega)  h) (fun σ27 h => ?_)
            refine k_goto d_Reader_readOutside_50 rfl ?_
            exact k_sb (sb_n (sb_n sb_nil)) (hJ13 () _ h)
  · have h := ineg c3 h
    refine k_aload_n d_Reader_readOutside_9 rfl ?_
    refine k_cvv [] d_Reader_readOutside_10 ml_2_172 rfl rfl ob_2 rfl (s_Reader_needSpace hL (by omega)  h) (fun σ29 h => ?_)
    refine k_aload_n d_Reader_readOutside_13 rfl ?_
    refine k_cvv [] d_Reader_readOutside_14 ml_2_155 rfl rfl ob_2 rfl (s_Reader_readLiteral hL (by omega)  h) (fun σ31 h => ?_)
    exact k_ret d_Reader_readOutside_17 h
theorem d_Entities_addReference_0 : decode b_Entities_addReference 0 = .ok (.aload_n 0, 1) := by decide +kernel
theorem d_Entities_addReference_1 : decode b_Entities_addReference 1 = .ok (.getfield 15, 3) := by decide +kernel
theorem d_Entities_addReference_4 : decode b_Entities_addReference 4 = .ok (.getfield 113, 3) := by decide +kernel
theorem d_Entities_addReference_7 : decode b_Entities_addReference 7 = .ok (.iconst (-1), 1) := by decide +kernel
theorem d_Entities_addReference_8 : decode b_Entities_addReference 8 = .ok (.if_icmp .ne 41, 3) := by decide +kernel
theorem d_Entities_addReference_11 : decode b_Entities_addReference 11 = .ok (.iload_n 1, 1) := by decide +kernel
theorem d_Entities_addReference_12 : decode b_Entities_addReference 12 = .ok (.istore_n 2, 1) := by decide +kernel
theorem d_Entities_addReference_13 : decode b_Entities_addReference 13 = .ok (.iload_n 2, 1) := by decide +kernel
theorem d_Entities_addReference_14 : decode b_Entities_addReference 14 = .ok (.aload_n 0, 1) := by decide +kernel
theorem d_Entities_addReference_15 : decode b_Entities_addReference 15 = .ok (.getfield 15, 3) := by decide +kernel
theorem d_Entities_addReference_18 : decode b_Entities_addReference 18 = .ok (.getfield 88, 3) := by decide +kernel
theorem d_Entities_addReference_21 : decode b_Entities_addReference 21 = .ok (.if_icmp .ge 25, 3) := by decide +kernel
theorem d_Entities_addReference_24 : decode b_Entities_addReference 24 = .ok (.aload_n 0, 1) := by decide +kernel
theorem d_Entities_addReference_25 : decode b_Entities_addReference 25 = .ok (.getfield 9, 3) := by decide +kernel
theorem d_Entities_addReference_28 : decode b_Entities_addReference 28 = .ok (.aload_n 0, 1) := by decide +kernel
theorem d_Entities_addReference_29 : decode b_Entities_addReference 29 = .ok (.getfield 9, 3) := by decide +kernel
theorem d_Entities_addReference_32 : decode b_Entities_addReference 32 = .ok (.getfield 116, 3) := by decide +kernel
theorem d_Entities_addReference_35 : decode b_Entities_addReference 35 = .ok (.iload_n 2, 1) := by decide +kernel
theorem d_Entities_addReference_36 : decode b_Entities_addReference 36 = .ok (.iaload, 1) := by decide +kernel
theorem d_Entities_addReference_37 : decode b_Entities_addReference 37 = .ok (.invokevirtual 110, 3) := by decide +kernel
theorem d_Entities_addReference_40 : decode b_Entities_addReference 40 = .ok (.iinc 2 1, 3) := by decide +kernel
theorem d_Entities_addReference_43 : decode b_Entities_addReference 43 = .ok (.goto (-30), 3) := by decide +kernel
theorem d_Entities_addReference_46 : decode b_Entities_addReference 46 = .ok (.goto 42, 3) := by decide +kernel
theorem d_Entities_addReference_49 : decode b_Entities_addReference 49 = .ok (.aload_n 0, 1) := by decide +kernel
theorem d_Entities_addReference_50 : decode b_Entities_addReference 50 = .ok (.getfield 15, 3) := by decide +kernel
theorem d_Entities_addReference_53 : decode b_Entities_addReference 53 = .ok (.getfield 113, 3) := by decide +kernel
theorem d_Entities_addReference_56 : decode b_Entities_addReference 56 = .ok (.invokestatic 119, 3) := by decide +kernel
theorem d_Entities_addReference_59 : decode b_Entities_addReference 59 = .ok (.ifCond .eq 20, 3) := by decide +kernel
theorem d_Entities_addReference_62 : decode b_Entities_addReference 62 = .ok (.aload_n 0, 1) := by decide +kernel
theorem d_Entities_addReference_63 : decode b_Entities_addReference 63 = .ok (.getfield 9, 3) := by decide +kernel
theorem d_Entities_addReference_66 : decode b_Entities_addReference 66 = .ok (.aload_n 0, 1) := by decide +kernel
theorem d_Entities_addReference_67 : decode b_Entities_addReference 67 = .ok (.getfield 15, 3) := by decide +kernel
theorem d_Entities_addReference_70 : decode b_Entities_addReference 70 = .ok (.getfield 113, 3) := by decide +kernel
theorem d_Entities_addReference_73 : decode b_Entities_addReference 73 = .ok (.invokevirtual 110, 3) := by decide +kernel
theorem d_Entities_addReference_76 : decode b_Entities_addReference 76 = .ok (.goto 12, 3) := by decide +kernel
theorem d_Entities_addReference_79 : decode b_Entities_addReference 79 = .ok (.aload_n 0, 1) := by decide +kernel
theorem d_Entities_addReference_80 : decode b_Entities_addReference 80 = .ok (.getfield 15, 3) := by decide +kernel
theorem d_Entities_addReference_83 : decode b_Entities_addReference 83 = .ok (.bipush 12, 2) := by decide +kernel
theorem d_Entities_addReference_85 : decode b_Entities_addReference 85 = .ok (.invokevirtual 107, 3) := by decide +kernel
theorem d_Entities_addReference_88 : decode b_Entities_addReference 88 = .ok (.return_, 1) := by decide +kernel
/-- Entities_addReference -/
def w_Entities_addReference (L : Nat → Nat) (a1 : Int) (Q : IS → Prop) (σ : IS) : Prop := WJ (fun (s3 : Unit) (σ4 : IS) => Q σ4) (fun J1 => if (σ.1 2 7) = (-1) then WL (fun (K13 : Int → IS → Prop) (s15 : Int) (σ16 : IS) => if s15 < (σ16.1 2 2) then inL L 101 s15 ∧ w_Store_add L (σ16.2 101 (Int.toNat s15)) (fun σ18 => inR (s15 + 1) ∧ K13 (s15 + 1) σ18) σ16 else J1 () σ16) a1 σ else w_Reader_isCharacter L (σ.1 2 7) (fun v7 σ6 => if v7 = 0 then w_Reader_fail L 12 (fun σ9 => J1 () σ9) σ6 else w_Store_add L (σ6.1 2 7) (fun σ11 => J1 () σ11) σ6) σ)
set_option maxHeartbeats 4000000 in
set_option maxRecDepth 20000 in
theorem s_Entities_addReference {L : Nat → Nat} (hL : ∀ r, L r < 2147483648) {d : Nat} (hd : 1 ≤ d) {a1 : Int} {Q : IS → Prop} {σ : IS}  (h : w_Entities_addReference L a1 Q σ) : OkI BF L d 3 b_Entities_addReference 3 0 0 [] [some (.inr 3), some (.inl a1)] σ (qv Q) := by
  unfold w_Entities_addReference at h
  obtain ⟨d, rfl⟩ : ∃ e, d = e + 1 := ⟨d - 1, by omega⟩
  refine k_sb (lv' := [some (.inr 3), some (.inl a1), none]) (sb_s (sb_s (sb_e sb_nil))) ?_
  refine k_aload_n d_Entities_addReference_0 rfl ?_
  refine k_getR d_Entities_addReference_1 fl_3_15 ob_3 rfl ?_
  refine k_getI (x := (σ.1 2 7)) d_Entities_addReference_4 fl_3_113 ob_2 rfl rfl ?_
  refine k_iconst d_Entities_addReference_7 cI_m1 ?_
  refine k_join (S := Unit) (pc' := 88) (st' := fun s3 => []) (lv' := fun s3 => [none, none, none]) (fun s3 σ4 h => ?_) (fun J1 hJ2 h => ?_) h
  · exact k_ret d_Entities_addReference_88 h
  · refine k_icne d_Entities_addReference_8 rfl (fun c5 => ?_) (fun c5 => ?_)
    · have h := ineg c5 h
      refine k_aload_n d_Entities_addReference_49 rfl ?_
      refine k_getR d_Entities_addReference_50 fl_3_15 ob_3 rfl ?_
      refine k_getI (x := (σ.1 2 7)) d_Entities_addReference_53 fl_3_113 ob_2 rfl rfl ?_
      refine k_csi [.inl (σ.1 2 7)] d_Entities_addReference_56 ml_3_119 (Or.inl rfl) rfl rfl rfl (s_Reader_isCharacter hL (by omega)  h) (fun v7 σ6 h => ?_)
      refine k_ifeq d_Entities_addReference_59 rfl (fun c8 => ?_) (fun c8 => ?_)
      · have h := ipos c8 h
        refine k_aload_n d_Entities_addReference_79 rfl ?_
        refine k_getR d_Entities_addReference_80 fl_3_15 ob_3 rfl ?_
        refine k_bipush d_Entities_addReference_83 cB_12 ?_
        refine k_cvv [.inl 12] d_Entities_addReference_85 ml_3_107 rfl rfl ob_2 rfl (s_Reader_fail hL (by omega)  h) (fun σ9 h => ?_)
        exact k_sb (sb_n (sb_n (sb_s sb_nil))) (hJ2 () _ h)
      · have h := ineg c8 h
        refine k_aload_n d_Entities_addReference_62 rfl ?_
        refine k_getR d_Entities_addReference_63 fl_3_9 ob_3 rfl ?_
        refine k_aload_n d_Entities_addReference_66 rfl ?_
        refine k_getR d_Entities_addReference_67 fl_3_15 ob_3 rfl ?_
        refine k_getI (x := (σ6.1 2 7)) d_Entities_addReference_70 fl_3_113 ob_2 rfl rfl ?_
        refine k_cvv [.inl (σ6.1 2 7)] d_Entities_addReference_73 ml_3_110 rfl rfl ob_1 rfl (s_Store_add hL (by omega) stB_BF h) (fun σ11 h => ?_)
        refine k_goto d_Entities_addReference_76 rfl ?_
        exact k_sb (sb_n (sb_n (sb_s sb_nil))) (hJ2 () _ h)
    · have h := ipos c5 h
      refine k_iload_n d_Entities_addReference_11 rfl ?_
      refine k_istore_n (lv' := [some (.inr 3), some (.inl a1), some (.inl a1)]) d_Entities_addReference_12 rfl rfl ?_
      refine k_sb (lv' := [some (.inr 3), none, some (.inl a1)]) (sb_s (sb_n (sb_s sb_nil))) ?_
      refine k_loop (S := Int) (st := fun _ => []) (lv := fun s15 => [some (.inr 3), none, some (.inl s15)]) (fun K13 hK14 s15 σ16 h => ?_) a1 _ h
      refine k_iload_n d_Entities_addReference_13 rfl ?_
      refine k_aload_n d_Entities_addReference_14 rfl ?_
      refine k_getR d_Entities_addReference_15 fl_3_15 ob_3 rfl ?_
      refine k_getI (x := (σ16.1 2 2)) d_Entities_addReference_18 fl_3_88 ob_2 rfl rfl ?_
      refine k_icge d_Entities_addReference_21 rfl (fun c17 => ?_) (fun c17 => ?_)
      · have h := ineg c17 h
        refine k_goto d_Entities_addReference_46 rfl ?_
        exact k_sb (sb_n (sb_s (sb_n sb_nil))) (hJ2 () _ h)
      · have h := ipos c17 h
        refine k_aload_n d_Entities_addReference_24 rfl ?_
        refine k_getR d_Entities_addReference_25 fl_3_9 ob_3 rfl ?_
        refine k_aload_n d_Entities_addReference_28 rfl ?_
        refine k_getR d_Entities_addReference_29 fl_3_9 ob_3 rfl ?_
        refine k_getR d_Entities_addReference_32 fl_3_116 ob_1 rfl ?_
        refine k_iload_n d_Entities_addReference_35 rfl ?_
        obtain ⟨p21, h⟩ := h
        refine k_ild (x := (σ16.2 101 (Int.toNat s15))) d_Entities_addReference_36 rI_101 p21 rfl ?_
        refine k_cvv [.inl (σ16.2 101 (Int.toNat s15))] d_Entities_addReference_37 ml_3_110 rfl rfl ob_1 rfl (s_Store_add hL (by omega) stB_BF h) (fun σ18 h => ?_)
        obtain ⟨p20, h⟩ := h
        refine k_iinc (lv' := [some (.inr 3), none, some (.inl (s15 + 1))]) d_Entities_addReference_40 cI_1 rfl rfl p20 rfl ?_
        refine k_goto d_Entities_addReference_43 rfl ?_
        exact k_sb (sb_s (sb_s (sb_s sb_nil))) (hK14 (s15 + 1) _ h)
theorem d_Entities_declare_0 : decode b_Entities_declare 0 = .ok (.aload_n 0, 1) := by decide +kernel
theorem d_Entities_declare_1 : decode b_Entities_declare 1 = .ok (.getfield 9, 3) := by decide +kernel
theorem d_Entities_declare_4 : decode b_Entities_declare 4 = .ok (.getfield 85, 3) := by decide +kernel
theorem d_Entities_declare_7 : decode b_Entities_declare 7 = .ok (.istore 5, 2) := by decide +kernel
theorem d_Entities_declare_9 : decode b_Entities_declare 9 = .ok (.aload_n 0, 1) := by decide +kernel
theorem d_Entities_declare_10 : decode b_Entities_declare 10 = .ok (.getfield 15, 3) := by decide +kernel
theorem d_Entities_declare_13 : decode b_Entities_declare 13 = .ok (.getfield 88, 3) := by decide +kernel
theorem d_Entities_declare_16 : decode b_Entities_declare 16 = .ok (.istore 6, 2) := by decide +kernel
theorem d_Entities_declare_18 : decode b_Entities_declare 18 = .ok (.aload_n 0, 1) := by decide +kernel
theorem d_Entities_declare_19 : decode b_Entities_declare 19 = .ok (.getfield 15, 3) := by decide +kernel
theorem d_Entities_declare_22 : decode b_Entities_declare 22 = .ok (.iload_n 3, 1) := by decide +kernel
theorem d_Entities_declare_23 : decode b_Entities_declare 23 = .ok (.putfield 88, 3) := by decide +kernel
theorem d_Entities_declare_26 : decode b_Entities_declare 26 = .ok (.iconst 0, 1) := by decide +kernel
theorem d_Entities_declare_27 : decode b_Entities_declare 27 = .ok (.istore 7, 2) := by decide +kernel
theorem d_Entities_declare_29 : decode b_Entities_declare 29 = .ok (.iload 7, 2) := by decide +kernel
theorem d_Entities_declare_31 : decode b_Entities_declare 31 = .ok (.iload 4, 2) := by decide +kernel
theorem d_Entities_declare_33 : decode b_Entities_declare 33 = .ok (.if_icmp .ge 115, 3) := by decide +kernel
theorem d_Entities_declare_36 : decode b_Entities_declare 36 = .ok (.aload_n 0, 1) := by decide +kernel
theorem d_Entities_declare_37 : decode b_Entities_declare 37 = .ok (.getfield 15, 3) := by decide +kernel
theorem d_Entities_declare_40 : decode b_Entities_declare 40 = .ok (.getfield 88, 3) := by decide +kernel
theorem d_Entities_declare_43 : decode b_Entities_declare 43 = .ok (.iload_n 3, 1) := by decide +kernel
theorem d_Entities_declare_44 : decode b_Entities_declare 44 = .ok (.iload 4, 2) := by decide +kernel
theorem d_Entities_declare_46 : decode b_Entities_declare 46 = .ok (.iadd, 1) := by decide +kernel
theorem d_Entities_declare_47 : decode b_Entities_declare 47 = .ok (.if_icmp .ge 101, 3) := by decide +kernel
theorem d_Entities_declare_50 : decode b_Entities_declare 50 = .ok (.aload_n 0, 1) := by decide +kernel
theorem d_Entities_declare_51 : decode b_Entities_declare 51 = .ok (.getfield 15, 3) := by decide +kernel
theorem d_Entities_declare_54 : decode b_Entities_declare 54 = .ok (.getfield 93, 3) := by decide +kernel
theorem d_Entities_declare_57 : decode b_Entities_declare 57 = .ok (.ifCond .ne 91, 3) := by decide +kernel
theorem d_Entities_declare_60 : decode b_Entities_declare 60 = .ok (.aload_n 0, 1) := by decide +kernel
theorem d_Entities_declare_61 : decode b_Entities_declare 61 = .ok (.getfield 15, 3) := by decide +kernel
theorem d_Entities_declare_64 : decode b_Entities_declare 64 = .ok (.invokevirtual 96, 3) := by decide +kernel
theorem d_Entities_declare_67 : decode b_Entities_declare 67 = .ok (.istore 8, 2) := by decide +kernel
theorem d_Entities_declare_69 : decode b_Entities_declare 69 = .ok (.aload_n 0, 1) := by decide +kernel
theorem d_Entities_declare_70 : decode b_Entities_declare 70 = .ok (.getfield 15, 3) := by decide +kernel
theorem d_Entities_declare_73 : decode b_Entities_declare 73 = .ok (.getfield 88, 3) := by decide +kernel
theorem d_Entities_declare_76 : decode b_Entities_declare 76 = .ok (.istore 9, 2) := by decide +kernel
theorem d_Entities_declare_78 : decode b_Entities_declare 78 = .ok (.iload 8, 2) := by decide +kernel
theorem d_Entities_declare_80 : decode b_Entities_declare 80 = .ok (.bipush 38, 2) := by decide +kernel
theorem d_Entities_declare_82 : decode b_Entities_declare 82 = .ok (.if_icmp .ne 19, 3) := by decide +kernel
theorem d_Entities_declare_85 : decode b_Entities_declare 85 = .ok (.aload_n 0, 1) := by decide +kernel
theorem d_Entities_declare_86 : decode b_Entities_declare 86 = .ok (.getfield 15, 3) := by decide +kernel
theorem d_Entities_declare_89 : decode b_Entities_declare 89 = .ok (.invokevirtual 100, 3) := by decide +kernel
theorem d_Entities_declare_92 : decode b_Entities_declare 92 = .ok (.aload_n 0, 1) := by decide +kernel
theorem d_Entities_declare_93 : decode b_Entities_declare 93 = .ok (.iload 9, 2) := by decide +kernel
theorem d_Entities_declare_95 : decode b_Entities_declare 95 = .ok (.invokevirtual 103, 3) := by decide +kernel
theorem d_Entities_declare_98 : decode b_Entities_declare 98 = .ok (.goto 44, 3) := by decide +kernel
theorem d_Entities_declare_101 : decode b_Entities_declare 101 = .ok (.iload 8, 2) := by decide +kernel
theorem d_Entities_declare_103 : decode b_Entities_declare 103 = .ok (.bipush 37, 2) := by decide +kernel
theorem d_Entities_declare_105 : decode b_Entities_declare 105 = .ok (.if_icmp .ne 15, 3) := by decide +kernel
theorem d_Entities_declare_108 : decode b_Entities_declare 108 = .ok (.aload_n 0, 1) := by decide +kernel
theorem d_Entities_declare_109 : decode b_Entities_declare 109 = .ok (.getfield 15, 3) := by decide +kernel
theorem d_Entities_declare_112 : decode b_Entities_declare 112 = .ok (.bipush 13, 2) := by decide +kernel
theorem d_Entities_declare_114 : decode b_Entities_declare 114 = .ok (.invokevirtual 107, 3) := by decide +kernel
theorem d_Entities_declare_117 : decode b_Entities_declare 117 = .ok (.goto 25, 3) := by decide +kernel
theorem d_Entities_declare_120 : decode b_Entities_declare 120 = .ok (.aload_n 0, 1) := by decide +kernel
theorem d_Entities_declare_121 : decode b_Entities_declare 121 = .ok (.getfield 9, 3) := by decide +kernel
theorem d_Entities_declare_124 : decode b_Entities_declare 124 = .ok (.iload 8, 2) := by decide +kernel
theorem d_Entities_declare_126 : decode b_Entities_declare 126 = .ok (.invokevirtual 110, 3) := by decide +kernel
theorem d_Entities_declare_129 : decode b_Entities_declare 129 = .ok (.aload_n 0, 1) := by decide +kernel
theorem d_Entities_declare_130 : decode b_Entities_declare 130 = .ok (.getfield 15, 3) := by decide +kernel
theorem d_Entities_declare_133 : decode b_Entities_declare 133 = .ok (.dup, 1) := by decide +kernel
theorem d_Entities_declare_134 : decode b_Entities_declare 134 = .ok (.getfield 88, 3) := by decide +kernel
theorem d_Entities_declare_137 : decode b_Entities_declare 137 = .ok (.iconst 1, 1) := by decide +kernel
theorem d_Entities_declare_138 : decode b_Entities_declare 138 = .ok (.iadd, 1) := by decide +kernel
theorem d_Entities_declare_139 : decode b_Entities_declare 139 = .ok (.putfield 88, 3) := by decide +kernel
theorem d_Entities_declare_142 : decode b_Entities_declare 142 = .ok (.iinc 7 1, 3) := by decide +kernel
theorem d_Entities_declare_145 : decode b_Entities_declare 145 = .ok (.goto (-116), 3) := by decide +kernel
theorem d_Entities_declare_148 : decode b_Entities_declare 148 = .ok (.aload_n 0, 1) := by decide +kernel
theorem d_Entities_declare_149 : decode b_Entities_declare 149 = .ok (.getfield 15, 3) := by decide +kernel
theorem d_Entities_declare_152 : decode b_Entities_declare 152 = .ok (.iload 6, 2) := by decide +kernel
theorem d_Entities_declare_154 : decode b_Entities_declare 154 = .ok (.putfield 88, 3) := by decide +kernel
theorem d_Entities_declare_157 : decode b_Entities_declare 157 = .ok (.iload_n 2, 1) := by decide +kernel
theorem d_Entities_declare_158 : decode b_Entities_declare 158 = .ok (.ifCond .eq 10, 3) := by decide +kernel
theorem d_Entities_declare_161 : decode b_Entities_declare 161 = .ok (.aload_n 0, 1) := by decide +kernel
theorem d_Entities_declare_162 : decode b_Entities_declare 162 = .ok (.getfield 54, 3) := by decide +kernel
theorem d_Entities_declare_165 : decode b_Entities_declare 165 = .ok (.goto 7, 3) := by decide +kernel
theorem d_Entities_declare_168 : decode b_Entities_declare 168 = .ok (.aload_n 0, 1) := by decide +kernel
theorem d_Entities_declare_169 : decode b_Entities_declare 169 = .ok (.getfield 51, 3) := by decide +kernel
theorem d_Entities_declare_172 : decode b_Entities_declare 172 = .ok (.astore 7, 2) := by decide +kernel
theorem d_Entities_declare_174 : decode b_Entities_declare 174 = .ok (.aload 7, 2) := by decide +kernel
theorem d_Entities_declare_176 : decode b_Entities_declare 176 = .ok (.iload_n 1, 1) := by decide +kernel
theorem d_Entities_declare_177 : decode b_Entities_declare 177 = .ok (.iaload, 1) := by decide +kernel
theorem d_Entities_declare_178 : decode b_Entities_declare 178 = .ok (.ifCond .ne 15, 3) := by decide +kernel
theorem d_Entities_declare_181 : decode b_Entities_declare 181 = .ok (.aload_n 0, 1) := by decide +kernel
theorem d_Entities_declare_182 : decode b_Entities_declare 182 = .ok (.getfield 63, 3) := by decide +kernel
theorem d_Entities_declare_185 : decode b_Entities_declare 185 = .ok (.aload_n 0, 1) := by decide +kernel
theorem d_Entities_declare_186 : decode b_Entities_declare 186 = .ok (.getfield 25, 3) := by decide +kernel
theorem d_Entities_declare_189 : decode b_Entities_declare 189 = .ok (.arraylength, 1) := by decide +kernel
theorem d_Entities_declare_190 : decode b_Entities_declare 190 = .ok (.if_icmp .lt 13, 3) := by decide +kernel
theorem d_Entities_declare_193 : decode b_Entities_declare 193 = .ok (.aload_n 0, 1) := by decide +kernel
theorem d_Entities_declare_194 : decode b_Entities_declare 194 = .ok (.getfield 9, 3) := by decide +kernel
theorem d_Entities_declare_197 : decode b_Entities_declare 197 = .ok (.iload 5, 2) := by decide +kernel
theorem d_Entities_declare_199 : decode b_Entities_declare 199 = .ok (.putfield 85, 3) := by decide +kernel
theorem d_Entities_declare_202 : decode b_Entities_declare 202 = .ok (.return_, 1) := by decide +kernel
theorem d_Entities_declare_203 : decode b_Entities_declare 203 = .ok (.aload_n 0, 1) := by decide +kernel
theorem d_Entities_declare_204 : decode b_Entities_declare 204 = .ok (.getfield 25, 3) := by decide +kernel
theorem d_Entities_declare_207 : decode b_Entities_declare 207 = .ok (.aload_n 0, 1) := by decide +kernel
theorem d_Entities_declare_208 : decode b_Entities_declare 208 = .ok (.getfield 63, 3) := by decide +kernel
theorem d_Entities_declare_211 : decode b_Entities_declare 211 = .ok (.iload 5, 2) := by decide +kernel
theorem d_Entities_declare_213 : decode b_Entities_declare 213 = .ok (.iastore, 1) := by decide +kernel
theorem d_Entities_declare_214 : decode b_Entities_declare 214 = .ok (.aload_n 0, 1) := by decide +kernel
theorem d_Entities_declare_215 : decode b_Entities_declare 215 = .ok (.getfield 29, 3) := by decide +kernel
theorem d_Entities_declare_218 : decode b_Entities_declare 218 = .ok (.aload_n 0, 1) := by decide +kernel
theorem d_Entities_declare_219 : decode b_Entities_declare 219 = .ok (.getfield 63, 3) := by decide +kernel
theorem d_Entities_declare_222 : decode b_Entities_declare 222 = .ok (.aload_n 0, 1) := by decide +kernel
theorem d_Entities_declare_223 : decode b_Entities_declare 223 = .ok (.getfield 9, 3) := by decide +kernel
theorem d_Entities_declare_226 : decode b_Entities_declare 226 = .ok (.getfield 85, 3) := by decide +kernel
theorem d_Entities_declare_229 : decode b_Entities_declare 229 = .ok (.iload 5, 2) := by decide +kernel
theorem d_Entities_declare_231 : decode b_Entities_declare 231 = .ok (.isub, 1) := by decide +kernel
theorem d_Entities_declare_232 : decode b_Entities_declare 232 = .ok (.iastore, 1) := by decide +kernel
theorem d_Entities_declare_233 : decode b_Entities_declare 233 = .ok (.aload_n 0, 1) := by decide +kernel
theorem d_Entities_declare_234 : decode b_Entities_declare 234 = .ok (.getfield 32, 3) := by decide +kernel
theorem d_Entities_declare_237 : decode b_Entities_declare 237 = .ok (.aload_n 0, 1) := by decide +kernel
theorem d_Entities_declare_238 : decode b_Entities_declare 238 = .ok (.getfield 63, 3) := by decide +kernel
theorem d_Entities_declare_241 : decode b_Entities_declare 241 = .ok (.iconst 0, 1) := by decide +kernel
theorem d_Entities_declare_242 : decode b_Entities_declare 242 = .ok (.bastore, 1) := by decide +kernel
theorem d_Entities_declare_243 : decode b_Entities_declare 243 = .ok (.aload_n 0, 1) := by decide +kernel
theorem d_Entities_declare_244 : decode b_Entities_declare 244 = .ok (.dup, 1) := by decide +kernel
theorem d_Entities_declare_245 : decode b_Entities_declare 245 = .ok (.getfield 63, 3) := by decide +kernel
theorem d_Entities_declare_248 : decode b_Entities_declare 248 = .ok (.iconst 1, 1) := by decide +kernel
theorem d_Entities_declare_249 : decode b_Entities_declare 249 = .ok (.iadd, 1) := by decide +kernel
theorem d_Entities_declare_250 : decode b_Entities_declare 250 = .ok (.putfield 63, 3) := by decide +kernel
theorem d_Entities_declare_253 : decode b_Entities_declare 253 = .ok (.aload 7, 2) := by decide +kernel
theorem d_Entities_declare_255 : decode b_Entities_declare 255 = .ok (.iload_n 1, 1) := by decide +kernel
theorem d_Entities_declare_256 : decode b_Entities_declare 256 = .ok (.aload_n 0, 1) := by decide +kernel
theorem d_Entities_declare_257 : decode b_Entities_declare 257 = .ok (.getfield 63, 3) := by decide +kernel
theorem d_Entities_declare_260 : decode b_Entities_declare 260 = .ok (.iastore, 1) := by decide +kernel
theorem d_Entities_declare_261 : decode b_Entities_declare 261 = .ok (.return_, 1) := by decide +kernel
/-- Entities_declare -/
def w_Entities_declare (L : Nat → Nat) (a1 : Int) (a2 : Int) (a3 : Int) (a4 : Int) (Q : IS → Prop) (σ : IS) : Prop := WL (fun (K1 : Int → IS → Prop) (s3 : Int) (σ4 : IS) => ((s3 < a4 → inR (a3 + a4))) ∧ if s3 < a4 ∧ ((σ4.1 2 2) < (a3 + a4) ∧ ((σ4.1 2 4) = 0)) then w_Reader_peek L  (fun v7 σ6 => WJ (fun (s10 : Unit) (σ11 : IS) => inR (s3 + 1) ∧ K1 (s3 + 1) σ11) (fun J8 => if v7 = 38 then w_Reader_readReference L  (fun σ20 => w_Entities_addReference L (σ6.1 2 2) (fun σ22 => J8 () σ22) σ20) σ6 else if v7 = 37 then w_Reader_fail L 13 (fun σ18 => J8 () σ18) σ6 else w_Store_add L v7 (fun σ15 => inR ((σ15.1 2 2) + 1) ∧ J8 () (pf σ15 2 2 ((σ15.1 2 2) + 1))) σ6)) σ4 else inL L (if a2 = 0 then 114 else 115) a1 ∧ rwI BF (if a2 = 0 then 114 else 115) ∧ if (σ4.2 (if a2 = 0 then 114 else 115) (Int.toNat a1)) = 0 ∧ ((σ4.1 3 5) < ((L 107 : Nat) : Int)) then inL L 107 (σ4.1 3 5) ∧ inR ((σ4.1 1 3) - (σ.1 1 3)) ∧ inL L 108 (σ4.1 3 5) ∧ inL L 109 (σ4.1 3 5) ∧ inR ((σ4.1 3 5) + 1) ∧ inL L (if a2 = 0 then 114 else 115) a1 ∧ rwI BF (if a2 = 0 then 114 else 115) ∧ Q (pr (pf (pr (pr (pr (pf σ4 2 2 (σ.1 2 2)) 107 (Int.toNat (σ4.1 3 5)) (σ.1 1 3)) 108 (Int.toNat (σ4.1 3 5)) ((σ4.1 1 3) - (σ.1 1 3))) 109 (Int.toNat (σ4.1 3 5)) 0) 3 5 ((σ4.1 3 5) + 1)) (if a2 = 0 then 114 else 115) (Int.toNat a1) ((σ4.1 3 5) + 1)) else Q (pf (pf σ4 2 2 (σ.1 2 2)) 1 3 (σ.1 1 3))) 0 (pf σ 2 2 a3)
set_option maxHeartbeats 4000000 in
set_option maxRecDepth 20000 in
theorem s_Entities_declare {L : Nat → Nat} (hL : ∀ r, L r < 2147483648) {d : Nat} (hd : 3 ≤ d) {a1 : Int} {a2 : Int} {a3 : Int} {a4 : Int} {Q : IS → Prop} {σ : IS}  (h : w_Entities_declare L a1 a2 a3 a4 Q σ) : OkI BF L d 3 b_Entities_declare 10 0 0 [] [some (.inr 3), some (.inl a1), some (.inl a2), some (.inl a3), some (.inl a4)] σ (qv Q) := by
  unfold w_Entities_declare at h
  obtain ⟨d, rfl⟩ : ∃ e, d = e + 1 := ⟨d - 1, by omega⟩
  refine k_sb (lv' := [some (.inr 3), some (.inl a1), some (.inl a2), some (.inl a3), some (.inl a4), none, none, none, none, none]) (sb_s (sb_s (sb_s (sb_s (sb_s (sb_e (sb_e (sb_e (sb_e (sb_e sb_nil)))))))))) ?_
  refine k_aload_n d_Entities_declare_0 rfl ?_
  refine k_getR d_Entities_declare_1 fl_3_9 ob_3 rfl ?_
  refine k_getI (x := (σ.1 1 3)) d_Entities_declare_4 fl_3_85 ob_1 rfl rfl ?_
  refine k_istore (lv' := [some (.inr 3), some (.inl a1), some (.inl a2), some (.inl a3), some (.inl a4), some (.inl (σ.1 1 3)), none, none, none, none]) d_Entities_declare_7 rfl rfl ?_
  refine k_aload_n d_Entities_declare_9 rfl ?_
  refine k_getR d_Entities_declare_10 fl_3_15 ob_3 rfl ?_
  refine k_getI (x := (σ.1 2 2)) d_Entities_declare_13 fl_3_88 ob_2 rfl rfl ?_
  refine k_istore (lv' := [some (.inr 3), some (.inl a1), some (.inl a2), some (.inl a3), some (.inl a4), some (.inl (σ.1 1 3)), some (.inl (σ.1 2 2)), none, none, none]) d_Entities_declare_16 rfl rfl ?_
  refine k_aload_n d_Entities_declare_18 rfl ?_
  refine k_getR d_Entities_declare_19 fl_3_15 ob_3 rfl ?_
  refine k_iload_n d_Entities_declare_22 rfl ?_
  refine k_putI d_Entities_declare_23 fl_3_88 ob_2 rfl ?_
  refine k_iconst d_Entities_declare_26 cI_0 ?_
  refine k_istore (lv' := [some (.inr 3), some (.inl a1), some (.inl a2), some (.inl a3), some (.inl a4), some (.inl (σ.1 1 3)), some (.inl (σ.1 2 2)), some (.inl 0), none, none]) d_Entities_declare_27 rfl rfl ?_
  refine k_sb (lv' := [some (.inr 3), some (.inl a1), some (.inl a2), some (.inl a3), some (.inl a4), some (.inl (σ.1 1 3)), some (.inl (σ.1 2 2)), some (.inl 0), none, none]) (sb_s (sb_s (sb_s (sb_s (sb_s (sb_s (sb_s (sb_s (sb_s (sb_s sb_nil)))))))))) ?_
  refine k_loop (S := Int) (st := fun _ => []) (lv := fun s3 => [some (.inr 3), some (.inl a1), some (.inl a2), some (.inl a3), some (.inl a4), some (.inl (σ.1 1 3)), some (.inl (σ.1 2 2)), some (.inl s3), none, none]) (fun K1 hK2 s3 σ4 h => ?_) 0 _ h
  refine k_iload d_Entities_declare_29 rfl ?_
  refine k_iload d_Entities_declare_31 rfl ?_
  obtain ⟨pt45, h⟩ := h
  have hX42 : (s3 < a4 ∧ ((σ4.1 2 2) < (a3 + a4) ∧ ((σ4.1 2 4) = 0))) → OkI BF L (d + 1) 3 b_Entities_declare 10 0 60 [] [some (.inr 3), some (.inl a1), some (.inl a2), some (.inl a3), some (.inl a4), some (.inl (σ.1 1 3)), some (.inl (σ.1 2 2)), some (.inl s3), none, none] σ4 (qv Q) := fun e44 => by
    have h := ipos e44 h
    refine k_aload_n d_Entities_declare_60 rfl ?_
    refine k_getR d_Entities_declare_61 fl_3_15 ob_3 rfl ?_
    refine k_cvi [] d_Entities_declare_64 ml_3_96 rfl rfl ob_2 rfl (s_Reader_peek hL (by omega)  h) (fun v7 σ6 h => ?_)
    refine k_istore (lv' := [some (.inr 3), some (.inl a1), some (.inl a2), some (.inl a3), some (.inl a4), some (.inl (σ.1 1 3)), some (.inl (σ.1 2 2)), some (.inl s3), some (.inl v7), none]) d_Entities_declare_67 rfl rfl ?_
    refine k_aload_n d_Entities_declare_69 rfl ?_
    refine k_getR d_Entities_declare_70 fl_3_15 ob_3 rfl ?_
    refine k_getI (x := (σ6.1 2 2)) d_Entities_declare_73 fl_3_88 ob_2 rfl rfl ?_
    refine k_istore (lv' := [some (.inr 3), some (.inl a1), some (.inl a2), some (.inl a3), some (.inl a4), some (.inl (σ.1 1 3)), some (.inl (σ.1 2 2)), some (.inl s3), some (.inl v7), some (.inl (σ6.1 2 2))]) d_Entities_declare_76 rfl rfl ?_
    refine k_iload d_Entities_declare_78 rfl ?_
    refine k_bipush d_Entities_declare_80 cB_38 ?_
    refine k_join (S := Unit) (pc' := 142) (st' := fun s10 => []) (lv' := fun s10 => [some (.inr 3), some (.inl a1), some (.inl a2), some (.inl a3), some (.inl a4), some (.inl (σ.1 1 3)), some (.inl (σ.1 2 2)), some (.inl s3), none, none]) (fun s10 σ11 h => ?_) (fun J8 hJ9 h => ?_) h
    · obtain ⟨p12, h⟩ := h
      refine k_iinc (lv' := [some (.inr 3), some (.inl a1), some (.inl a2), some (.inl a3), some (.inl a4), some (.inl (σ.1 1 3)), some (.inl (σ.1 2 2)), some (.inl (s3 + 1)), none, none]) d_Entities_declare_142 cI_1 rfl rfl p12 rfl ?_
      refine k_goto d_Entities_declare_145 rfl ?_
      exact k_sb (sb_s (sb_s (sb_s (sb_s (sb_s (sb_s (sb_s (sb_s (sb_s (sb_s sb_nil)))))))))) (hK2 (s3 + 1) _ h)
    · refine k_icne d_Entities_declare_82 rfl (fun c13 => ?_) (fun c13 => ?_)
      · have h := ineg c13 h
        refine k_iload d_Entities_declare_101 rfl ?_
        refine k_bipush d_Entities_declare_103 cB_37 ?_
        refine k_icne d_Entities_declare_105 rfl (fun c14 => ?_) (fun c14 => ?_)
        · have h := ineg c14 h
          refine k_aload_n d_Entities_declare_120 rfl ?_
          refine k_getR d_Entities_declare_121 fl_3_9 ob_3 rfl ?_
          refine k_iload d_Entities_declare_124 rfl ?_
          refine k_cvv [.inl v7] d_Entities_declare_126 ml_3_110 rfl rfl ob_1 rfl (s_Store_add hL (by omega) stB_BF h) (fun σ15 h => ?_)
          refine k_aload_n d_Entities_declare_129 rfl ?_
          refine k_getR d_Entities_declare_130 fl_3_15 ob_3 rfl ?_
          refine k_dup d_Entities_declare_133 ?_
          refine k_getI (x := (σ15.1 2 2)) d_Entities_declare_134 fl_3_88 ob_2 rfl rfl ?_
          refine k_iconst d_Entities_declare_137 cI_1 ?_
          obtain ⟨p17, h⟩ := h
          refine k_iadd d_Entities_declare_138 p17 ?_
          refine k_putI d_Entities_declare_139 fl_3_88 ob_2 rfl ?_
          exact k_sb (sb_s (sb_s (sb_s (sb_s (sb_s (sb_s (sb_s (sb_s (sb_n (sb_n sb_nil)))))))))) (hJ9 () _ h)
        · have h := ipos c14 h
          refine k_aload_n d_Entities_declare_108 rfl ?_
          refine k_getR d_Entities_declare_109 fl_3_15 ob_3 rfl ?_
          refine k_bipush d_Entities_declare_112 cB_13 ?_
          refine k_cvv [.inl 13] d_Entities_declare_114 ml_3_107 rfl rfl ob_2 rfl (s_Reader_fail hL (by omega)  h) (fun σ18 h => ?_)
          refine k_goto d_Entities_declare_117 rfl ?_
          exact k_sb (sb_s (sb_s (sb_s (sb_s (sb_s (sb_s (sb_s (sb_s (sb_n (sb_n sb_nil)))))))))) (hJ9 () _ h)
      · have h := ipos c13 h
        refine k_aload_n d_Entities_declare_85 rfl ?_
        refine k_getR d_Entities_declare_86 fl_3_15 ob_3 rfl ?_
        refine k_cvv [] d_Entities_declare_89 ml_3_100 rfl rfl ob_2 rfl (s_Reader_readReference hL (by omega)  h) (fun σ20 h => ?_)
        refine k_aload_n d_Entities_declare_92 rfl ?_
        refine k_iload d_Entities_declare_93 rfl ?_
        refine k_cvv [.inl (σ6.1 2 2)] d_Entities_declare_95 ml_3_103 rfl rfl ob_3 rfl (s_Entities_addReference hL (by omega)  h) (fun σ22 h => ?_)
        refine k_goto d_Entities_declare_98 rfl ?_
        exact k_sb (sb_s (sb_s (sb_s (sb_s (sb_s (sb_s (sb_s (sb_s (sb_n (sb_n sb_nil)))))))))) (hJ9 () _ h)
  have hY43 : ¬ (s3 < a4 ∧ ((σ4.1 2 2) < (a3 + a4) ∧ ((σ4.1 2 4) = 0))) → OkI BF L (d + 1) 3 b_Entities_declare 10 0 148 [] [some (.inr 3), some (.inl a1), some (.inl a2), some (.inl a3), some (.inl a4), some (.inl (σ.1 1 3)), some (.inl (σ.1 2 2)), some (.inl s3), none, none] σ4 (qv Q) := fun e44 => by
    have h := ineg e44 h
    refine k_aload_n d_Entities_declare_148 rfl ?_
    refine k_getR d_Entities_declare_149 fl_3_15 ob_3 rfl ?_
    refine k_iload d_Entities_declare_152 rfl ?_
    refine k_putI d_Entities_declare_154 fl_3_88 ob_2 rfl ?_
    refine k_iload_n d_Entities_declare_157 rfl ?_
    have hV38 : OkI BF L (d + 1) 3 b_Entities_declare 10 0 172 [.inr (if a2 = 0 then 114 else 115)] [some (.inr 3), some (.inl a1), some (.inl a2), some (.inl a3), some (.inl a4), some (.inl (σ.1 1 3)), some (.inl (σ.1 2 2)), some (.inl s3), none, none] (pf σ4 2 2 (σ.1 2 2)) (qv Q) := by
      refine k_astore (lv' := [some (.inr 3), some (.inl a1), some (.inl a2), some (.inl a3), some (.inl a4), some (.inl (σ.1 1 3)), some (.inl (σ.1 2 2)), some (.inr (if a2 = 0 then 114 else 115)), none, none]) d_Entities_declare_172 rfl rfl ?_
      refine k_aload d_Entities_declare_174 rfl ?_
      refine k_iload_n d_Entities_declare_176 rfl ?_
      obtain ⟨p36, h⟩ := h
      obtain ⟨p37, h⟩ := h
      refine k_ild (x := (σ4.2 (if a2 = 0 then 114 else 115) (Int.toNat a1))) d_Entities_declare_177 p37 p36 rfl ?_
      have hX31 : ((σ4.2 (if a2 = 0 then 114 else 115) (Int.toNat a1)) = 0 ∧ ((σ4.1 3 5) < ((L 107 : Nat) : Int))) → OkI BF L (d + 1) 3 b_Entities_declare 10 0 203 [] [some (.inr 3), some (.inl a1), some (.inl a2), some (.inl a3), some (.inl a4), some (.inl (σ.1 1 3)), some (.inl (σ.1 2 2)), some (.inr (if a2 = 0 then 114 else 115)), none, none] (pf σ4 2 2 (σ.1 2 2)) (qv Q) := fun e33 => by
        have h := ipos e33 h
        refine k_aload_n d_Entities_declare_203 rfl ?_
        refine k_getR d_Entities_declare_204 fl_3_25 ob_3 rfl ?_
        refine k_aload_n d_Entities_declare_207 rfl ?_
        refine k_getI (x := (σ4.1 3 5)) d_Entities_declare_208 fl_3_63 ob_3 rfl rfl ?_
        refine k_iload d_Entities_declare_211 rfl ?_
        obtain ⟨p30, h⟩ := h
        refine k_ist d_Entities_declare_213 rI_107 p30 ?_
        refine k_aload_n d_Entities_declare_214 rfl ?_
        refine k_getR d_Entities_declare_215 fl_3_29 ob_3 rfl ?_
        refine k_aload_n d_Entities_declare_218 rfl ?_
        refine k_getI (x := (σ4.1 3 5)) d_Entities_declare_219 fl_3_63 ob_3 rfl rfl ?_
        refine k_aload_n d_Entities_declare_222 rfl ?_
        refine k_getR d_Entities_declare_223 fl_3_9 ob_3 rfl ?_
        refine k_getI (x := (σ4.1 1 3)) d_Entities_declare_226 fl_3_85 ob_1 rfl rfl ?_
        refine k_iload d_Entities_declare_229 rfl ?_
        obtain ⟨p29, h⟩ := h
        refine k_isub d_Entities_declare_231 p29 ?_
        obtain ⟨p28, h⟩ := h
        refine k_ist d_Entities_declare_232 rI_108 p28 ?_
        refine k_aload_n d_Entities_declare_233 rfl ?_
        refine k_getR d_Entities_declare_234 fl_3_32 ob_3 rfl ?_
        refine k_aload_n d_Entities_declare_237 rfl ?_
        refine k_getI (x := (σ4.1 3 5)) d_Entities_declare_238 fl_3_63 ob_3 rfl rfl ?_
        refine k_iconst d_Entities_declare_241 cI_0 ?_
        obtain ⟨p27, h⟩ := h
        refine k_zst d_Entities_declare_242 rz_109 p27 (Or.inl rfl) ?_
        refine k_aload_n d_Entities_declare_243 rfl ?_
        refine k_dup d_Entities_declare_244 ?_
        refine k_getI (x := (σ4.1 3 5)) d_Entities_declare_245 fl_3_63 ob_3 rfl rfl ?_
        refine k_iconst d_Entities_declare_248 cI_1 ?_
        obtain ⟨p26, h⟩ := h
        refine k_iadd d_Entities_declare_249 p26 ?_
        refine k_putI d_Entities_declare_250 fl_3_63 ob_3 rfl ?_
        refine k_aload d_Entities_declare_253 rfl ?_
        refine k_iload_n d_Entities_declare_255 rfl ?_
        refine k_aload_n d_Entities_declare_256 rfl ?_
        refine k_getI (x := ((σ4.1 3 5) + 1)) d_Entities_declare_257 fl_3_63 ob_3 rfl rfl ?_
        obtain ⟨p24, h⟩ := h
        obtain ⟨p25, h⟩ := h
        refine k_ist d_Entities_declare_260 p25 p24 ?_
        exact k_ret d_Entities_declare_261 h
      have hY32 : ¬ ((σ4.2 (if a2 = 0 then 114 else 115) (Int.toNat a1)) = 0 ∧ ((σ4.1 3 5) < ((L 107 : Nat) : Int))) → OkI BF L (d + 1) 3 b_Entities_declare 10 0 193 [] [some (.inr 3), some (.inl a1), some (.inl a2), some (.inl a3), some (.inl a4), some (.inl (σ.1 1 3)), some (.inl (σ.1 2 2)), some (.inr (if a2 = 0 then 114 else 115)), none, none] (pf σ4 2 2 (σ.1 2 2)) (qv Q) := fun e33 => by
        have h := ineg e33 h
        refine k_aload_n d_Entities_declare_193 rfl ?_
        refine k_getR d_Entities_declare_194 fl_3_9 ob_3 rfl ?_
        refine k_iload d_Entities_declare_197 rfl ?_
        refine k_putI d_Entities_declare_199 fl_3_85 ob_1 rfl ?_
        exact k_ret d_Entities_declare_202 h
      refine k_ifne d_Entities_declare_178 rfl (fun c34 => ?_) (fun c34 => ?_)
      · exact hY32 (fun z => c34 z.1)
      · refine k_aload_n d_Entities_declare_181 rfl ?_
        refine k_getI (x := (σ4.1 3 5)) d_Entities_declare_182 fl_3_63 ob_3 rfl rfl ?_
        refine k_aload_n d_Entities_declare_185 rfl ?_
        refine k_getR d_Entities_declare_186 fl_3_25 ob_3 rfl ?_
        refine k_len d_Entities_declare_189 rI_107.1 (hL _) ?_
        refine k_iclt d_Entities_declare_190 rfl (fun c35 => ?_) (fun c35 => ?_)
        · exact hX31 (⟨c34, c35⟩)
        · exact hY32 (fun z => (c35) z.2)
    refine k_ifeq d_Entities_declare_158 rfl (fun c39 => ?_) (fun c39 => ?_)
    · have hV40 := k_eqR (if_pos c39) hV38
      refine k_aload_n d_Entities_declare_168 rfl ?_
      refine k_getR d_Entities_declare_169 fl_3_51 ob_3 rfl ?_
      exact hV40
    · have hV41 := k_eqR (if_neg c39) hV38
      refine k_aload_n d_Entities_declare_161 rfl ?_
      refine k_getR d_Entities_declare_162 fl_3_54 ob_3 rfl ?_
      refine k_goto d_Entities_declare_165 rfl ?_
      exact hV41
  have pa46 := pt45
  refine k_icge d_Entities_declare_33 rfl (fun c47 => ?_) (fun c47 => ?_)
  · exact hY43 (fun z => c47 z.1)
  · have pa46 := pa46 c47
    have p5 := pa46
    refine k_aload_n d_Entities_declare_36 rfl ?_
    refine k_getR d_Entities_declare_37 fl_3_15 ob_3 rfl ?_
    refine k_getI (x := (σ4.1 2 2)) d_Entities_declare_40 fl_3_88 ob_2 rfl rfl ?_
    refine k_iload_n d_Entities_declare_43 rfl ?_
    refine k_iload d_Entities_declare_44 rfl ?_
    refine k_iadd d_Entities_declare_46 p5 ?_
    refine k_icge d_Entities_declare_47 rfl (fun c48 => ?_) (fun c48 => ?_)
    · exact hY43 (fun z => (fun z => c48 z.1) z.2)
    · refine k_aload_n d_Entities_declare_50 rfl ?_
      refine k_getR d_Entities_declare_51 fl_3_15 ob_3 rfl ?_
      refine k_getI (x := (σ4.1 2 4)) d_Entities_declare_54 fl_3_93 ob_2 rfl rfl ?_
      refine k_ifne d_Entities_declare_57 rfl (fun c49 => ?_) (fun c49 => ?_)
      · exact hY43 (fun z => (fun z => (c49) z.2) z.2)
      · exact hX42 (⟨c47, ⟨c48, c49⟩⟩)
theorem d_Doctype_readEntity_0 : decode b_Doctype_readEntity 0 = .ok (.aload_n 0, 1) := by decide +kernel
theorem d_Doctype_readEntity_1 : decode b_Doctype_readEntity 1 = .ok (.getfield 17, 3) := by decide +kernel
theorem d_Doctype_readEntity_4 : decode b_Doctype_readEntity 4 = .ok (.ldc 143, 2) := by decide +kernel
theorem d_Doctype_readEntity_6 : decode b_Doctype_readEntity 6 = .ok (.invokevirtual 53, 3) := by decide +kernel
theorem d_Doctype_readEntity_9 : decode b_Doctype_readEntity 9 = .ok (.aload_n 0, 1) := by decide +kernel
theorem d_Doctype_readEntity_10 : decode b_Doctype_readEntity 10 = .ok (.getfield 17, 3) := by decide +kernel
theorem d_Doctype_readEntity_13 : decode b_Doctype_readEntity 13 = .ok (.invokevirtual 59, 3) := by decide +kernel
theorem d_Doctype_readEntity_16 : decode b_Doctype_readEntity 16 = .ok (.aload_n 0, 1) := by decide +kernel
theorem d_Doctype_readEntity_17 : decode b_Doctype_readEntity 17 = .ok (.getfield 17, 3) := by decide +kernel
theorem d_Doctype_readEntity_20 : decode b_Doctype_readEntity 20 = .ok (.ldc 155, 2) := by decide +kernel
theorem d_Doctype_readEntity_22 : decode b_Doctype_readEntity 22 = .ok (.invokevirtual 87, 3) := by decide +kernel
theorem d_Doctype_readEntity_25 : decode b_Doctype_readEntity 25 = .ok (.istore_n 1, 1) := by decide +kernel
theorem d_Doctype_readEntity_26 : decode b_Doctype_readEntity 26 = .ok (.iload_n 1, 1) := by decide +kernel
theorem d_Doctype_readEntity_27 : decode b_Doctype_readEntity 27 = .ok (.ifCond .eq 10, 3) := by decide +kernel
theorem d_Doctype_readEntity_30 : decode b_Doctype_readEntity 30 = .ok (.aload_n 0, 1) := by decide +kernel
theorem d_Doctype_readEntity_31 : decode b_Doctype_readEntity 31 = .ok (.getfield 17, 3) := by decide +kernel
theorem d_Doctype_readEntity_34 : decode b_Doctype_readEntity 34 = .ok (.invokevirtual 59, 3) := by decide +kernel
theorem d_Doctype_readEntity_37 : decode b_Doctype_readEntity 37 = .ok (.aload_n 0, 1) := by decide +kernel
theorem d_Doctype_readEntity_38 : decode b_Doctype_readEntity 38 = .ok (.getfield 17, 3) := by decide +kernel
theorem d_Doctype_readEntity_41 : decode b_Doctype_readEntity 41 = .ok (.invokevirtual 62, 3) := by decide +kernel
theorem d_Doctype_readEntity_44 : decode b_Doctype_readEntity 44 = .ok (.istore_n 2, 1) := by decide +kernel
theorem d_Doctype_readEntity_45 : decode b_Doctype_readEntity 45 = .ok (.aload_n 0, 1) := by decide +kernel
theorem d_Doctype_readEntity_46 : decode b_Doctype_readEntity 46 = .ok (.getfield 17, 3) := by decide +kernel
theorem d_Doctype_readEntity_49 : decode b_Doctype_readEntity 49 = .ok (.getfield 66, 3) := by decide +kernel
theorem d_Doctype_readEntity_52 : decode b_Doctype_readEntity 52 = .ok (.iload_n 2, 1) := by decide +kernel
theorem d_Doctype_readEntity_53 : decode b_Doctype_readEntity 53 = .ok (.isub, 1) := by decide +kernel
theorem d_Doctype_readEntity_54 : decode b_Doctype_readEntity 54 = .ok (.istore_n 3, 1) := by decide +kernel
theorem d_Doctype_readEntity_55 : decode b_Doctype_readEntity 55 = .ok (.aload_n 0, 1) := by decide +kernel
theorem d_Doctype_readEntity_56 : decode b_Doctype_readEntity 56 = .ok (.getfield 17, 3) := by decide +kernel
theorem d_Doctype_readEntity_59 : decode b_Doctype_readEntity 59 = .ok (.invokevirtual 59, 3) := by decide +kernel
theorem d_Doctype_readEntity_62 : decode b_Doctype_readEntity 62 = .ok (.aload_n 0, 1) := by decide +kernel
theorem d_Doctype_readEntity_63 : decode b_Doctype_readEntity 63 = .ok (.getfield 17, 3) := by decide +kernel
theorem d_Doctype_readEntity_66 : decode b_Doctype_readEntity 66 = .ok (.invokevirtual 243, 3) := by decide +kernel
theorem d_Doctype_readEntity_69 : decode b_Doctype_readEntity 69 = .ok (.istore 4, 2) := by decide +kernel
theorem d_Doctype_readEntity_71 : decode b_Doctype_readEntity 71 = .ok (.iload 4, 2) := by decide +kernel
theorem d_Doctype_readEntity_73 : decode b_Doctype_readEntity 73 = .ok (.ifCond .eq 13, 3) := by decide +kernel
theorem d_Doctype_readEntity_76 : decode b_Doctype_readEntity 76 = .ok (.aload_n 0, 1) := by decide +kernel
theorem d_Doctype_readEntity_77 : decode b_Doctype_readEntity 77 = .ok (.getfield 17, 3) := by decide +kernel
theorem d_Doctype_readEntity_80 : decode b_Doctype_readEntity 80 = .ok (.invokevirtual 246, 3) := by decide +kernel
theorem d_Doctype_readEntity_83 : decode b_Doctype_readEntity 83 = .ok (.goto 52, 3) := by decide +kernel
theorem d_Doctype_readEntity_86 : decode b_Doctype_readEntity 86 = .ok (.aload_n 0, 1) := by decide +kernel
theorem d_Doctype_readEntity_87 : decode b_Doctype_readEntity 87 = .ok (.getfield 17, 3) := by decide +kernel
theorem d_Doctype_readEntity_90 : decode b_Doctype_readEntity 90 = .ok (.iconst 0, 1) := by decide +kernel
theorem d_Doctype_readEntity_91 : decode b_Doctype_readEntity 91 = .ok (.invokevirtual 81, 3) := by decide +kernel
theorem d_Doctype_readEntity_94 : decode b_Doctype_readEntity 94 = .ok (.aload_n 0, 1) := by decide +kernel
theorem d_Doctype_readEntity_95 : decode b_Doctype_readEntity 95 = .ok (.getfield 17, 3) := by decide +kernel
theorem d_Doctype_readEntity_98 : decode b_Doctype_readEntity 98 = .ok (.invokevirtual 69, 3) := by decide +kernel
theorem d_Doctype_readEntity_101 : decode b_Doctype_readEntity 101 = .ok (.ifCond .eq 34, 3) := by decide +kernel
theorem d_Doctype_readEntity_104 : decode b_Doctype_readEntity 104 = .ok (.iload_n 1, 1) := by decide +kernel
theorem d_Doctype_readEntity_105 : decode b_Doctype_readEntity 105 = .ok (.ifCond .ne 30, 3) := by decide +kernel
theorem d_Doctype_readEntity_108 : decode b_Doctype_readEntity 108 = .ok (.aload_n 0, 1) := by decide +kernel
theorem d_Doctype_readEntity_109 : decode b_Doctype_readEntity 109 = .ok (.getfield 17, 3) := by decide +kernel
theorem d_Doctype_readEntity_112 : decode b_Doctype_readEntity 112 = .ok (.ldc 249, 2) := by decide +kernel
theorem d_Doctype_readEntity_114 : decode b_Doctype_readEntity 114 = .ok (.invokevirtual 87, 3) := by decide +kernel
theorem d_Doctype_readEntity_117 : decode b_Doctype_readEntity 117 = .ok (.ifCond .eq 18, 3) := by decide +kernel
theorem d_Doctype_readEntity_120 : decode b_Doctype_readEntity 120 = .ok (.aload_n 0, 1) := by decide +kernel
theorem d_Doctype_readEntity_121 : decode b_Doctype_readEntity 121 = .ok (.getfield 17, 3) := by decide +kernel
theorem d_Doctype_readEntity_124 : decode b_Doctype_readEntity 124 = .ok (.invokevirtual 59, 3) := by decide +kernel
theorem d_Doctype_readEntity_127 : decode b_Doctype_readEntity 127 = .ok (.aload_n 0, 1) := by decide +kernel
theorem d_Doctype_readEntity_128 : decode b_Doctype_readEntity 128 = .ok (.getfield 17, 3) := by decide +kernel
theorem d_Doctype_readEntity_131 : decode b_Doctype_readEntity 131 = .ok (.invokevirtual 62, 3) := by decide +kernel
theorem d_Doctype_readEntity_134 : decode b_Doctype_readEntity 134 = .ok (.pop, 1) := by decide +kernel
theorem d_Doctype_readEntity_135 : decode b_Doctype_readEntity 135 = .ok (.aload_n 0, 1) := by decide +kernel
theorem d_Doctype_readEntity_136 : decode b_Doctype_readEntity 136 = .ok (.getfield 17, 3) := by decide +kernel
theorem d_Doctype_readEntity_139 : decode b_Doctype_readEntity 139 = .ok (.invokevirtual 69, 3) := by decide +kernel
theorem d_Doctype_readEntity_142 : decode b_Doctype_readEntity 142 = .ok (.pop, 1) := by decide +kernel
theorem d_Doctype_readEntity_143 : decode b_Doctype_readEntity 143 = .ok (.aload_n 0, 1) := by decide +kernel
theorem d_Doctype_readEntity_144 : decode b_Doctype_readEntity 144 = .ok (.getfield 17, 3) := by decide +kernel
theorem d_Doctype_readEntity_147 : decode b_Doctype_readEntity 147 = .ok (.ldc 90, 2) := by decide +kernel
theorem d_Doctype_readEntity_149 : decode b_Doctype_readEntity 149 = .ok (.invokevirtual 53, 3) := by decide +kernel
theorem d_Doctype_readEntity_152 : decode b_Doctype_readEntity 152 = .ok (.iload 4, 2) := by decide +kernel
theorem d_Doctype_readEntity_154 : decode b_Doctype_readEntity 154 = .ok (.ifCond .ne 11, 3) := by decide +kernel
theorem d_Doctype_readEntity_157 : decode b_Doctype_readEntity 157 = .ok (.aload_n 0, 1) := by decide +kernel
theorem d_Doctype_readEntity_158 : decode b_Doctype_readEntity 158 = .ok (.getfield 17, 3) := by decide +kernel
theorem d_Doctype_readEntity_161 : decode b_Doctype_readEntity 161 = .ok (.iconst 3, 1) := by decide +kernel
theorem d_Doctype_readEntity_162 : decode b_Doctype_readEntity 162 = .ok (.invokevirtual 92, 3) := by decide +kernel
theorem d_Doctype_readEntity_165 : decode b_Doctype_readEntity 165 = .ok (.aload_n 0, 1) := by decide +kernel
theorem d_Doctype_readEntity_166 : decode b_Doctype_readEntity 166 = .ok (.getfield 17, 3) := by decide +kernel
theorem d_Doctype_readEntity_169 : decode b_Doctype_readEntity 169 = .ok (.getfield 140, 3) := by decide +kernel
theorem d_Doctype_readEntity_172 : decode b_Doctype_readEntity 172 = .ok (.ifCond .ne 43, 3) := by decide +kernel
theorem d_Doctype_readEntity_175 : decode b_Doctype_readEntity 175 = .ok (.aload_n 0, 1) := by decide +kernel
theorem d_Doctype_readEntity_176 : decode b_Doctype_readEntity 176 = .ok (.getfield 17, 3) := by decide +kernel
theorem d_Doctype_readEntity_179 : decode b_Doctype_readEntity 179 = .ok (.iload_n 2, 1) := by decide +kernel
theorem d_Doctype_readEntity_180 : decode b_Doctype_readEntity 180 = .ok (.iload_n 3, 1) := by decide +kernel
theorem d_Doctype_readEntity_181 : decode b_Doctype_readEntity 181 = .ok (.invokevirtual 251, 3) := by decide +kernel
theorem d_Doctype_readEntity_184 : decode b_Doctype_readEntity 184 = .ok (.aload_n 0, 1) := by decide +kernel
theorem d_Doctype_readEntity_185 : decode b_Doctype_readEntity 185 = .ok (.getfield 21, 3) := by decide +kernel
theorem d_Doctype_readEntity_188 : decode b_Doctype_readEntity 188 = .ok (.aload_n 0, 1) := by decide +kernel
theorem d_Doctype_readEntity_189 : decode b_Doctype_readEntity 189 = .ok (.getfield 11, 3) := by decide +kernel
theorem d_Doctype_readEntity_192 : decode b_Doctype_readEntity 192 = .ok (.iload_n 2, 1) := by decide +kernel
theorem d_Doctype_readEntity_193 : decode b_Doctype_readEntity 193 = .ok (.iload_n 3, 1) := by decide +kernel
theorem d_Doctype_readEntity_194 : decode b_Doctype_readEntity 194 = .ok (.invokevirtual 96, 3) := by decide +kernel
theorem d_Doctype_readEntity_197 : decode b_Doctype_readEntity 197 = .ok (.iload_n 1, 1) := by decide +kernel
theorem d_Doctype_readEntity_198 : decode b_Doctype_readEntity 198 = .ok (.aload_n 0, 1) := by decide +kernel
theorem d_Doctype_readEntity_199 : decode b_Doctype_readEntity 199 = .ok (.getfield 17, 3) := by decide +kernel
theorem d_Doctype_readEntity_202 : decode b_Doctype_readEntity 202 = .ok (.getfield 255, 3) := by decide +kernel
theorem d_Doctype_readEntity_205 : decode b_Doctype_readEntity 205 = .ok (.aload_n 0, 1) := by decide +kernel
theorem d_Doctype_readEntity_206 : decode b_Doctype_readEntity 206 = .ok (.getfield 17, 3) := by decide +kernel
theorem d_Doctype_readEntity_209 : decode b_Doctype_readEntity 209 = .ok (.getfield 258, 3) := by decide +kernel
theorem d_Doctype_readEntity_212 : decode b_Doctype_readEntity 212 = .ok (.invokevirtual 261, 3) := by decide +kernel
theorem d_Doctype_readEntity_215 : decode b_Doctype_readEntity 215 = .ok (.return_, 1) := by decide +kernel
/-- Doctype_readEntity -/
def w_Doctype_readEntity (L : Nat → Nat)  (Q : IS → Prop) (σ : IS) : Prop := w_Reader_need L 1030 (fun σ1 => w_Reader_needSpace L  (fun σ3 => w_Reader_skip L 1033 (fun v6 σ5 => WJ (fun (s9 : Unit) (σ10 : IS) => w_Reader_readName L  (fun v12 σ11 => inR ((σ11.1 2 2) - v12) ∧ w_Reader_needSpace L  (fun σ13 => w_Reader_atQuote L  (fun v16 σ15 => WJ (fun (s19 : Unit) (σ20 : IS) => w_Reader_skipSpace L  (fun v22 σ21 => w_Reader_need L 1025 (fun σ23 => WJ (fun (s27 : Unit) (σ28 : IS) => WJ (fun (s31 : Unit) (σ32 : IS) => Q σ32) (fun J29 => if (σ28.1 2 4) = 0 then w_Reader_lookForColon L v12 ((σ11.1 2 2) - v12) (fun σ34 => w_Store_intern L v12 ((σ11.1 2 2) - v12) (fun v37 σ36 => w_Entities_declare L v37 v6 (σ36.1 2 10) (σ36.1 2 11) (fun σ38 => J29 () σ38) σ36) σ34) σ28 else J29 () σ28)) (fun J25 => if v16 = 0 then w_Reader_fail L 3 (fun σ41 => J25 () σ41) σ23 else J25 () σ23)) σ21) σ20) (fun J17 => if v16 = 0 then w_Reader_readOutside L 0 (fun σ44 => w_Reader_skipSpace L  (fun v47 σ46 => if ¬ v47 = 0 ∧ (v6 = 0) then w_Reader_skip L 1045 (fun v49 σ48 => if v49 = 0 then J17 () σ48 else w_Reader_needSpace L  (fun σ51 => w_Reader_readName L  (fun v54 σ53 => J17 () σ53) σ51) σ48) σ46 else J17 () σ46) σ44) σ15 else w_Reader_checkEntityText L  (fun σ60 => J17 () σ60) σ15)) σ13) σ11) σ10) (fun J7 => if v6 = 0 then J7 () σ5 else w_Reader_needSpace L  (fun σ64 => J7 () σ64) σ5)) σ3) σ1) σ
set_option maxHeartbeats 4000000 in
set_option maxRecDepth 20000 in
theorem s_Doctype_readEntity {L : Nat → Nat} (hL : ∀ r, L r < 2147483648) {d : Nat} (hd : 4 ≤ d)  {Q : IS → Prop} {σ : IS}  (h : w_Doctype_readEntity L  Q σ) : OkI BF L d 5 b_Doctype_readEntity 5 0 0 [] [some (.inr 5)] σ (qv Q) := by
  unfold w_Doctype_readEntity at h
  obtain ⟨d, rfl⟩ : ∃ e, d = e + 1 := ⟨d - 1, by omega⟩
  refine k_sb (lv' := [some (.inr 5), none, none, none, none]) (sb_s (sb_e (sb_e (sb_e (sb_e sb_nil))))) ?_
  refine k_aload_n d_Doctype_readEntity_0 rfl ?_
  refine k_getR d_Doctype_readEntity_1 fl_5_17 ob_5 rfl ?_
  refine k_ldc d_Doctype_readEntity_4 ks_5_143 rfl ?_
  refine k_cvv [.inr 1030] d_Doctype_readEntity_6 ml_5_53 rfl rfl ob_2 rfl (s_Reader_need hL (by omega) it_1030 h) (fun σ1 h => ?_)
  refine k_aload_n d_Doctype_readEntity_9 rfl ?_
  refine k_getR d_Doctype_readEntity_10 fl_5_17 ob_5 rfl ?_
  refine k_cvv [] d_Doctype_readEntity_13 ml_5_59 rfl rfl ob_2 rfl (s_Reader_needSpace hL (by omega)  h) (fun σ3 h => ?_)
  refine k_aload_n d_Doctype_readEntity_16 rfl ?_
  refine k_getR d_Doctype_readEntity_17 fl_5_17 ob_5 rfl ?_
  refine k_ldc d_Doctype_readEntity_20 ks_5_155 rfl ?_
  refine k_cvi [.inr 1033] d_Doctype_readEntity_22 ml_5_87 rfl rfl ob_2 rfl (s_Reader_skip hL (by omega) it_1033 h) (fun v6 σ5 h => ?_)
  refine k_istore_n (lv' := [some (.inr 5), some (.inl v6), none, none, none]) d_Doctype_readEntity_25 rfl rfl ?_
  refine k_iload_n d_Doctype_readEntity_26 rfl ?_
  refine k_join (S := Unit) (pc' := 37) (st' := fun s9 => []) (lv' := fun s9 => [some (.inr 5), some (.inl v6), none, none, none]) (fun s9 σ10 h => ?_) (fun J7 hJ8 h => ?_) h
  · refine k_aload_n d_Doctype_readEntity_37 rfl ?_
    refine k_getR d_Doctype_readEntity_38 fl_5_17 ob_5 rfl ?_
    refine k_cvi [] d_Doctype_readEntity_41 ml_5_62 rfl rfl ob_2 rfl (s_Reader_readName hL (by omega)  h) (fun v12 σ11 h => ?_)
    refine k_istore_n (lv' := [some (.inr 5), some (.inl v6), some (.inl v12), none, none]) d_Doctype_readEntity_44 rfl rfl ?_
    refine k_aload_n d_Doctype_readEntity_45 rfl ?_
    refine k_getR d_Doctype_readEntity_46 fl_5_17 ob_5 rfl ?_
    refine k_getI (x := (σ11.1 2 2)) d_Doctype_readEntity_49 fl_5_66 ob_2 rfl rfl ?_
    refine k_iload_n d_Doctype_readEntity_52 rfl ?_
    obtain ⟨p62, h⟩ := h
    refine k_isub d_Doctype_readEntity_53 p62 ?_
    refine k_istore_n (lv' := [some (.inr 5), some (.inl v6), some (.inl v12), some (.inl ((σ11.1 2 2) - v12)), none]) d_Doctype_readEntity_54 rfl rfl ?_
    refine k_aload_n d_Doctype_readEntity_55 rfl ?_
    refine k_getR d_Doctype_readEntity_56 fl_5_17 ob_5 rfl ?_
    refine k_cvv [] d_Doctype_readEntity_59 ml_5_59 rfl rfl ob_2 rfl (s_Reader_needSpace hL (by omega)  h) (fun σ13 h => ?_)
    refine k_aload_n d_Doctype_readEntity_62 rfl ?_
    refine k_getR d_Doctype_readEntity_63 fl_5_17 ob_5 rfl ?_
    refine k_cvi [] d_Doctype_readEntity_66 ml_5_243 rfl rfl ob_2 rfl (s_Reader_atQuote hL (by omega)  h) (fun v16 σ15 h => ?_)
    refine k_istore (lv' := [some (.inr 5), some (.inl v6), some (.inl v12), some (.inl ((σ11.1 2 2) - v12)), some (.inl v16)]) d_Doctype_readEntity_69 rfl rfl ?_
    refine k_iload d_Doctype_readEntity_71 rfl ?_
    refine k_join (S := Unit) (pc' := 135) (st' := fun s19 => []) (lv' := fun s19 => [some (.inr 5), some (.inl v6), some (.inl v12), some (.inl ((σ11.1 2 2) - v12)), some (.inl v16)]) (fun s19 σ20 h => ?_) (fun J17 hJ18 h => ?_) h
    · refine k_aload_n d_Doctype_readEntity_135 rfl ?_
      refine k_getR d_Doctype_readEntity_136 fl_5_17 ob_5 rfl ?_
      refine k_cvi [] d_Doctype_readEntity_139 ml_5_69 rfl rfl ob_2 rfl (s_Reader_skipSpace hL (by omega)  h) (fun v22 σ21 h => ?_)
      refine k_pop d_Doctype_readEntity_142 ?_
      refine k_aload_n d_Doctype_readEntity_143 rfl ?_
      refine k_getR d_Doctype_readEntity_144 fl_5_17 ob_5 rfl ?_
      refine k_ldc d_Doctype_readEntity_147 ks_5_90 rfl ?_
      refine k_cvv [.inr 1025] d_Doctype_readEntity_149 ml_5_53 rfl rfl ob_2 rfl (s_Reader_need hL (by omega) it_1025 h) (fun σ23 h => ?_)
      refine k_iload d_Doctype_readEntity_152 rfl ?_
      refine k_join (S := Unit) (pc' := 165) (st' := fun s27 => []) (lv' := fun s27 => [some (.inr 5), some (.inl v6), some (.inl v12), some (.inl ((σ11.1 2 2) - v12)), none]) (fun s27 σ28 h => ?_) (fun J25 hJ26 h => ?_) h
      · refine k_aload_n d_Doctype_readEntity_165 rfl ?_
        refine k_getR d_Doctype_readEntity_166 fl_5_17 ob_5 rfl ?_
        refine k_getI (x := (σ28.1 2 4)) d_Doctype_readEntity_169 fl_5_140 ob_2 rfl rfl ?_
        refine k_join (S := Unit) (pc' := 215) (st' := fun s31 => []) (lv' := fun s31 => [none, none, none, none, none]) (fun s31 σ32 h => ?_) (fun J29 hJ30 h => ?_) h
        · exact k_ret d_Doctype_readEntity_215 h
        · refine k_ifne d_Doctype_readEntity_172 rfl (fun c33 => ?_) (fun c33 => ?_)
          · have h := ineg c33 h
            exact k_sb (sb_n (sb_n (sb_n (sb_n (sb_s sb_nil))))) (hJ30 () _ h)
          · have h := ipos c33 h
            refine k_aload_n d_Doctype_readEntity_175 rfl ?_
            refine k_getR d_Doctype_readEntity_176 fl_5_17 ob_5 rfl ?_
            refine k_iload_n d_Doctype_readEntity_179 rfl ?_
            refine k_iload_n d_Doctype_readEntity_180 rfl ?_
            refine k_cvv [.inl v12, .inl ((σ11.1 2 2) - v12)] d_Doctype_readEntity_181 ml_5_251 rfl rfl ob_2 rfl (s_Reader_lookForColon hL (by omega)  h) (fun σ34 h => ?_)
            refine k_aload_n d_Doctype_readEntity_184 rfl ?_
            refine k_getR d_Doctype_readEntity_185 fl_5_21 ob_5 rfl ?_
            refine k_aload_n d_Doctype_readEntity_188 rfl ?_
            refine k_getR d_Doctype_readEntity_189 fl_5_11 ob_5 rfl ?_
            refine k_iload_n d_Doctype_readEntity_192 rfl ?_
            refine k_iload_n d_Doctype_readEntity_193 rfl ?_
            refine k_cvi [.inl v12, .inl ((σ11.1 2 2) - v12)] d_Doctype_readEntity_194 ml_5_96 rfl rfl ob_1 rfl (s_Store_intern hL (by omega) stB_BF h) (fun v37 σ36 h => ?_)
            refine k_iload_n d_Doctype_readEntity_197 rfl ?_
            refine k_aload_n d_Doctype_readEntity_198 rfl ?_
            refine k_getR d_Doctype_readEntity_199 fl_5_17 ob_5 rfl ?_
            refine k_getI (x := (σ36.1 2 10)) d_Doctype_readEntity_202 fl_5_255 ob_2 rfl rfl ?_
            refine k_aload_n d_Doctype_readEntity_205 rfl ?_
            refine k_getR d_Doctype_readEntity_206 fl_5_17 ob_5 rfl ?_
            refine k_getI (x := (σ36.1 2 11)) d_Doctype_readEntity_209 fl_5_258 ob_2 rfl rfl ?_
            refine k_cvv [.inl v37, .inl v6, .inl (σ36.1 2 10), .inl (σ36.1 2 11)] d_Doctype_readEntity_212 ml_5_261 rfl rfl ob_3 rfl (s_Entities_declare hL (by omega)  h) (fun σ38 h => ?_)
            exact k_sb (sb_n (sb_n (sb_n (sb_n (sb_s sb_nil))))) (hJ30 () _ h)
      · refine k_ifne d_Doctype_readEntity_154 rfl (fun c40 => ?_) (fun c40 => ?_)
        · have h := ineg c40 h
          exact k_sb (sb_s (sb_s (sb_s (sb_s (sb_n sb_nil))))) (hJ26 () _ h)
        · have h := ipos c40 h
          refine k_aload_n d_Doctype_readEntity_157 rfl ?_
          refine k_getR d_Doctype_readEntity_158 fl_5_17 ob_5 rfl ?_
          refine k_iconst d_Doctype_readEntity_161 cI_3 ?_
          refine k_cvv [.inl 3] d_Doctype_readEntity_162 ml_5_92 rfl rfl ob_2 rfl (s_Reader_fail hL (by omega)  h) (fun σ41 h => ?_)
          exact k_sb (sb_s (sb_s (sb_s (sb_s (sb_n sb_nil))))) (hJ26 () _ h)
    · refine k_ifeq d_Doctype_readEntity_73 rfl (fun c43 => ?_) (fun c43 => ?_)
      · have h := ipos c43 h
        refine k_aload_n d_Doctype_readEntity_86 rfl ?_
        refine k_getR d_Doctype_readEntity_87 fl_5_17 ob_5 rfl ?_
        refine k_iconst d_Doctype_readEntity_90 cI_0 ?_
        refine k_cvv [.inl 0] d_Doctype_readEntity_91 ml_5_81 rfl rfl ob_2 rfl (s_Reader_readOutside hL (by omega)  h) (fun σ44 h => ?_)
        refine k_aload_n d_Doctype_readEntity_94 rfl ?_
        refine k_getR d_Doctype_readEntity_95 fl_5_17 ob_5 rfl ?_
        refine k_cvi [] d_Doctype_readEntity_98 ml_5_69 rfl rfl ob_2 rfl (s_Reader_skipSpace hL (by omega)  h) (fun v47 σ46 h => ?_)
        have hX55 : (¬ v47 = 0 ∧ (v6 = 0)) → OkI BF L (d + 1) 5 b_Doctype_readEntity 5 0 108 [] [some (.inr 5), some (.inl v6), some (.inl v12), some (.inl ((σ11.1 2 2) - v12)), some (.inl v16)] σ46 (qv Q) := fun e57 => by
          have h := ipos e57 h
          refine k_aload_n d_Doctype_readEntity_108 rfl ?_
          refine k_getR d_Doctype_readEntity_109 fl_5_17 ob_5 rfl ?_
          refine k_ldc d_Doctype_readEntity_112 ks_5_249 rfl ?_
          refine k_cvi [.inr 1045] d_Doctype_readEntity_114 ml_5_87 rfl rfl ob_2 rfl (s_Reader_skip hL (by omega) it_1045 h) (fun v49 σ48 h => ?_)
          refine k_ifeq d_Doctype_readEntity_117 rfl (fun c50 => ?_) (fun c50 => ?_)
          · have h := ipos c50 h
            exact k_sb (sb_s (sb_s (sb_s (sb_s (sb_s sb_nil))))) (hJ18 () _ h)
          · have h := ineg c50 h
            refine k_aload_n d_Doctype_readEntity_120 rfl ?_
            refine k_getR d_Doctype_readEntity_121 fl_5_17 ob_5 rfl ?_
            refine k_cvv [] d_Doctype_readEntity_124 ml_5_59 rfl rfl ob_2 rfl (s_Reader_needSpace hL (by omega)  h) (fun σ51 h => ?_)
            refine k_aload_n d_Doctype_readEntity_127 rfl ?_
            refine k_getR d_Doctype_readEntity_128 fl_5_17 ob_5 rfl ?_
            refine k_cvi [] d_Doctype_readEntity_131 ml_5_62 rfl rfl ob_2 rfl (s_Reader_readName hL (by omega)  h) (fun v54 σ53 h => ?_)
            refine k_pop d_Doctype_readEntity_134 ?_
            exact k_sb (sb_s (sb_s (sb_s (sb_s (sb_s sb_nil))))) (hJ18 () _ h)
        have hY56 : ¬ (¬ v47 = 0 ∧ (v6 = 0)) → OkI BF L (d + 1) 5 b_Doctype_readEntity 5 0 135 [] [some (.inr 5), some (.inl v6), some (.inl v12), some (.inl ((σ11.1 2 2) - v12)), some (.inl v16)] σ46 (qv Q) := fun e57 => by
          have h := ineg e57 h
          exact k_sb (sb_s (sb_s (sb_s (sb_s (sb_s sb_nil))))) (hJ18 () _ h)
        refine k_ifeq d_Doctype_readEntity_101 rfl (fun c58 => ?_) (fun c58 => ?_)
        · exact hY56 (fun z => z.1 c58)
        · refine k_iload_n d_Doctype_readEntity_104 rfl ?_
          refine k_ifne d_Doctype_readEntity_105 rfl (fun c59 => ?_) (fun c59 => ?_)
          · exact hY56 (fun z => (c59) z.2)
          · exact hX55 (⟨c58, c59⟩)
      · have h := ineg c43 h
        refine k_aload_n d_Doctype_readEntity_76 rfl ?_
        refine k_getR d_Doctype_readEntity_77 fl_5_17 ob_5 rfl ?_
        refine k_cvv [] d_Doctype_readEntity_80 ml_5_246 rfl rfl ob_2 rfl (s_Reader_checkEntityText hL (by omega)  h) (fun σ60 h => ?_)
        refine k_goto d_Doctype_readEntity_83 rfl ?_
        exact k_sb (sb_s (sb_s (sb_s (sb_s (sb_s sb_nil))))) (hJ18 () _ h)
  · refine k_ifeq d_Doctype_readEntity_27 rfl (fun c63 => ?_) (fun c63 => ?_)
    · have h := ipos c63 h
      exact k_sb (sb_s (sb_s (sb_s (sb_s (sb_s sb_nil))))) (hJ8 () _ h)
    · have h := ineg c63 h
      refine k_aload_n d_Doctype_readEntity_30 rfl ?_
      refine k_getR d_Doctype_readEntity_31 fl_5_17 ob_5 rfl ?_
      refine k_cvv [] d_Doctype_readEntity_34 ml_5_59 rfl rfl ob_2 rfl (s_Reader_needSpace hL (by omega)  h) (fun σ64 h => ?_)
      exact k_sb (sb_s (sb_s (sb_s (sb_s (sb_s sb_nil))))) (hJ8 () _ h)
theorem d_Declared_addNotation_0 : decode b_Declared_addNotation 0 = .ok (.aload_n 0, 1) := by decide +kernel
theorem d_Declared_addNotation_1 : decode b_Declared_addNotation 1 = .ok (.dup, 1) := by decide +kernel
theorem d_Declared_addNotation_2 : decode b_Declared_addNotation 2 = .ok (.getfield 78, 3) := by decide +kernel
theorem d_Declared_addNotation_5 : decode b_Declared_addNotation 5 = .ok (.aload_n 0, 1) := by decide +kernel
theorem d_Declared_addNotation_6 : decode b_Declared_addNotation 6 = .ok (.getfield 60, 3) := by decide +kernel
theorem d_Declared_addNotation_9 : decode b_Declared_addNotation 9 = .ok (.iload_n 1, 1) := by decide +kernel
theorem d_Declared_addNotation_10 : decode b_Declared_addNotation 10 = .ok (.iaload, 1) := by decide +kernel
theorem d_Declared_addNotation_11 : decode b_Declared_addNotation 11 = .ok (.iadd, 1) := by decide +kernel
theorem d_Declared_addNotation_12 : decode b_Declared_addNotation 12 = .ok (.putfield 78, 3) := by decide +kernel
theorem d_Declared_addNotation_15 : decode b_Declared_addNotation 15 = .ok (.aload_n 0, 1) := by decide +kernel
theorem d_Declared_addNotation_16 : decode b_Declared_addNotation 16 = .ok (.getfield 60, 3) := by decide +kernel
theorem d_Declared_addNotation_19 : decode b_Declared_addNotation 19 = .ok (.iload_n 1, 1) := by decide +kernel
theorem d_Declared_addNotation_20 : decode b_Declared_addNotation 20 = .ok (.iconst 1, 1) := by decide +kernel
theorem d_Declared_addNotation_21 : decode b_Declared_addNotation 21 = .ok (.iastore, 1) := by decide +kernel
theorem d_Declared_addNotation_22 : decode b_Declared_addNotation 22 = .ok (.return_, 1) := by decide +kernel
/-- Declared_addNotation -/
def w_Declared_addNotation (L : Nat → Nat) (a1 : Int) (Q : IS → Prop) (σ : IS) : Prop := inL L 127 a1 ∧ inR ((σ.1 4 18) + (σ.2 127 (Int.toNat a1))) ∧ inL L 127 a1 ∧ Q (pr (pf σ 4 18 ((σ.1 4 18) + (σ.2 127 (Int.toNat a1)))) 127 (Int.toNat a1) 1)
set_option maxHeartbeats 4000000 in
set_option maxRecDepth 20000 in
theorem s_Declared_addNotation {L : Nat → Nat} (hL : ∀ r, L r < 2147483648) {d : Nat} (hd : 0 ≤ d) {a1 : Int} {Q : IS → Prop} {σ : IS}  (h : w_Declared_addNotation L a1 Q σ) : OkI BF L d 4 b_Declared_addNotation 2 0 0 [] [some (.inr 4), some (.inl a1)] σ (qv Q) := by
  unfold w_Declared_addNotation at h
  refine k_sb (lv' := [some (.inr 4), some (.inl a1)]) (sb_s (sb_s sb_nil)) ?_
  refine k_aload_n d_Declared_addNotation_0 rfl ?_
  refine k_dup d_Declared_addNotation_1 ?_
  refine k_getI (x := (σ.1 4 18)) d_Declared_addNotation_2 fl_4_78 ob_4 rfl rfl ?_
  refine k_aload_n d_Declared_addNotation_5 rfl ?_
  refine k_getR d_Declared_addNotation_6 fl_4_60 ob_4 rfl ?_
  refine k_iload_n d_Declared_addNotation_9 rfl ?_
  obtain ⟨p3, h⟩ := h
  refine k_ild (x := (σ.2 127 (Int.toNat a1))) d_Declared_addNotation_10 rI_127 p3 rfl ?_
  obtain ⟨p2, h⟩ := h
  refine k_iadd d_Declared_addNotation_11 p2 ?_
  refine k_putI d_Declared_addNotation_12 fl_4_78 ob_4 rfl ?_
  refine k_aload_n d_Declared_addNotation_15 rfl ?_
  refine k_getR d_Declared_addNotation_16 fl_4_60 ob_4 rfl ?_
  refine k_iload_n d_Declared_addNotation_19 rfl ?_
  refine k_iconst d_Declared_addNotation_20 cI_1 ?_
  obtain ⟨p1, h⟩ := h
  refine k_ist d_Declared_addNotation_21 rI_127 p1 ?_
  exact k_ret d_Declared_addNotation_22 h
theorem d_Doctype_readNotation_0 : decode b_Doctype_readNotation 0 = .ok (.aload_n 0, 1) := by decide +kernel
theorem d_Doctype_readNotation_1 : decode b_Doctype_readNotation 1 = .ok (.getfield 17, 3) := by decide +kernel
theorem d_Doctype_readNotation_4 : decode b_Doctype_readNotation 4 = .ok (.ldc 148, 2) := by decide +kernel
theorem d_Doctype_readNotation_6 : decode b_Doctype_readNotation 6 = .ok (.invokevirtual 53, 3) := by decide +kernel
theorem d_Doctype_readNotation_9 : decode b_Doctype_readNotation 9 = .ok (.aload_n 0, 1) := by decide +kernel
theorem d_Doctype_readNotation_10 : decode b_Doctype_readNotation 10 = .ok (.getfield 17, 3) := by decide +kernel
theorem d_Doctype_readNotation_13 : decode b_Doctype_readNotation 13 = .ok (.invokevirtual 59, 3) := by decide +kernel
theorem d_Doctype_readNotation_16 : decode b_Doctype_readNotation 16 = .ok (.aload_n 0, 1) := by decide +kernel
theorem d_Doctype_readNotation_17 : decode b_Doctype_readNotation 17 = .ok (.getfield 17, 3) := by decide +kernel
theorem d_Doctype_readNotation_20 : decode b_Doctype_readNotation 20 = .ok (.invokevirtual 62, 3) := by decide +kernel
theorem d_Doctype_readNotation_23 : decode b_Doctype_readNotation 23 = .ok (.istore_n 1, 1) := by decide +kernel
theorem d_Doctype_readNotation_24 : decode b_Doctype_readNotation 24 = .ok (.aload_n 0, 1) := by decide +kernel
theorem d_Doctype_readNotation_25 : decode b_Doctype_readNotation 25 = .ok (.getfield 17, 3) := by decide +kernel
theorem d_Doctype_readNotation_28 : decode b_Doctype_readNotation 28 = .ok (.getfield 66, 3) := by decide +kernel
theorem d_Doctype_readNotation_31 : decode b_Doctype_readNotation 31 = .ok (.iload_n 1, 1) := by decide +kernel
theorem d_Doctype_readNotation_32 : decode b_Doctype_readNotation 32 = .ok (.isub, 1) := by decide +kernel
theorem d_Doctype_readNotation_33 : decode b_Doctype_readNotation 33 = .ok (.istore_n 2, 1) := by decide +kernel
theorem d_Doctype_readNotation_34 : decode b_Doctype_readNotation 34 = .ok (.aload_n 0, 1) := by decide +kernel
theorem d_Doctype_readNotation_35 : decode b_Doctype_readNotation 35 = .ok (.getfield 17, 3) := by decide +kernel
theorem d_Doctype_readNotation_38 : decode b_Doctype_readNotation 38 = .ok (.invokevirtual 59, 3) := by decide +kernel
theorem d_Doctype_readNotation_41 : decode b_Doctype_readNotation 41 = .ok (.aload_n 0, 1) := by decide +kernel
theorem d_Doctype_readNotation_42 : decode b_Doctype_readNotation 42 = .ok (.getfield 17, 3) := by decide +kernel
theorem d_Doctype_readNotation_45 : decode b_Doctype_readNotation 45 = .ok (.iconst 1, 1) := by decide +kernel
theorem d_Doctype_readNotation_46 : decode b_Doctype_readNotation 46 = .ok (.invokevirtual 81, 3) := by decide +kernel
theorem d_Doctype_readNotation_49 : decode b_Doctype_readNotation 49 = .ok (.aload_n 0, 1) := by decide +kernel
theorem d_Doctype_readNotation_50 : decode b_Doctype_readNotation 50 = .ok (.getfield 17, 3) := by decide +kernel
theorem d_Doctype_readNotation_53 : decode b_Doctype_readNotation 53 = .ok (.invokevirtual 69, 3) := by decide +kernel
theorem d_Doctype_readNotation_56 : decode b_Doctype_readNotation 56 = .ok (.pop, 1) := by decide +kernel
theorem d_Doctype_readNotation_57 : decode b_Doctype_readNotation 57 = .ok (.aload_n 0, 1) := by decide +kernel
theorem d_Doctype_readNotation_58 : decode b_Doctype_readNotation 58 = .ok (.getfield 17, 3) := by decide +kernel
theorem d_Doctype_readNotation_61 : decode b_Doctype_readNotation 61 = .ok (.ldc 90, 2) := by decide +kernel
theorem d_Doctype_readNotation_63 : decode b_Doctype_readNotation 63 = .ok (.invokevirtual 53, 3) := by decide +kernel
theorem d_Doctype_readNotation_66 : decode b_Doctype_readNotation 66 = .ok (.aload_n 0, 1) := by decide +kernel
theorem d_Doctype_readNotation_67 : decode b_Doctype_readNotation 67 = .ok (.getfield 17, 3) := by decide +kernel
theorem d_Doctype_readNotation_70 : decode b_Doctype_readNotation 70 = .ok (.getfield 140, 3) := by decide +kernel
theorem d_Doctype_readNotation_73 : decode b_Doctype_readNotation 73 = .ok (.ifCond .ne 28, 3) := by decide +kernel
theorem d_Doctype_readNotation_76 : decode b_Doctype_readNotation 76 = .ok (.aload_n 0, 1) := by decide +kernel
theorem d_Doctype_readNotation_77 : decode b_Doctype_readNotation 77 = .ok (.getfield 17, 3) := by decide +kernel
theorem d_Doctype_readNotation_80 : decode b_Doctype_readNotation 80 = .ok (.iload_n 1, 1) := by decide +kernel
theorem d_Doctype_readNotation_81 : decode b_Doctype_readNotation 81 = .ok (.iload_n 2, 1) := by decide +kernel
theorem d_Doctype_readNotation_82 : decode b_Doctype_readNotation 82 = .ok (.invokevirtual 251, 3) := by decide +kernel
theorem d_Doctype_readNotation_85 : decode b_Doctype_readNotation 85 = .ok (.aload_n 0, 1) := by decide +kernel
theorem d_Doctype_readNotation_86 : decode b_Doctype_readNotation 86 = .ok (.getfield 25, 3) := by decide +kernel
theorem d_Doctype_readNotation_89 : decode b_Doctype_readNotation 89 = .ok (.aload_n 0, 1) := by decide +kernel
theorem d_Doctype_readNotation_90 : decode b_Doctype_readNotation 90 = .ok (.getfield 11, 3) := by decide +kernel
theorem d_Doctype_readNotation_93 : decode b_Doctype_readNotation 93 = .ok (.iload_n 1, 1) := by decide +kernel
theorem d_Doctype_readNotation_94 : decode b_Doctype_readNotation 94 = .ok (.iload_n 2, 1) := by decide +kernel
theorem d_Doctype_readNotation_95 : decode b_Doctype_readNotation 95 = .ok (.invokevirtual 96, 3) := by decide +kernel
theorem d_Doctype_readNotation_98 : decode b_Doctype_readNotation 98 = .ok (.invokevirtual 265, 3) := by decide +kernel
theorem d_Doctype_readNotation_101 : decode b_Doctype_readNotation 101 = .ok (.return_, 1) := by decide +kernel
/-- Doctype_readNotation -/
def w_Doctype_readNotation (L : Nat → Nat)  (Q : IS → Prop) (σ : IS) : Prop := w_Reader_need L 1031 (fun σ1 => w_Reader_needSpace L  (fun σ3 => w_Reader_readName L  (fun v6 σ5 => inR ((σ5.1 2 2) - v6) ∧ w_Reader_needSpace L  (fun σ7 => w_Reader_readOutside L 1 (fun σ9 => w_Reader_skipSpace L  (fun v12 σ11 => w_Reader_need L 1025 (fun σ13 => WJ (fun (s17 : Unit) (σ18 : IS) => Q σ18) (fun J15 => if (σ13.1 2 4) = 0 then w_Reader_lookForColon L v6 ((σ5.1 2 2) - v6) (fun σ20 => w_Store_intern L v6 ((σ5.1 2 2) - v6) (fun v23 σ22 => w_Declared_addNotation L v23 (fun σ24 => J15 () σ24) σ22) σ20) σ13 else J15 () σ13)) σ11) σ9) σ7) σ5) σ3) σ1) σ
set_option maxHeartbeats 4000000 in
set_option maxRecDepth 20000 in
theorem s_Doctype_readNotation {L : Nat → Nat} (hL : ∀ r, L r < 2147483648) {d : Nat} (hd : 4 ≤ d)  {Q : IS → Prop} {σ : IS}  (h : w_Doctype_readNotation L  Q σ) : OkI BF L d 5 b_Doctype_readNotation 3 0 0 [] [some (.inr 5)] σ (qv Q) := by
  unfold w_Doctype_readNotation at h
  obtain ⟨d, rfl⟩ : ∃ e, d = e + 1 := ⟨d - 1, by omega⟩
  refine k_sb (lv' := [some (.inr 5), none, none]) (sb_s (sb_e (sb_e sb_nil))) ?_
  refine k_aload_n d_Doctype_readNotation_0 rfl ?_
  refine k_getR d_Doctype_readNotation_1 fl_5_17 ob_5 rfl ?_
  refine k_ldc d_Doctype_readNotation_4 ks_5_148 rfl ?_
  refine k_cvv [.inr 1031] d_Doctype_readNotation_6 ml_5_53 rfl rfl ob_2 rfl (s_Reader_need hL (by omega) it_1031 h) (fun σ1 h => ?_)
  refine k_aload_n d_Doctype_readNotation_9 rfl ?_
  refine k_getR d_Doctype_readNotation_10 fl_5_17 ob_5 rfl ?_
  refine k_cvv [] d_Doctype_readNotation_13 ml_5_59 rfl rfl ob_2 rfl (s_Reader_needSpace hL (by omega)  h) (fun σ3 h => ?_)
  refine k_aload_n d_Doctype_readNotation_16 rfl ?_
  refine k_getR d_Doctype_readNotation_17 fl_5_17 ob_5 rfl ?_
  refine k_cvi [] d_Doctype_readNotation_20 ml_5_62 rfl rfl ob_2 rfl (s_Reader_readName hL (by omega)  h) (fun v6 σ5 h => ?_)
  refine k_istore_n (lv' := [some (.inr 5), some (.inl v6), none]) d_Doctype_readNotation_23 rfl rfl ?_
  refine k_aload_n d_Doctype_readNotation_24 rfl ?_
  refine k_getR d_Doctype_readNotation_25 fl_5_17 ob_5 rfl ?_
  refine k_getI (x := (σ5.1 2 2)) d_Doctype_readNotation_28 fl_5_66 ob_2 rfl rfl ?_
  refine k_iload_n d_Doctype_readNotation_31 rfl ?_
  obtain ⟨p26, h⟩ := h
  refine k_isub d_Doctype_readNotation_32 p26 ?_
  refine k_istore_n (lv' := [some (.inr 5), some (.inl v6), some (.inl ((σ5.1 2 2) - v6))]) d_Doctype_readNotation_33 rfl rfl ?_
  refine k_aload_n d_Doctype_readNotation_34 rfl ?_
  refine k_getR d_Doctype_readNotation_35 fl_5_17 ob_5 rfl ?_
  refine k_cvv [] d_Doctype_readNotation_38 ml_5_59 rfl rfl ob_2 rfl (s_Reader_needSpace hL (by omega)  h) (fun σ7 h => ?_)
  refine k_aload_n d_Doctype_readNotation_41 rfl ?_
  refine k_getR d_Doctype_readNotation_42 fl_5_17 ob_5 rfl ?_
  refine k_iconst d_Doctype_readNotation_45 cI_1 ?_
  refine k_cvv [.inl 1] d_Doctype_readNotation_46 ml_5_81 rfl rfl ob_2 rfl (s_Reader_readOutside hL (by omega)  h) (fun σ9 h => ?_)
  refine k_aload_n d_Doctype_readNotation_49 rfl ?_
  refine k_getR d_Doctype_readNotation_50 fl_5_17 ob_5 rfl ?_
  refine k_cvi [] d_Doctype_readNotation_53 ml_5_69 rfl rfl ob_2 rfl (s_Reader_skipSpace hL (by omega)  h) (fun v12 σ11 h => ?_)
  refine k_pop d_Doctype_readNotation_56 ?_
  refine k_aload_n d_Doctype_readNotation_57 rfl ?_
  refine k_getR d_Doctype_readNotation_58 fl_5_17 ob_5 rfl ?_
  refine k_ldc d_Doctype_readNotation_61 ks_5_90 rfl ?_
  refine k_cvv [.inr 1025] d_Doctype_readNotation_63 ml_5_53 rfl rfl ob_2 rfl (s_Reader_need hL (by omega) it_1025 h) (fun σ13 h => ?_)
  refine k_aload_n d_Doctype_readNotation_66 rfl ?_
  refine k_getR d_Doctype_readNotation_67 fl_5_17 ob_5 rfl ?_
  refine k_getI (x := (σ13.1 2 4)) d_Doctype_readNotation_70 fl_5_140 ob_2 rfl rfl ?_
  refine k_join (S := Unit) (pc' := 101) (st' := fun s17 => []) (lv' := fun s17 => [none, none, none]) (fun s17 σ18 h => ?_) (fun J15 hJ16 h => ?_) h
  · exact k_ret d_Doctype_readNotation_101 h
  · refine k_ifne d_Doctype_readNotation_73 rfl (fun c19 => ?_) (fun c19 => ?_)
    · have h := ineg c19 h
      exact k_sb (sb_n (sb_n (sb_n sb_nil))) (hJ16 () _ h)
    · have h := ipos c19 h
      refine k_aload_n d_Doctype_readNotation_76 rfl ?_
      refine k_getR d_Doctype_readNotation_77 fl_5_17 ob_5 rfl ?_
      refine k_iload_n d_Doctype_readNotation_80 rfl ?_
      refine k_iload_n d_Doctype_readNotation_81 rfl ?_
      refine k_cvv [.inl v6, .inl ((σ5.1 2 2) - v6)] d_Doctype_readNotation_82 ml_5_251 rfl rfl ob_2 rfl (s_Reader_lookForColon hL (by omega)  h) (fun σ20 h => ?_)
      refine k_aload_n d_Doctype_readNotation_85 rfl ?_
      refine k_getR d_Doctype_readNotation_86 fl_5_25 ob_5 rfl ?_
      refine k_aload_n d_Doctype_readNotation_89 rfl ?_
      refine k_getR d_Doctype_readNotation_90 fl_5_11 ob_5 rfl ?_
      refine k_iload_n d_Doctype_readNotation_93 rfl ?_
      refine k_iload_n d_Doctype_readNotation_94 rfl ?_
      refine k_cvi [.inl v6, .inl ((σ5.1 2 2) - v6)] d_Doctype_readNotation_95 ml_5_96 rfl rfl ob_1 rfl (s_Store_intern hL (by omega) stB_BF h) (fun v23 σ22 h => ?_)
      refine k_cvv [.inl v23] d_Doctype_readNotation_98 ml_5_265 rfl rfl ob_4 rfl (s_Declared_addNotation hL (by omega)  h) (fun σ24 h => ?_)
      exact k_sb (sb_n (sb_n (sb_n sb_nil))) (hJ16 () _ h)
theorem d_Doctype_readItem_0 : decode b_Doctype_readItem 0 = .ok (.aload_n 0, 1) := by decide +kernel
theorem d_Doctype_readItem_1 : decode b_Doctype_readItem 1 = .ok (.getfield 17, 3) := by decide +kernel
theorem d_Doctype_readItem_4 : decode b_Doctype_readItem 4 = .ok (.invokevirtual 102, 3) := by decide +kernel
theorem d_Doctype_readItem_7 : decode b_Doctype_readItem 7 = .ok (.istore_n 1, 1) := by decide +kernel
theorem d_Doctype_readItem_8 : decode b_Doctype_readItem 8 = .ok (.iload_n 1, 1) := by decide +kernel
theorem d_Doctype_readItem_9 : decode b_Doctype_readItem 9 = .ok (.invokestatic 105, 3) := by decide +kernel
theorem d_Doctype_readItem_12 : decode b_Doctype_readItem 12 = .ok (.ifCond .eq 14, 3) := by decide +kernel
theorem d_Doctype_readItem_15 : decode b_Doctype_readItem 15 = .ok (.aload_n 0, 1) := by decide +kernel
theorem d_Doctype_readItem_16 : decode b_Doctype_readItem 16 = .ok (.getfield 17, 3) := by decide +kernel
theorem d_Doctype_readItem_19 : decode b_Doctype_readItem 19 = .ok (.invokevirtual 69, 3) := by decide +kernel
theorem d_Doctype_readItem_22 : decode b_Doctype_readItem 22 = .ok (.pop, 1) := by decide +kernel
theorem d_Doctype_readItem_23 : decode b_Doctype_readItem 23 = .ok (.goto 200, 3) := by decide +kernel
theorem d_Doctype_readItem_26 : decode b_Doctype_readItem 26 = .ok (.iload_n 1, 1) := by decide +kernel
theorem d_Doctype_readItem_27 : decode b_Doctype_readItem 27 = .ok (.bipush 37, 2) := by decide +kernel
theorem d_Doctype_readItem_29 : decode b_Doctype_readItem 29 = .ok (.if_icmp .ne 10, 3) := by decide +kernel
theorem d_Doctype_readItem_32 : decode b_Doctype_readItem 32 = .ok (.aload_n 0, 1) := by decide +kernel
theorem d_Doctype_readItem_33 : decode b_Doctype_readItem 33 = .ok (.invokevirtual 109, 3) := by decide +kernel
theorem d_Doctype_readItem_36 : decode b_Doctype_readItem 36 = .ok (.goto 187, 3) := by decide +kernel
theorem d_Doctype_readItem_39 : decode b_Doctype_readItem 39 = .ok (.iload_n 1, 1) := by decide +kernel
theorem d_Doctype_readItem_40 : decode b_Doctype_readItem 40 = .ok (.bipush 93, 2) := by decide +kernel
theorem d_Doctype_readItem_42 : decode b_Doctype_readItem 42 = .ok (.if_icmp .ne 20, 3) := by decide +kernel
theorem d_Doctype_readItem_45 : decode b_Doctype_readItem 45 = .ok (.aload_n 0, 1) := by decide +kernel
theorem d_Doctype_readItem_46 : decode b_Doctype_readItem 46 = .ok (.getfield 21, 3) := by decide +kernel
theorem d_Doctype_readItem_49 : decode b_Doctype_readItem 49 = .ok (.getfield 112, 3) := by decide +kernel
theorem d_Doctype_readItem_52 : decode b_Doctype_readItem 52 = .ok (.ifCond .ne 10, 3) := by decide +kernel
theorem d_Doctype_readItem_55 : decode b_Doctype_readItem 55 = .ok (.aload_n 0, 1) := by decide +kernel
theorem d_Doctype_readItem_56 : decode b_Doctype_readItem 56 = .ok (.invokevirtual 117, 3) := by decide +kernel
theorem d_Doctype_readItem_59 : decode b_Doctype_readItem 59 = .ok (.goto 164, 3) := by decide +kernel
theorem d_Doctype_readItem_62 : decode b_Doctype_readItem 62 = .ok (.aload_n 0, 1) := by decide +kernel
theorem d_Doctype_readItem_63 : decode b_Doctype_readItem 63 = .ok (.getfield 17, 3) := by decide +kernel
theorem d_Doctype_readItem_66 : decode b_Doctype_readItem 66 = .ok (.ldc 120, 2) := by decide +kernel
theorem d_Doctype_readItem_68 : decode b_Doctype_readItem 68 = .ok (.invokevirtual 75, 3) := by decide +kernel
theorem d_Doctype_readItem_71 : decode b_Doctype_readItem 71 = .ok (.ifCond .eq 13, 3) := by decide +kernel
theorem d_Doctype_readItem_74 : decode b_Doctype_readItem 74 = .ok (.aload_n 0, 1) := by decide +kernel
theorem d_Doctype_readItem_75 : decode b_Doctype_readItem 75 = .ok (.getfield 17, 3) := by decide +kernel
theorem d_Doctype_readItem_78 : decode b_Doctype_readItem 78 = .ok (.invokevirtual 122, 3) := by decide +kernel
theorem d_Doctype_readItem_81 : decode b_Doctype_readItem 81 = .ok (.goto 142, 3) := by decide +kernel
theorem d_Doctype_readItem_84 : decode b_Doctype_readItem 84 = .ok (.aload_n 0, 1) := by decide +kernel
theorem d_Doctype_readItem_85 : decode b_Doctype_readItem 85 = .ok (.getfield 17, 3) := by decide +kernel
theorem d_Doctype_readItem_88 : decode b_Doctype_readItem 88 = .ok (.ldc 125, 2) := by decide +kernel
theorem d_Doctype_readItem_90 : decode b_Doctype_readItem 90 = .ok (.invokevirtual 75, 3) := by decide +kernel
theorem d_Doctype_readItem_93 : decode b_Doctype_readItem 93 = .ok (.ifCond .eq 13, 3) := by decide +kernel
theorem d_Doctype_readItem_96 : decode b_Doctype_readItem 96 = .ok (.aload_n 0, 1) := by decide +kernel
theorem d_Doctype_readItem_97 : decode b_Doctype_readItem 97 = .ok (.getfield 17, 3) := by decide +kernel
theorem d_Doctype_readItem_100 : decode b_Doctype_readItem 100 = .ok (.invokevirtual 127, 3) := by decide +kernel
theorem d_Doctype_readItem_103 : decode b_Doctype_readItem 103 = .ok (.goto 120, 3) := by decide +kernel
theorem d_Doctype_readItem_106 : decode b_Doctype_readItem 106 = .ok (.aload_n 0, 1) := by decide +kernel
theorem d_Doctype_readItem_107 : decode b_Doctype_readItem 107 = .ok (.getfield 17, 3) := by decide +kernel
theorem d_Doctype_readItem_110 : decode b_Doctype_readItem 110 = .ok (.ldc 130, 2) := by decide +kernel
theorem d_Doctype_readItem_112 : decode b_Doctype_readItem 112 = .ok (.invokevirtual 75, 3) := by decide +kernel
theorem d_Doctype_readItem_115 : decode b_Doctype_readItem 115 = .ok (.ifCond .eq 10, 3) := by decide +kernel
theorem d_Doctype_readItem_118 : decode b_Doctype_readItem 118 = .ok (.aload_n 0, 1) := by decide +kernel
theorem d_Doctype_readItem_119 : decode b_Doctype_readItem 119 = .ok (.invokevirtual 132, 3) := by decide +kernel
theorem d_Doctype_readItem_122 : decode b_Doctype_readItem 122 = .ok (.goto 101, 3) := by decide +kernel
theorem d_Doctype_readItem_125 : decode b_Doctype_readItem 125 = .ok (.aload_n 0, 1) := by decide +kernel
theorem d_Doctype_readItem_126 : decode b_Doctype_readItem 126 = .ok (.getfield 17, 3) := by decide +kernel
theorem d_Doctype_readItem_129 : decode b_Doctype_readItem 129 = .ok (.ldc 135, 2) := by decide +kernel
theorem d_Doctype_readItem_131 : decode b_Doctype_readItem 131 = .ok (.invokevirtual 75, 3) := by decide +kernel
theorem d_Doctype_readItem_134 : decode b_Doctype_readItem 134 = .ok (.ifCond .eq 42, 3) := by decide +kernel
theorem d_Doctype_readItem_137 : decode b_Doctype_readItem 137 = .ok (.aload_n 0, 1) := by decide +kernel
theorem d_Doctype_readItem_138 : decode b_Doctype_readItem 138 = .ok (.getfield 17, 3) := by decide +kernel
theorem d_Doctype_readItem_141 : decode b_Doctype_readItem 141 = .ok (.getfield 66, 3) := by decide +kernel
theorem d_Doctype_readItem_144 : decode b_Doctype_readItem 144 = .ok (.istore_n 2, 1) := by decide +kernel
theorem d_Doctype_readItem_145 : decode b_Doctype_readItem 145 = .ok (.aload_n 0, 1) := by decide +kernel
theorem d_Doctype_readItem_146 : decode b_Doctype_readItem 146 = .ok (.iconst 0, 1) := by decide +kernel
theorem d_Doctype_readItem_147 : decode b_Doctype_readItem 147 = .ok (.invokevirtual 137, 3) := by decide +kernel
theorem d_Doctype_readItem_150 : decode b_Doctype_readItem 150 = .ok (.aload_n 0, 1) := by decide +kernel
theorem d_Doctype_readItem_151 : decode b_Doctype_readItem 151 = .ok (.getfield 17, 3) := by decide +kernel
theorem d_Doctype_readItem_154 : decode b_Doctype_readItem 154 = .ok (.getfield 140, 3) := by decide +kernel
theorem d_Doctype_readItem_157 : decode b_Doctype_readItem 157 = .ok (.ifCond .ne 16, 3) := by decide +kernel
theorem d_Doctype_readItem_160 : decode b_Doctype_readItem 160 = .ok (.aload_n 0, 1) := by decide +kernel
theorem d_Doctype_readItem_161 : decode b_Doctype_readItem 161 = .ok (.getfield 17, 3) := by decide +kernel
theorem d_Doctype_readItem_164 : decode b_Doctype_readItem 164 = .ok (.iload_n 2, 1) := by decide +kernel
theorem d_Doctype_readItem_165 : decode b_Doctype_readItem 165 = .ok (.putfield 66, 3) := by decide +kernel
theorem d_Doctype_readItem_168 : decode b_Doctype_readItem 168 = .ok (.aload_n 0, 1) := by decide +kernel
theorem d_Doctype_readItem_169 : decode b_Doctype_readItem 169 = .ok (.iconst 1, 1) := by decide +kernel
theorem d_Doctype_readItem_170 : decode b_Doctype_readItem 170 = .ok (.invokevirtual 137, 3) := by decide +kernel
theorem d_Doctype_readItem_173 : decode b_Doctype_readItem 173 = .ok (.goto 50, 3) := by decide +kernel
theorem d_Doctype_readItem_176 : decode b_Doctype_readItem 176 = .ok (.aload_n 0, 1) := by decide +kernel
theorem d_Doctype_readItem_177 : decode b_Doctype_readItem 177 = .ok (.getfield 17, 3) := by decide +kernel
theorem d_Doctype_readItem_180 : decode b_Doctype_readItem 180 = .ok (.ldc 143, 2) := by decide +kernel
theorem d_Doctype_readItem_182 : decode b_Doctype_readItem 182 = .ok (.invokevirtual 75, 3) := by decide +kernel
theorem d_Doctype_readItem_185 : decode b_Doctype_readItem 185 = .ok (.ifCond .eq 10, 3) := by decide +kernel
theorem d_Doctype_readItem_188 : decode b_Doctype_readItem 188 = .ok (.aload_n 0, 1) := by decide +kernel
theorem d_Doctype_readItem_189 : decode b_Doctype_readItem 189 = .ok (.invokevirtual 145, 3) := by decide +kernel
theorem d_Doctype_readItem_192 : decode b_Doctype_readItem 192 = .ok (.goto 31, 3) := by decide +kernel
theorem d_Doctype_readItem_195 : decode b_Doctype_readItem 195 = .ok (.aload_n 0, 1) := by decide +kernel
theorem d_Doctype_readItem_196 : decode b_Doctype_readItem 196 = .ok (.getfield 17, 3) := by decide +kernel
theorem d_Doctype_readItem_199 : decode b_Doctype_readItem 199 = .ok (.ldc 148, 2) := by decide +kernel
theorem d_Doctype_readItem_201 : decode b_Doctype_readItem 201 = .ok (.invokevirtual 75, 3) := by decide +kernel
theorem d_Doctype_readItem_204 : decode b_Doctype_readItem 204 = .ok (.ifCond .eq 10, 3) := by decide +kernel
theorem d_Doctype_readItem_207 : decode b_Doctype_readItem 207 = .ok (.aload_n 0, 1) := by decide +kernel
theorem d_Doctype_readItem_208 : decode b_Doctype_readItem 208 = .ok (.invokevirtual 150, 3) := by decide +kernel
theorem d_Doctype_readItem_211 : decode b_Doctype_readItem 211 = .ok (.goto 12, 3) := by decide +kernel
theorem d_Doctype_readItem_214 : decode b_Doctype_readItem 214 = .ok (.aload_n 0, 1) := by decide +kernel
theorem d_Doctype_readItem_215 : decode b_Doctype_readItem 215 = .ok (.getfield 17, 3) := by decide +kernel
theorem d_Doctype_readItem_218 : decode b_Doctype_readItem 218 = .ok (.bipush 6, 2) := by decide +kernel
theorem d_Doctype_readItem_220 : decode b_Doctype_readItem 220 = .ok (.invokevirtual 92, 3) := by decide +kernel
theorem d_Doctype_readItem_223 : decode b_Doctype_readItem 223 = .ok (.return_, 1) := by decide +kernel
/-- Doctype_readItem -/
def w_Doctype_readItem (L : Nat → Nat)  (Q : IS → Prop) (σ : IS) : Prop := w_Reader_peek L  (fun v2 σ1 => w_Reader_isSpace L v2 (fun v4 σ3 => WJ (fun (s7 : Unit) (σ8 : IS) => Q σ8) (fun J5 => if v4 = 0 then if v2 = 37 then w_Doctype_readParameterReference L  (fun σ57 => J5 () σ57) σ3 else if v2 = 93 ∧ ((σ3.1 3 12) = 0) then w_Doctype_readEnd L  (fun σ11 => J5 () σ11) σ3 else w_Reader_at L 1026 (fun v14 σ13 => if v14 = 0 then w_Reader_at L 1027 (fun v17 σ16 => if v17 = 0 then w_Reader_at L 1028 (fun v20 σ19 => if v20 = 0 then w_Reader_at L 1029 (fun v23 σ22 => if v23 = 0 then w_Reader_at L 1030 (fun v26 σ25 => if v26 = 0 then w_Reader_at L 1031 (fun v29 σ28 => if v29 = 0 then w_Reader_fail L 6 (fun σ31 => J5 () σ31) σ28 else w_Doctype_readNotation L  (fun σ33 => J5 () σ33) σ28) σ25 else w_Doctype_readEntity L  (fun σ35 => J5 () σ35) σ25) σ22 else w_Doctype_readAttributes L 0 (fun σ37 => WJ (fun (s41 : Unit) (σ42 : IS) => J5 () σ42) (fun J39 => if (σ37.1 2 4) = 0 then w_Doctype_readAttributes L 1 (fun σ44 => J39 () σ44) (pf σ37 2 2 (σ22.1 2 2)) else J39 () σ37)) σ22) σ19 else w_Doctype_readElement L  (fun σ46 => J5 () σ46) σ19) σ16 else w_Reader_readInstruction L  (fun σ48 => J5 () σ48) σ16) σ13 else w_Reader_readComment L  (fun σ50 => J5 () σ50) σ13) σ3 else w_Reader_skipSpace L  (fun v60 σ59 => J5 () σ59) σ3)) σ1) σ
set_option maxHeartbeats 4000000 in
set_option maxRecDepth 20000 in
theorem s_Doctype_readItem {L : Nat → Nat} (hL : ∀ r, L r < 2147483648) {d : Nat} (hd : 5 ≤ d)  {Q : IS → Prop} {σ : IS}  (h : w_Doctype_readItem L  Q σ) : OkI BF L d 5 b_Doctype_readItem 3 0 0 [] [some (.inr 5)] σ (qv Q) := by
  unfold w_Doctype_readItem at h
  obtain ⟨d, rfl⟩ : ∃ e, d = e + 1 := ⟨d - 1, by omega⟩
  refine k_sb (lv' := [some (.inr 5), none, none]) (sb_s (sb_e (sb_e sb_nil))) ?_
  refine k_aload_n d_Doctype_readItem_0 rfl ?_
  refine k_getR d_Doctype_readItem_1 fl_5_17 ob_5 rfl ?_
  refine k_cvi [] d_Doctype_readItem_4 ml_5_102 rfl rfl ob_2 rfl (s_Reader_peek hL (by omega)  h) (fun v2 σ1 h => ?_)
  refine k_istore_n (lv' := [some (.inr 5), some (.inl v2), none]) d_Doctype_readItem_7 rfl rfl ?_
  refine k_iload_n d_Doctype_readItem_8 rfl ?_
  refine k_csi [.inl v2] d_Doctype_readItem_9 ml_5_105 (Or.inl rfl) rfl rfl rfl (s_Reader_isSpace hL (by omega)  h) (fun v4 σ3 h => ?_)
  refine k_join (S := Unit) (pc' := 223) (st' := fun s7 => []) (lv' := fun s7 => [none, none, none]) (fun s7 σ8 h => ?_) (fun J5 hJ6 h => ?_) h
  · exact k_ret d_Doctype_readItem_223 h
  · refine k_ifeq d_Doctype_readItem_12 rfl (fun c9 => ?_) (fun c9 => ?_)
    · have h := ipos c9 h
      refine k_iload_n d_Doctype_readItem_26 rfl ?_
      refine k_bipush d_Doctype_readItem_27 cB_37 ?_
      refine k_icne d_Doctype_readItem_29 rfl (fun c10 => ?_) (fun c10 => ?_)
      · have h := ineg c10 h
        refine k_iload_n d_Doctype_readItem_39 rfl ?_
        refine k_bipush d_Doctype_readItem_40 cB_93 ?_
        have hX52 : (v2 = 93 ∧ ((σ3.1 3 12) = 0)) → OkI BF L (d + 1) 5 b_Doctype_readItem 3 0 55 [] [some (.inr 5), some (.inl v2), none] σ3 (qv Q) := fun e54 => by
          have h := ipos e54 h
          refine k_aload_n d_Doctype_readItem_55 rfl ?_
          refine k_cvv [] d_Doctype_readItem_56 ml_5_117 rfl rfl ob_5 rfl (s_Doctype_readEnd hL (by omega)  h) (fun σ11 h => ?_)
          refine k_goto d_Doctype_readItem_59 rfl ?_
          exact k_sb (sb_n (sb_n (sb_s sb_nil))) (hJ6 () _ h)
        have hY53 : ¬ (v2 = 93 ∧ ((σ3.1 3 12) = 0)) → OkI BF L (d + 1) 5 b_Doctype_readItem 3 0 62 [] [some (.inr 5), some (.inl v2), none] σ3 (qv Q) := fun e54 => by
          have h := ineg e54 h
          refine k_aload_n d_Doctype_readItem_62 rfl ?_
          refine k_getR d_Doctype_readItem_63 fl_5_17 ob_5 rfl ?_
          refine k_ldc d_Doctype_readItem_66 ks_5_120 rfl ?_
          refine k_cvi [.inr 1026] d_Doctype_readItem_68 ml_5_75 rfl rfl ob_2 rfl (s_Reader_at hL (by omega) it_1026 h) (fun v14 σ13 h => ?_)
          refine k_ifeq d_Doctype_readItem_71 rfl (fun c15 => ?_) (fun c15 => ?_)
          · have h := ipos c15 h
            refine k_aload_n d_Doctype_readItem_84 rfl ?_
            refine k_getR d_Doctype_readItem_85 fl_5_17 ob_5 rfl ?_
            refine k_ldc d_Doctype_readItem_88 ks_5_125 rfl ?_
            refine k_cvi [.inr 1027] d_Doctype_readItem_90 ml_5_75 rfl rfl ob_2 rfl (s_Reader_at hL (by omega) it_1027 h) (fun v17 σ16 h => ?_)
            refine k_ifeq d_Doctype_readItem_93 rfl (fun c18 => ?_) (fun c18 => ?_)
            · have h := ipos c18 h
              refine k_aload_n d_Doctype_readItem_106 rfl ?_
              refine k_getR d_Doctype_readItem_107 fl_5_17 ob_5 rfl ?_
              refine k_ldc d_Doctype_readItem_110 ks_5_130 rfl ?_
              refine k_cvi [.inr 1028] d_Doctype_readItem_112 ml_5_75 rfl rfl ob_2 rfl (s_Reader_at hL (by omega) it_1028 h) (fun v20 σ19 h => ?_)
              refine k_ifeq d_Doctype_readItem_115 rfl (fun c21 => ?_) (fun c21 => ?_)
              · have h := ipos c21 h
                refine k_aload_n d_Doctype_readItem_125 rfl ?_
                refine k_getR d_Doctype_readItem_126 fl_5_17 ob_5 rfl ?_
                refine k_ldc d_Doctype_readItem_129 ks_5_135 rfl ?_
                refine k_cvi [.inr 1029] d_Doctype_readItem_131 ml_5_75 rfl rfl ob_2 rfl (s_Reader_at hL (by omega) it_1029 h) (fun v23 σ22 h => ?_)
                refine k_ifeq d_Doctype_readItem_134 rfl (fun c24 => ?_) (fun c24 => ?_)
                · have h := ipos c24 h
                  refine k_aload_n d_Doctype_readItem_176 rfl ?_
                  refine k_getR d_Doctype_readItem_177 fl_5_17 ob_5 rfl ?_
                  refine k_ldc d_Doctype_readItem_180 ks_5_143 rfl ?_
                  refine k_cvi [.inr 1030] d_Doctype_readItem_182 ml_5_75 rfl rfl ob_2 rfl (s_Reader_at hL (by omega) it_1030 h) (fun v26 σ25 h => ?_)
                  refine k_ifeq d_Doctype_readItem_185 rfl (fun c27 => ?_) (fun c27 => ?_)
                  · have h := ipos c27 h
                    refine k_aload_n d_Doctype_readItem_195 rfl ?_
                    refine k_getR d_Doctype_readItem_196 fl_5_17 ob_5 rfl ?_
                    refine k_ldc d_Doctype_readItem_199 ks_5_148 rfl ?_
                    refine k_cvi [.inr 1031] d_Doctype_readItem_201 ml_5_75 rfl rfl ob_2 rfl (s_Reader_at hL (by omega) it_1031 h) (fun v29 σ28 h => ?_)
                    refine k_ifeq d_Doctype_readItem_204 rfl (fun c30 => ?_) (fun c30 => ?_)
                    · have h := ipos c30 h
                      refine k_aload_n d_Doctype_readItem_214 rfl ?_
                      refine k_getR d_Doctype_readItem_215 fl_5_17 ob_5 rfl ?_
                      refine k_bipush d_Doctype_readItem_218 cB_6 ?_
                      refine k_cvv [.inl 6] d_Doctype_readItem_220 ml_5_92 rfl rfl ob_2 rfl (s_Reader_fail hL (by omega)  h) (fun σ31 h => ?_)
                      exact k_sb (sb_n (sb_n (sb_s sb_nil))) (hJ6 () _ h)
                    · have h := ineg c30 h
                      refine k_aload_n d_Doctype_readItem_207 rfl ?_
                      refine k_cvv [] d_Doctype_readItem_208 ml_5_150 rfl rfl ob_5 rfl (s_Doctype_readNotation hL (by omega)  h) (fun σ33 h => ?_)
                      refine k_goto d_Doctype_readItem_211 rfl ?_
                      exact k_sb (sb_n (sb_n (sb_s sb_nil))) (hJ6 () _ h)
                  · have h := ineg c27 h
                    refine k_aload_n d_Doctype_readItem_188 rfl ?_
                    refine k_cvv [] d_Doctype_readItem_189 ml_5_145 rfl rfl ob_5 rfl (s_Doctype_readEntity hL (by omega)  h) (fun σ35 h => ?_)
                    refine k_goto d_Doctype_readItem_192 rfl ?_
                    exact k_sb (sb_n (sb_n (sb_s sb_nil))) (hJ6 () _ h)
                · have h := ineg c24 h
                  refine k_aload_n d_Doctype_readItem_137 rfl ?_
                  refine k_getR d_Doctype_readItem_138 fl_5_17 ob_5 rfl ?_
                  refine k_getI (x := (σ22.1 2 2)) d_Doctype_readItem_141 fl_5_66 ob_2 rfl rfl ?_
                  refine k_istore_n (lv' := [some (.inr 5), some (.inl v2), some (.inl (σ22.1 2 2))]) d_Doctype_readItem_144 rfl rfl ?_
                  refine k_aload_n d_Doctype_readItem_145 rfl ?_
                  refine k_iconst d_Doctype_readItem_146 cI_0 ?_
                  refine k_cvv [.inl 0] d_Doctype_readItem_147 ml_5_137 rfl rfl ob_5 rfl (s_Doctype_readAttributes hL (by omega)  h) (fun σ37 h => ?_)
                  refine k_aload_n d_Doctype_readItem_150 rfl ?_
                  refine k_getR d_Doctype_readItem_151 fl_5_17 ob_5 rfl ?_
                  refine k_getI (x := (σ37.1 2 4)) d_Doctype_readItem_154 fl_5_140 ob_2 rfl rfl ?_
                  refine k_join (S := Unit) (pc' := 173) (st' := fun s41 => []) (lv' := fun s41 => [none, none, none]) (fun s41 σ42 h => ?_) (fun J39 hJ40 h => ?_) h
                  · refine k_goto d_Doctype_readItem_173 rfl ?_
                    exact k_sb (sb_s (sb_s (sb_s sb_nil))) (hJ6 () _ h)
                  · refine k_ifne d_Doctype_readItem_157 rfl (fun c43 => ?_) (fun c43 => ?_)
                    · have h := ineg c43 h
                      exact k_sb (sb_n (sb_n (sb_n sb_nil))) (hJ40 () _ h)
                    · have h := ipos c43 h
                      refine k_aload_n d_Doctype_readItem_160 rfl ?_
                      refine k_getR d_Doctype_readItem_161 fl_5_17 ob_5 rfl ?_
                      refine k_iload_n d_Doctype_readItem_164 rfl ?_
                      refine k_putI d_Doctype_readItem_165 fl_5_66 ob_2 rfl ?_
                      refine k_aload_n d_Doctype_readItem_168 rfl ?_
                      refine k_iconst d_Doctype_readItem_169 cI_1 ?_
                      refine k_cvv [.inl 1] d_Doctype_readItem_170 ml_5_137 rfl rfl ob_5 rfl (s_Doctype_readAttributes hL (by omega)  h) (fun σ44 h => ?_)
                      exact k_sb (sb_n (sb_n (sb_n sb_nil))) (hJ40 () _ h)
              · have h := ineg c21 h
                refine k_aload_n d_Doctype_readItem_118 rfl ?_
                refine k_cvv [] d_Doctype_readItem_119 ml_5_132 rfl rfl ob_5 rfl (s_Doctype_readElement hL (by omega)  h) (fun σ46 h => ?_)
                refine k_goto d_Doctype_readItem_122 rfl ?_
                exact k_sb (sb_n (sb_n (sb_s sb_nil))) (hJ6 () _ h)
            · have h := ineg c18 h
              refine k_aload_n d_Doctype_readItem_96 rfl ?_
              refine k_getR d_Doctype_readItem_97 fl_5_17 ob_5 rfl ?_
              refine k_cvv [] d_Doctype_readItem_100 ml_5_127 rfl rfl ob_2 rfl (s_Reader_readInstruction hL (by omega)  h) (fun σ48 h => ?_)
              refine k_goto d_Doctype_readItem_103 rfl ?_
              exact k_sb (sb_n (sb_n (sb_s sb_nil))) (hJ6 () _ h)
          · have h := ineg c15 h
            refine k_aload_n d_Doctype_readItem_74 rfl ?_
            refine k_getR d_Doctype_readItem_75 fl_5_17 ob_5 rfl ?_
            refine k_cvv [] d_Doctype_readItem_78 ml_5_122 rfl rfl ob_2 rfl (s_Reader_readComment hL (by omega)  h) (fun σ50 h => ?_)
            refine k_goto d_Doctype_readItem_81 rfl ?_
            exact k_sb (sb_n (sb_n (sb_s sb_nil))) (hJ6 () _ h)
        refine k_icne d_Doctype_readItem_42 rfl (fun c55 => ?_) (fun c55 => ?_)
        · exact hY53 (fun z => c55 z.1)
        · refine k_aload_n d_Doctype_readItem_45 rfl ?_
          refine k_getR d_Doctype_readItem_46 fl_5_21 ob_5 rfl ?_
          refine k_getI (x := (σ3.1 3 12)) d_Doctype_readItem_49 fl_5_112 ob_3 rfl rfl ?_
          refine k_ifne d_Doctype_readItem_52 rfl (fun c56 => ?_) (fun c56 => ?_)
          · exact hY53 (fun z => (c56) z.2)
          · exact hX52 (⟨c55, c56⟩)
      · have h := ipos c10 h
        refine k_aload_n d_Doctype_readItem_32 rfl ?_
        refine k_cvv [] d_Doctype_readItem_33 ml_5_109 rfl rfl ob_5 rfl (s_Doctype_readParameterReference hL (by omega)  h) (fun σ57 h => ?_)
        refine k_goto d_Doctype_readItem_36 rfl ?_
        exact k_sb (sb_n (sb_n (sb_s sb_nil))) (hJ6 () _ h)
    · have h := ineg c9 h
      refine k_aload_n d_Doctype_readItem_15 rfl ?_
      refine k_getR d_Doctype_readItem_16 fl_5_17 ob_5 rfl ?_
      refine k_cvi [] d_Doctype_readItem_19 ml_5_69 rfl rfl ob_2 rfl (s_Reader_skipSpace hL (by omega)  h) (fun v60 σ59 h => ?_)
      refine k_pop d_Doctype_readItem_22 ?_
      refine k_goto d_Doctype_readItem_23 rfl ?_
      exact k_sb (sb_n (sb_n (sb_s sb_nil))) (hJ6 () _ h)
theorem d_Tree_note_0 : decode b_Tree_note 0 = .ok (.aload_n 0, 1) := by decide +kernel
theorem d_Tree_note_1 : decode b_Tree_note 1 = .ok (.getfield 46, 3) := by decide +kernel
theorem d_Tree_note_4 : decode b_Tree_note 4 = .ok (.iconst (-1), 1) := by decide +kernel
theorem d_Tree_note_5 : decode b_Tree_note 5 = .ok (.if_icmp .eq 16, 3) := by decide +kernel
theorem d_Tree_note_8 : decode b_Tree_note 8 = .ok (.aload_n 0, 1) := by decide +kernel
theorem d_Tree_note_9 : decode b_Tree_note 9 = .ok (.getfield 31, 3) := by decide +kernel
theorem d_Tree_note_12 : decode b_Tree_note 12 = .ok (.aload_n 0, 1) := by decide +kernel
theorem d_Tree_note_13 : decode b_Tree_note 13 = .ok (.getfield 46, 3) := by decide +kernel
theorem d_Tree_note_16 : decode b_Tree_note 16 = .ok (.dup2, 1) := by decide +kernel
theorem d_Tree_note_17 : decode b_Tree_note 17 = .ok (.iaload, 1) := by decide +kernel
theorem d_Tree_note_18 : decode b_Tree_note 18 = .ok (.iload_n 1, 1) := by decide +kernel
theorem d_Tree_note_19 : decode b_Tree_note 19 = .ok (.ior, 1) := by decide +kernel
theorem d_Tree_note_20 : decode b_Tree_note 20 = .ok (.iastore, 1) := by decide +kernel
theorem d_Tree_note_21 : decode b_Tree_note 21 = .ok (.return_, 1) := by decide +kernel
/-- Tree_note -/
def w_Tree_note (L : Nat → Nat) (a1 : Int) (Q : IS → Prop) (σ : IS) : Prop := WJ (fun (s3 : Unit) (σ4 : IS) => Q σ4) (fun J1 => if (σ.1 6 3) = (-1) then J1 () σ else inL L 133 (σ.1 6 3) ∧ inL L 133 (σ.1 6 3) ∧ J1 () (pr σ 133 (Int.toNat (σ.1 6 3)) (io (σ.2 133 (Int.toNat (σ.1 6 3))) a1)))
set_option maxHeartbeats 4000000 in
set_option maxRecDepth 20000 in
theorem s_Tree_note {L : Nat → Nat} (hL : ∀ r, L r < 2147483648) {d : Nat} (hd : 0 ≤ d) {a1 : Int} {Q : IS → Prop} {σ : IS}  (h : w_Tree_note L a1 Q σ) : OkI BF L d 6 b_Tree_note 2 0 0 [] [some (.inr 6), some (.inl a1)] σ (qv Q) := by
  unfold w_Tree_note at h
  refine k_sb (lv' := [some (.inr 6), some (.inl a1)]) (sb_s (sb_s sb_nil)) ?_
  refine k_aload_n d_Tree_note_0 rfl ?_
  refine k_getI (x := (σ.1 6 3)) d_Tree_note_1 fl_6_46 ob_6 rfl rfl ?_
  refine k_iconst d_Tree_note_4 cI_m1 ?_
  refine k_join (S := Unit) (pc' := 21) (st' := fun s3 => []) (lv' := fun s3 => [none, none]) (fun s3 σ4 h => ?_) (fun J1 hJ2 h => ?_) h
  · exact k_ret d_Tree_note_21 h
  · refine k_iceq d_Tree_note_5 rfl (fun c5 => ?_) (fun c5 => ?_)
    · have h := ipos c5 h
      exact k_sb (sb_n (sb_n sb_nil)) (hJ2 () _ h)
    · have h := ineg c5 h
      refine k_aload_n d_Tree_note_8 rfl ?_
      refine k_getR d_Tree_note_9 fl_6_31 ob_6 rfl ?_
      refine k_aload_n d_Tree_note_12 rfl ?_
      refine k_getI (x := (σ.1 6 3)) d_Tree_note_13 fl_6_46 ob_6 rfl rfl ?_
      refine k_dup2 d_Tree_note_16 ?_
      obtain ⟨p7, h⟩ := h
      refine k_ild (x := (σ.2 133 (Int.toNat (σ.1 6 3)))) d_Tree_note_17 rI_133 p7 rfl ?_
      refine k_iload_n d_Tree_note_18 rfl ?_
      refine k_ior d_Tree_note_19 ?_
      obtain ⟨p6, h⟩ := h
      refine k_ist d_Tree_note_20 rI_133 p6 ?_
      exact k_sb (sb_n (sb_n sb_nil)) (hJ2 () _ h)
theorem d_Tree_put_0 : decode b_Tree_put 0 = .ok (.aload_n 0, 1) := by decide +kernel
theorem d_Tree_put_1 : decode b_Tree_put 1 = .ok (.getfield 58, 3) := by decide +kernel
theorem d_Tree_put_4 : decode b_Tree_put 4 = .ok (.aload_n 0, 1) := by decide +kernel
theorem d_Tree_put_5 : decode b_Tree_put 5 = .ok (.getfield 43, 3) := by decide +kernel
theorem d_Tree_put_8 : decode b_Tree_put 8 = .ok (.arraylength, 1) := by decide +kernel
theorem d_Tree_put_9 : decode b_Tree_put 9 = .ok (.if_icmp .ge 23, 3) := by decide +kernel
theorem d_Tree_put_12 : decode b_Tree_put 12 = .ok (.aload_n 0, 1) := by decide +kernel
theorem d_Tree_put_13 : decode b_Tree_put 13 = .ok (.getfield 43, 3) := by decide +kernel
theorem d_Tree_put_16 : decode b_Tree_put 16 = .ok (.aload_n 0, 1) := by decide +kernel
theorem d_Tree_put_17 : decode b_Tree_put 17 = .ok (.getfield 58, 3) := by decide +kernel
theorem d_Tree_put_20 : decode b_Tree_put 20 = .ok (.iload_n 1, 1) := by decide +kernel
theorem d_Tree_put_21 : decode b_Tree_put 21 = .ok (.iastore, 1) := by decide +kernel
theorem d_Tree_put_22 : decode b_Tree_put 22 = .ok (.aload_n 0, 1) := by decide +kernel
theorem d_Tree_put_23 : decode b_Tree_put 23 = .ok (.dup, 1) := by decide +kernel
theorem d_Tree_put_24 : decode b_Tree_put 24 = .ok (.getfield 58, 3) := by decide +kernel
theorem d_Tree_put_27 : decode b_Tree_put 27 = .ok (.iconst 1, 1) := by decide +kernel
theorem d_Tree_put_28 : decode b_Tree_put 28 = .ok (.iadd, 1) := by decide +kernel
theorem d_Tree_put_29 : decode b_Tree_put 29 = .ok (.putfield 58, 3) := by decide +kernel
theorem d_Tree_put_32 : decode b_Tree_put 32 = .ok (.return_, 1) := by decide +kernel
/-- Tree_put -/
def w_Tree_put (L : Nat → Nat) (a1 : Int) (Q : IS → Prop) (σ : IS) : Prop := WJ (fun (s3 : Unit) (σ4 : IS) => Q σ4) (fun J1 => if (σ.1 6 15) < ((L 136 : Nat) : Int) then inL L 136 (σ.1 6 15) ∧ inR ((σ.1 6 15) + 1) ∧ J1 () (pf (pr σ 136 (Int.toNat (σ.1 6 15)) a1) 6 15 ((σ.1 6 15) + 1)) else J1 () σ)
set_option maxHeartbeats 4000000 in
set_option maxRecDepth 20000 in
theorem s_Tree_put {L : Nat → Nat} (hL : ∀ r, L r < 2147483648) {d : Nat} (hd : 0 ≤ d) {a1 : Int} {Q : IS → Prop} {σ : IS}  (h : w_Tree_put L a1 Q σ) : OkI BF L d 6 b_Tree_put 2 0 0 [] [some (.inr 6), some (.inl a1)] σ (qv Q) := by
  unfold w_Tree_put at h
  refine k_sb (lv' := [some (.inr 6), some (.inl a1)]) (sb_s (sb_s sb_nil)) ?_
  refine k_aload_n d_Tree_put_0 rfl ?_
  refine k_getI (x := (σ.1 6 15)) d_Tree_put_1 fl_6_58 ob_6 rfl rfl ?_
  refine k_aload_n d_Tree_put_4 rfl ?_
  refine k_getR d_Tree_put_5 fl_6_43 ob_6 rfl ?_
  refine k_len d_Tree_put_8 rI_136.1 (hL _) ?_
  refine k_join (S := Unit) (pc' := 32) (st' := fun s3 => []) (lv' := fun s3 => [none, none]) (fun s3 σ4 h => ?_) (fun J1 hJ2 h => ?_) h
  · exact k_ret d_Tree_put_32 h
  · refine k_icge d_Tree_put_9 rfl (fun c5 => ?_) (fun c5 => ?_)
    · have h := ineg c5 h
      exact k_sb (sb_n (sb_n sb_nil)) (hJ2 () _ h)
    · have h := ipos c5 h
      refine k_aload_n d_Tree_put_12 rfl ?_
      refine k_getR d_Tree_put_13 fl_6_43 ob_6 rfl ?_
      refine k_aload_n d_Tree_put_16 rfl ?_
      refine k_getI (x := (σ.1 6 15)) d_Tree_put_17 fl_6_58 ob_6 rfl rfl ?_
      refine k_iload_n d_Tree_put_20 rfl ?_
      obtain ⟨p7, h⟩ := h
      refine k_ist d_Tree_put_21 rI_136 p7 ?_
      refine k_aload_n d_Tree_put_22 rfl ?_
      refine k_dup d_Tree_put_23 ?_
      refine k_getI (x := (σ.1 6 15)) d_Tree_put_24 fl_6_58 ob_6 rfl rfl ?_
      refine k_iconst d_Tree_put_27 cI_1 ?_
      obtain ⟨p6, h⟩ := h
      refine k_iadd d_Tree_put_28 p6 ?_
      refine k_putI d_Tree_put_29 fl_6_58 ob_6 rfl ?_
      exact k_sb (sb_n (sb_n sb_nil)) (hJ2 () _ h)
theorem d_Tree_addCharacter_0 : decode b_Tree_addCharacter 0 = .ok (.aload_n 0, 1) := by decide +kernel
theorem d_Tree_addCharacter_1 : decode b_Tree_addCharacter 1 = .ok (.iload_n 1, 1) := by decide +kernel
theorem d_Tree_addCharacter_2 : decode b_Tree_addCharacter 2 = .ok (.invokevirtual 68, 3) := by decide +kernel
theorem d_Tree_addCharacter_5 : decode b_Tree_addCharacter 5 = .ok (.aload_n 0, 1) := by decide +kernel
theorem d_Tree_addCharacter_6 : decode b_Tree_addCharacter 6 = .ok (.dup, 1) := by decide +kernel
theorem d_Tree_addCharacter_7 : decode b_Tree_addCharacter 7 = .ok (.getfield 61, 3) := by decide +kernel
theorem d_Tree_addCharacter_10 : decode b_Tree_addCharacter 10 = .ok (.iconst 1, 1) := by decide +kernel
theorem d_Tree_addCharacter_11 : decode b_Tree_addCharacter 11 = .ok (.iadd, 1) := by decide +kernel
theorem d_Tree_addCharacter_12 : decode b_Tree_addCharacter 12 = .ok (.putfield 61, 3) := by decide +kernel
theorem d_Tree_addCharacter_15 : decode b_Tree_addCharacter 15 = .ok (.return_, 1) := by decide +kernel
/-- Tree_addCharacter -/
def w_Tree_addCharacter (L : Nat → Nat) (a1 : Int) (Q : IS → Prop) (σ : IS) : Prop := w_Tree_put L a1 (fun σ1 => inR ((σ1.1 6 16) + 1) ∧ Q (pf σ1 6 16 ((σ1.1 6 16) + 1))) σ
set_option maxHeartbeats 4000000 in
set_option maxRecDepth 20000 in
theorem s_Tree_addCharacter {L : Nat → Nat} (hL : ∀ r, L r < 2147483648) {d : Nat} (hd : 1 ≤ d) {a1 : Int} {Q : IS → Prop} {σ : IS}  (h : w_Tree_addCharacter L a1 Q σ) : OkI BF L d 6 b_Tree_addCharacter 2 0 0 [] [some (.inr 6), some (.inl a1)] σ (qv Q) := by
  unfold w_Tree_addCharacter at h
  obtain ⟨d, rfl⟩ : ∃ e, d = e + 1 := ⟨d - 1, by omega⟩
  refine k_sb (lv' := [some (.inr 6), some (.inl a1)]) (sb_s (sb_s sb_nil)) ?_
  refine k_aload_n d_Tree_addCharacter_0 rfl ?_
  refine k_iload_n d_Tree_addCharacter_1 rfl ?_
  refine k_cvv [.inl a1] d_Tree_addCharacter_2 ml_6_68 rfl rfl ob_6 rfl (s_Tree_put hL (by omega)  h) (fun σ1 h => ?_)
  refine k_aload_n d_Tree_addCharacter_5 rfl ?_
  refine k_dup d_Tree_addCharacter_6 ?_
  refine k_getI (x := (σ1.1 6 16)) d_Tree_addCharacter_7 fl_6_61 ob_6 rfl rfl ?_
  refine k_iconst d_Tree_addCharacter_10 cI_1 ?_
  obtain ⟨p3, h⟩ := h
  refine k_iadd d_Tree_addCharacter_11 p3 ?_
  refine k_putI d_Tree_addCharacter_12 fl_6_61 ob_6 rfl ?_
  exact k_ret d_Tree_addCharacter_15 h
theorem d_Content_readReference_0 : decode b_Content_readReference 0 = .ok (.aload_n 0, 1) := by decide +kernel
theorem d_Content_readReference_1 : decode b_Content_readReference 1 = .ok (.getfield 15, 3) := by decide +kernel
theorem d_Content_readReference_4 : decode b_Content_readReference 4 = .ok (.invokevirtual 240, 3) := by decide +kernel
theorem d_Content_readReference_7 : decode b_Content_readReference 7 = .ok (.aload_n 0, 1) := by decide +kernel
theorem d_Content_readReference_8 : decode b_Content_readReference 8 = .ok (.getfield 15, 3) := by decide +kernel
theorem d_Content_readReference_11 : decode b_Content_readReference 11 = .ok (.getfield 64, 3) := by decide +kernel
theorem d_Content_readReference_14 : decode b_Content_readReference 14 = .ok (.ifCond .eq 4, 3) := by decide +kernel
theorem d_Content_readReference_17 : decode b_Content_readReference 17 = .ok (.return_, 1) := by decide +kernel
theorem d_Content_readReference_18 : decode b_Content_readReference 18 = .ok (.aload_n 0, 1) := by decide +kernel
theorem d_Content_readReference_19 : decode b_Content_readReference 19 = .ok (.getfield 31, 3) := by decide +kernel
theorem d_Content_readReference_22 : decode b_Content_readReference 22 = .ok (.iconst 1, 1) := by decide +kernel
theorem d_Content_readReference_23 : decode b_Content_readReference 23 = .ok (.invokevirtual 214, 3) := by decide +kernel
theorem d_Content_readReference_26 : decode b_Content_readReference 26 = .ok (.aload_n 0, 1) := by decide +kernel
theorem d_Content_readReference_27 : decode b_Content_readReference 27 = .ok (.getfield 19, 3) := by decide +kernel
theorem d_Content_readReference_30 : decode b_Content_readReference 30 = .ok (.aload_n 0, 1) := by decide +kernel
theorem d_Content_readReference_31 : decode b_Content_readReference 31 = .ok (.getfield 31, 3) := by decide +kernel
theorem d_Content_readReference_34 : decode b_Content_readReference 34 = .ok (.getfield 91, 3) := by decide +kernel
theorem d_Content_readReference_37 : decode b_Content_readReference 37 = .ok (.invokevirtual 241, 3) := by decide +kernel
theorem d_Content_readReference_40 : decode b_Content_readReference 40 = .ok (.istore_n 1, 1) := by decide +kernel
theorem d_Content_readReference_41 : decode b_Content_readReference 41 = .ok (.iload_n 1, 1) := by decide +kernel
theorem d_Content_readReference_42 : decode b_Content_readReference 42 = .ok (.iconst (-1), 1) := by decide +kernel
theorem d_Content_readReference_43 : decode b_Content_readReference 43 = .ok (.if_icmp .eq 19, 3) := by decide +kernel
theorem d_Content_readReference_46 : decode b_Content_readReference 46 = .ok (.aload_n 0, 1) := by decide +kernel
theorem d_Content_readReference_47 : decode b_Content_readReference 47 = .ok (.getfield 31, 3) := by decide +kernel
theorem d_Content_readReference_50 : decode b_Content_readReference 50 = .ok (.iconst 2, 1) := by decide +kernel
theorem d_Content_readReference_51 : decode b_Content_readReference 51 = .ok (.invokevirtual 214, 3) := by decide +kernel
theorem d_Content_readReference_54 : decode b_Content_readReference 54 = .ok (.aload_n 0, 1) := by decide +kernel
theorem d_Content_readReference_55 : decode b_Content_readReference 55 = .ok (.getfield 31, 3) := by decide +kernel
theorem d_Content_readReference_58 : decode b_Content_readReference 58 = .ok (.iload_n 1, 1) := by decide +kernel
theorem d_Content_readReference_59 : decode b_Content_readReference 59 = .ok (.invokevirtual 245, 3) := by decide +kernel
theorem d_Content_readReference_62 : decode b_Content_readReference 62 = .ok (.return_, 1) := by decide +kernel
/-- Content_readReference -/
def w_Content_readReference (L : Nat → Nat)  (Q : IS → Prop) (σ : IS) : Prop := w_Reader_readReference L  (fun σ1 => if (σ1.1 2 4) = 0 then w_Tree_note L 1 (fun σ4 => w_Entities_mean L (σ4.1 6 3) (fun v7 σ6 => WJ (fun (s10 : Unit) (σ11 : IS) => Q σ11) (fun J8 => if v7 = (-1) then J8 () σ6 else w_Tree_note L 2 (fun σ13 => w_Tree_addCharacter L v7 (fun σ15 => J8 () σ15) σ13) σ6)) σ4) σ1 else Q σ1) σ
set_option maxHeartbeats 4000000 in
set_option maxRecDepth 20000 in
theorem s_Content_readReference {L : Nat → Nat} (hL : ∀ r, L r < 2147483648) {d : Nat} (hd : 3 ≤ d)  {Q : IS → Prop} {σ : IS}  (h : w_Content_readReference L  Q σ) : OkI BF L d 7 b_Content_readReference 2 0 0 [] [some (.inr 7)] σ (qv Q) := by
  unfold w_Content_readReference at h
  obtain ⟨d, rfl⟩ : ∃ e, d = e + 1 := ⟨d - 1, by omega⟩
  refine k_sb (lv' := [some (.inr 7), none]) (sb_s (sb_e sb_nil)) ?_
  refine k_aload_n d_Content_readReference_0 rfl ?_
  refine k_getR d_Content_readReference_1 fl_7_15 ob_7 rfl ?_
  refine k_cvv [] d_Content_readReference_4 ml_7_240 rfl rfl ob_2 rfl (s_Reader_readReference hL (by omega)  h) (fun σ1 h => ?_)
  refine k_aload_n d_Content_readReference_7 rfl ?_
  refine k_getR d_Content_readReference_8 fl_7_15 ob_7 rfl ?_
  refine k_getI (x := (σ1.1 2 4)) d_Content_readReference_11 fl_7_64 ob_2 rfl rfl ?_
  refine k_ifeq d_Content_readReference_14 rfl (fun c3 => ?_) (fun c3 => ?_)
  · have h := ipos c3 h
    refine k_aload_n d_Content_readReference_18 rfl ?_
    refine k_getR d_Content_readReference_19 fl_7_31 ob_7 rfl ?_
    refine k_iconst d_Content_readReference_22 cI_1 ?_
    refine k_cvv [.inl 1] d_Content_readReference_23 ml_7_214 rfl rfl ob_6 rfl (s_Tree_note hL (by omega)  h) (fun σ4 h => ?_)
    refine k_aload_n d_Content_readReference_26 rfl ?_
    refine k_getR d_Content_readReference_27 fl_7_19 ob_7 rfl ?_
    refine k_aload_n d_Content_readReference_30 rfl ?_
    refine k_getR d_Content_readReference_31 fl_7_31 ob_7 rfl ?_
    refine k_getI (x := (σ4.1 6 3)) d_Content_readReference_34 fl_7_91 ob_6 rfl rfl ?_
    refine k_cvi [.inl (σ4.1 6 3)] d_Content_readReference_37 ml_7_241 rfl rfl ob_3 rfl (s_Entities_mean hL (by omega)  h) (fun v7 σ6 h => ?_)
    refine k_istore_n (lv' := [some (.inr 7), some (.inl v7)]) d_Content_readReference_40 rfl rfl ?_
    refine k_iload_n d_Content_readReference_41 rfl ?_
    refine k_iconst d_Content_readReference_42 cI_m1 ?_
    refine k_join (S := Unit) (pc' := 62) (st' := fun s10 => []) (lv' := fun s10 => [none, none]) (fun s10 σ11 h => ?_) (fun J8 hJ9 h => ?_) h
    · exact k_ret d_Content_readReference_62 h
    · refine k_iceq d_Content_readReference_43 rfl (fun c12 => ?_) (fun c12 => ?_)
      · have h := ipos c12 h
        exact k_sb (sb_n (sb_n sb_nil)) (hJ9 () _ h)
      · have h := ineg c12 h
        refine k_aload_n d_Content_readReference_46 rfl ?_
        refine k_getR d_Content_readReference_47 fl_7_31 ob_7 rfl ?_
        refine k_iconst d_Content_readReference_50 cI_2 ?_
        refine k_cvv [.inl 2] d_Content_readReference_51 ml_7_214 rfl rfl ob_6 rfl (s_Tree_note hL (by omega)  h) (fun σ13 h => ?_)
        refine k_aload_n d_Content_readReference_54 rfl ?_
        refine k_getR d_Content_readReference_55 fl_7_31 ob_7 rfl ?_
        refine k_iload_n d_Content_readReference_58 rfl ?_
        refine k_cvv [.inl v7] d_Content_readReference_59 ml_7_245 rfl rfl ob_6 rfl (s_Tree_addCharacter hL (by omega)  h) (fun σ15 h => ?_)
        exact k_sb (sb_n (sb_n sb_nil)) (hJ9 () _ h)
  · have h := ineg c3 h
    exact k_ret d_Content_readReference_17 h
theorem d_Reader_readRun_0 : decode b_Reader_readRun 0 = .ok (.aload_n 0, 1) := by decide +kernel
theorem d_Reader_readRun_1 : decode b_Reader_readRun 1 = .ok (.getfield 26, 3) := by decide +kernel
theorem d_Reader_readRun_4 : decode b_Reader_readRun 4 = .ok (.istore_n 1, 1) := by decide +kernel
theorem d_Reader_readRun_5 : decode b_Reader_readRun 5 = .ok (.aload_n 0, 1) := by decide +kernel
theorem d_Reader_readRun_6 : decode b_Reader_readRun 6 = .ok (.getfield 26, 3) := by decide +kernel
theorem d_Reader_readRun_9 : decode b_Reader_readRun 9 = .ok (.istore_n 2, 1) := by decide +kernel
theorem d_Reader_readRun_10 : decode b_Reader_readRun 10 = .ok (.iload_n 2, 1) := by decide +kernel
theorem d_Reader_readRun_11 : decode b_Reader_readRun 11 = .ok (.aload_n 0, 1) := by decide +kernel
theorem d_Reader_readRun_12 : decode b_Reader_readRun 12 = .ok (.getfield 32, 3) := by decide +kernel
theorem d_Reader_readRun_15 : decode b_Reader_readRun 15 = .ok (.if_icmp .ge 90, 3) := by decide +kernel
theorem d_Reader_readRun_18 : decode b_Reader_readRun 18 = .ok (.aload_n 0, 1) := by decide +kernel
theorem d_Reader_readRun_19 : decode b_Reader_readRun 19 = .ok (.getfield 21, 3) := by decide +kernel
theorem d_Reader_readRun_22 : decode b_Reader_readRun 22 = .ok (.iload_n 2, 1) := by decide +kernel
theorem d_Reader_readRun_23 : decode b_Reader_readRun 23 = .ok (.iaload, 1) := by decide +kernel
theorem d_Reader_readRun_24 : decode b_Reader_readRun 24 = .ok (.bipush 60, 2) := by decide +kernel
theorem d_Reader_readRun_26 : decode b_Reader_readRun 26 = .ok (.if_icmp .eq 79, 3) := by decide +kernel
theorem d_Reader_readRun_29 : decode b_Reader_readRun 29 = .ok (.aload_n 0, 1) := by decide +kernel
theorem d_Reader_readRun_30 : decode b_Reader_readRun 30 = .ok (.getfield 21, 3) := by decide +kernel
theorem d_Reader_readRun_33 : decode b_Reader_readRun 33 = .ok (.iload_n 2, 1) := by decide +kernel
theorem d_Reader_readRun_34 : decode b_Reader_readRun 34 = .ok (.iaload, 1) := by decide +kernel
theorem d_Reader_readRun_35 : decode b_Reader_readRun 35 = .ok (.bipush 38, 2) := by decide +kernel
theorem d_Reader_readRun_37 : decode b_Reader_readRun 37 = .ok (.if_icmp .eq 68, 3) := by decide +kernel
theorem d_Reader_readRun_40 : decode b_Reader_readRun 40 = .ok (.aload_n 0, 1) := by decide +kernel
theorem d_Reader_readRun_41 : decode b_Reader_readRun 41 = .ok (.dup, 1) := by decide +kernel
theorem d_Reader_readRun_42 : decode b_Reader_readRun 42 = .ok (.getfield 26, 3) := by decide +kernel
theorem d_Reader_readRun_45 : decode b_Reader_readRun 45 = .ok (.iconst 1, 1) := by decide +kernel
theorem d_Reader_readRun_46 : decode b_Reader_readRun 46 = .ok (.iadd, 1) := by decide +kernel
theorem d_Reader_readRun_47 : decode b_Reader_readRun 47 = .ok (.putfield 26, 3) := by decide +kernel
theorem d_Reader_readRun_50 : decode b_Reader_readRun 50 = .ok (.aload_n 0, 1) := by decide +kernel
theorem d_Reader_readRun_51 : decode b_Reader_readRun 51 = .ok (.getfield 21, 3) := by decide +kernel
theorem d_Reader_readRun_54 : decode b_Reader_readRun 54 = .ok (.iload_n 2, 1) := by decide +kernel
theorem d_Reader_readRun_55 : decode b_Reader_readRun 55 = .ok (.iaload, 1) := by decide +kernel
theorem d_Reader_readRun_56 : decode b_Reader_readRun 56 = .ok (.bipush 62, 2) := by decide +kernel
theorem d_Reader_readRun_58 : decode b_Reader_readRun 58 = .ok (.if_icmp .ne 41, 3) := by decide +kernel
theorem d_Reader_readRun_61 : decode b_Reader_readRun 61 = .ok (.iload_n 2, 1) := by decide +kernel
theorem d_Reader_readRun_62 : decode b_Reader_readRun 62 = .ok (.iconst 2, 1) := by decide +kernel
theorem d_Reader_readRun_63 : decode b_Reader_readRun 63 = .ok (.isub, 1) := by decide +kernel
theorem d_Reader_readRun_64 : decode b_Reader_readRun 64 = .ok (.iload_n 1, 1) := by decide +kernel
theorem d_Reader_readRun_65 : decode b_Reader_readRun 65 = .ok (.if_icmp .lt 34, 3) := by decide +kernel
theorem d_Reader_readRun_68 : decode b_Reader_readRun 68 = .ok (.aload_n 0, 1) := by decide +kernel
theorem d_Reader_readRun_69 : decode b_Reader_readRun 69 = .ok (.getfield 21, 3) := by decide +kernel
theorem d_Reader_readRun_72 : decode b_Reader_readRun 72 = .ok (.iload_n 2, 1) := by decide +kernel
theorem d_Reader_readRun_73 : decode b_Reader_readRun 73 = .ok (.iconst 1, 1) := by decide +kernel
theorem d_Reader_readRun_74 : decode b_Reader_readRun 74 = .ok (.isub, 1) := by decide +kernel
theorem d_Reader_readRun_75 : decode b_Reader_readRun 75 = .ok (.iaload, 1) := by decide +kernel
theorem d_Reader_readRun_76 : decode b_Reader_readRun 76 = .ok (.bipush 93, 2) := by decide +kernel
theorem d_Reader_readRun_78 : decode b_Reader_readRun 78 = .ok (.if_icmp .ne 21, 3) := by decide +kernel
theorem d_Reader_readRun_81 : decode b_Reader_readRun 81 = .ok (.aload_n 0, 1) := by decide +kernel
theorem d_Reader_readRun_82 : decode b_Reader_readRun 82 = .ok (.getfield 21, 3) := by decide +kernel
theorem d_Reader_readRun_85 : decode b_Reader_readRun 85 = .ok (.iload_n 2, 1) := by decide +kernel
theorem d_Reader_readRun_86 : decode b_Reader_readRun 86 = .ok (.iconst 2, 1) := by decide +kernel
theorem d_Reader_readRun_87 : decode b_Reader_readRun 87 = .ok (.isub, 1) := by decide +kernel
theorem d_Reader_readRun_88 : decode b_Reader_readRun 88 = .ok (.iaload, 1) := by decide +kernel
theorem d_Reader_readRun_89 : decode b_Reader_readRun 89 = .ok (.bipush 93, 2) := by decide +kernel
theorem d_Reader_readRun_91 : decode b_Reader_readRun 91 = .ok (.if_icmp .ne 8, 3) := by decide +kernel
theorem d_Reader_readRun_94 : decode b_Reader_readRun 94 = .ok (.aload_n 0, 1) := by decide +kernel
theorem d_Reader_readRun_95 : decode b_Reader_readRun 95 = .ok (.iconst 5, 1) := by decide +kernel
theorem d_Reader_readRun_96 : decode b_Reader_readRun 96 = .ok (.invokevirtual 66, 3) := by decide +kernel
theorem d_Reader_readRun_99 : decode b_Reader_readRun 99 = .ok (.iinc 2 1, 3) := by decide +kernel
theorem d_Reader_readRun_102 : decode b_Reader_readRun 102 = .ok (.goto (-92), 3) := by decide +kernel
theorem d_Reader_readRun_105 : decode b_Reader_readRun 105 = .ok (.return_, 1) := by decide +kernel
/-- Reader_readRun -/
def w_Reader_readRun (L : Nat → Nat)  (Q : IS → Prop) (σ : IS) : Prop := WL (fun (K1 : Int → IS → Prop) (s3 : Int) (σ4 : IS) => ((s3 < (σ4.1 2 3) → (inL L 101 s3 ∧ (¬ (σ4.2 101 (Int.toNat s3)) = 60 → inL L 101 s3)))) ∧ if s3 < (σ4.1 2 3) ∧ (¬ (σ4.2 101 (Int.toNat s3)) = 60 ∧ (¬ (σ4.2 101 (Int.toNat s3)) = 38)) then inR ((σ4.1 2 2) + 1) ∧ inL L 101 s3 ∧ WJ (fun (s9 : Unit) (σ10 : IS) => inR (s3 + 1) ∧ K1 (s3 + 1) σ10) (fun J7 => (((σ4.2 101 (Int.toNat s3)) = 62 → (inR (s3 - 2) ∧ (¬ (s3 - 2) < (σ.1 2 2) → (inR (s3 - 1) ∧ inL L 101 (s3 - 1) ∧ ((σ4.2 101 (Int.toNat (s3 - 1))) = 93 → (inR (s3 - 2) ∧ inL L 101 (s3 - 2)))))))) ∧ if (σ4.2 101 (Int.toNat s3)) = 62 ∧ (¬ (s3 - 2) < (σ.1 2 2) ∧ ((σ4.2 101 (Int.toNat (s3 - 1))) = 93 ∧ ((σ4.2 101 (Int.toNat (s3 - 2))) = 93))) then w_Reader_fail L 5 (fun σ17 => J7 () σ17) (pf σ4 2 2 ((σ4.1 2 2) + 1)) else J7 () (pf σ4 2 2 ((σ4.1 2 2) + 1))) else Q σ4) (σ.1 2 2) σ
set_option maxHeartbeats 4000000 in
set_option maxRecDepth 20000 in
theorem s_Reader_readRun {L : Nat → Nat} (hL : ∀ r, L r < 2147483648) {d : Nat} (hd : 1 ≤ d)  {Q : IS → Prop} {σ : IS}  (h : w_Reader_readRun L  Q σ) : OkI BF L d 2 b_Reader_readRun 3 0 0 [] [some (.inr 2)] σ (qv Q) := by
  unfold w_Reader_readRun at h
  obtain ⟨d, rfl⟩ : ∃ e, d = e + 1 := ⟨d - 1, by omega⟩
  refine k_sb (lv' := [some (.inr 2), none, none]) (sb_s (sb_e (sb_e sb_nil))) ?_
  refine k_aload_n d_Reader_readRun_0 rfl ?_
  refine k_getI (x := (σ.1 2 2)) d_Reader_readRun_1 fl_2_26 ob_2 rfl rfl ?_
  refine k_istore_n (lv' := [some (.inr 2), some (.inl (σ.1 2 2)), none]) d_Reader_readRun_4 rfl rfl ?_
  refine k_aload_n d_Reader_readRun_5 rfl ?_
  refine k_getI (x := (σ.1 2 2)) d_Reader_readRun_6 fl_2_26 ob_2 rfl rfl ?_
  refine k_istore_n (lv' := [some (.inr 2), some (.inl (σ.1 2 2)), some (.inl (σ.1 2 2))]) d_Reader_readRun_9 rfl rfl ?_
  refine k_sb (lv' := [some (.inr 2), some (.inl (σ.1 2 2)), some (.inl (σ.1 2 2))]) (sb_s (sb_s (sb_s sb_nil))) ?_
  refine k_loop (S := Int) (st := fun _ => []) (lv := fun s3 => [some (.inr 2), some (.inl (σ.1 2 2)), some (.inl s3)]) (fun K1 hK2 s3 σ4 h => ?_) (σ.1 2 2) _ h
  refine k_iload_n d_Reader_readRun_10 rfl ?_
  refine k_aload_n d_Reader_readRun_11 rfl ?_
  refine k_getI (x := (σ4.1 2 3)) d_Reader_readRun_12 fl_2_32 ob_2 rfl rfl ?_
  obtain ⟨pt35, h⟩ := h
  have hX32 : (s3 < (σ4.1 2 3) ∧ (¬ (σ4.2 101 (Int.toNat s3)) = 60 ∧ (¬ (σ4.2 101 (Int.toNat s3)) = 38))) → OkI BF L (d + 1) 2 b_Reader_readRun 3 0 40 [] [some (.inr 2), some (.inl (σ.1 2 2)), some (.inl s3)] σ4 (qv Q) := fun e34 => by
    have h := ipos e34 h
    refine k_aload_n d_Reader_readRun_40 rfl ?_
    refine k_dup d_Reader_readRun_41 ?_
    refine k_getI (x := (σ4.1 2 2)) d_Reader_readRun_42 fl_2_26 ob_2 rfl rfl ?_
    refine k_iconst d_Reader_readRun_45 cI_1 ?_
    obtain ⟨p31, h⟩ := h
    refine k_iadd d_Reader_readRun_46 p31 ?_
    refine k_putI d_Reader_readRun_47 fl_2_26 ob_2 rfl ?_
    refine k_aload_n d_Reader_readRun_50 rfl ?_
    refine k_getR d_Reader_readRun_51 fl_2_21 ob_2 rfl ?_
    refine k_iload_n d_Reader_readRun_54 rfl ?_
    obtain ⟨p30, h⟩ := h
    refine k_ild (x := (σ4.2 101 (Int.toNat s3))) d_Reader_readRun_55 rI_101 p30 rfl ?_
    refine k_bipush d_Reader_readRun_56 cB_62 ?_
    refine k_join (S := Unit) (pc' := 99) (st' := fun s9 => []) (lv' := fun s9 => [some (.inr 2), some (.inl (σ.1 2 2)), some (.inl s3)]) (fun s9 σ10 h => ?_) (fun J7 hJ8 h => ?_) h
    · obtain ⟨p11, h⟩ := h
      refine k_iinc (lv' := [some (.inr 2), some (.inl (σ.1 2 2)), some (.inl (s3 + 1))]) d_Reader_readRun_99 cI_1 rfl rfl p11 rfl ?_
      refine k_goto d_Reader_readRun_102 rfl ?_
      exact k_sb (sb_s (sb_s (sb_s sb_nil))) (hK2 (s3 + 1) _ h)
    · obtain ⟨pt22, h⟩ := h
      have hX19 : ((σ4.2 101 (Int.toNat s3)) = 62 ∧ (¬ (s3 - 2) < (σ.1 2 2) ∧ ((σ4.2 101 (Int.toNat (s3 - 1))) = 93 ∧ ((σ4.2 101 (Int.toNat (s3 - 2))) = 93)))) → OkI BF L (d + 1) 2 b_Reader_readRun 3 0 94 [] [some (.inr 2), some (.inl (σ.1 2 2)), some (.inl s3)] (pf σ4 2 2 ((σ4.1 2 2) + 1)) (qv Q) := fun e21 => by
        have h := ipos e21 h
        refine k_aload_n d_Reader_readRun_94 rfl ?_
        refine k_iconst d_Reader_readRun_95 cI_5 ?_
        refine k_cvv [.inl 5] d_Reader_readRun_96 ml_2_66 rfl rfl ob_2 rfl (s_Reader_fail hL (by omega)  h) (fun σ17 h => ?_)
        exact k_sb (sb_s (sb_s (sb_s sb_nil))) (hJ8 () _ h)
      have hY20 : ¬ ((σ4.2 101 (Int.toNat s3)) = 62 ∧ (¬ (s3 - 2) < (σ.1 2 2) ∧ ((σ4.2 101 (Int.toNat (s3 - 1))) = 93 ∧ ((σ4.2 101 (Int.toNat (s3 - 2))) = 93)))) → OkI BF L (d + 1) 2 b_Reader_readRun 3 0 99 [] [some (.inr 2), some (.inl (σ.1 2 2)), some (.inl s3)] (pf σ4 2 2 ((σ4.1 2 2) + 1)) (qv Q) := fun e21 => by
        have h := ineg e21 h
        exact k_sb (sb_s (sb_s (sb_s sb_nil))) (hJ8 () _ h)
      have pa23 := pt22
      refine k_icne d_Reader_readRun_58 rfl (fun c24 => ?_) (fun c24 => ?_)
      · exact hY20 (fun z => c24 z.1)
      · have pa23 := pa23 c24
        obtain ⟨p12, pb25⟩ := pa23
        refine k_iload_n d_Reader_readRun_61 rfl ?_
        refine k_iconst d_Reader_readRun_62 cI_2 ?_
        refine k_isub d_Reader_readRun_63 p12 ?_
        refine k_iload_n d_Reader_readRun_64 rfl ?_
        refine k_iclt d_Reader_readRun_65 rfl (fun c26 => ?_) (fun c26 => ?_)
        · exact hY20 (fun z => (fun z => z.1 c26) z.2)
        · have pb25 := pb25 c26
          obtain ⟨p13, p14, pa27⟩ := pb25
          refine k_aload_n d_Reader_readRun_68 rfl ?_
          refine k_getR d_Reader_readRun_69 fl_2_21 ob_2 rfl ?_
          refine k_iload_n d_Reader_readRun_72 rfl ?_
          refine k_iconst d_Reader_readRun_73 cI_1 ?_
          refine k_isub d_Reader_readRun_74 p13 ?_
          refine k_ild (x := (σ4.2 101 (Int.toNat (s3 - 1)))) d_Reader_readRun_75 rI_101 p14 rfl ?_
          refine k_bipush d_Reader_readRun_76 cB_93 ?_
          refine k_icne d_Reader_readRun_78 rfl (fun c28 => ?_) (fun c28 => ?_)
          · exact hY20 (fun z => (fun z => (fun z => c28 z.1) z.2) z.2)
          · have pa27 := pa27 c28
            obtain ⟨p15, p16⟩ := pa27
            refine k_aload_n d_Reader_readRun_81 rfl ?_
            refine k_getR d_Reader_readRun_82 fl_2_21 ob_2 rfl ?_
            refine k_iload_n d_Reader_readRun_85 rfl ?_
            refine k_iconst d_Reader_readRun_86 cI_2 ?_
            refine k_isub d_Reader_readRun_87 p15 ?_
            refine k_ild (x := (σ4.2 101 (Int.toNat (s3 - 2)))) d_Reader_readRun_88 rI_101 p16 rfl ?_
            refine k_bipush d_Reader_readRun_89 cB_93 ?_
            refine k_icne d_Reader_readRun_91 rfl (fun c29 => ?_) (fun c29 => ?_)
            · exact hY20 (fun z => (fun z => (fun z => (c29) z.2) z.2) z.2)
            · exact hX19 (⟨c24, ⟨c26, ⟨c28, c29⟩⟩⟩)
  have hY33 : ¬ (s3 < (σ4.1 2 3) ∧ (¬ (σ4.2 101 (Int.toNat s3)) = 60 ∧ (¬ (σ4.2 101 (Int.toNat s3)) = 38))) → OkI BF L (d + 1) 2 b_Reader_readRun 3 0 105 [] [some (.inr 2), some (.inl (σ.1 2 2)), some (.inl s3)] σ4 (qv Q) := fun e34 => by
    have h := ineg e34 h
    exact k_ret d_Reader_readRun_105 h
  have pa36 := pt35
  refine k_icge d_Reader_readRun_15 rfl (fun c37 => ?_) (fun c37 => ?_)
  · exact hY33 (fun z => c37 z.1)
  · have pa36 := pa36 c37
    obtain ⟨p5, pb38⟩ := pa36
    refine k_aload_n d_Reader_readRun_18 rfl ?_
    refine k_getR d_Reader_readRun_19 fl_2_21 ob_2 rfl ?_
    refine k_iload_n d_Reader_readRun_22 rfl ?_
    refine k_ild (x := (σ4.2 101 (Int.toNat s3))) d_Reader_readRun_23 rI_101 p5 rfl ?_
    refine k_bipush d_Reader_readRun_24 cB_60 ?_
    refine k_iceq d_Reader_readRun_26 rfl (fun c39 => ?_) (fun c39 => ?_)
    · exact hY33 (fun z => (fun z => z.1 c39) z.2)
    · have pb38 := pb38 c39
      have p6 := pb38
      refine k_aload_n d_Reader_readRun_29 rfl ?_
      refine k_getR d_Reader_readRun_30 fl_2_21 ob_2 rfl ?_
      refine k_iload_n d_Reader_readRun_33 rfl ?_
      refine k_ild (x := (σ4.2 101 (Int.toNat s3))) d_Reader_readRun_34 rI_101 p6 rfl ?_
      refine k_bipush d_Reader_readRun_35 cB_38 ?_
      refine k_iceq d_Reader_readRun_37 rfl (fun c40 => ?_) (fun c40 => ?_)
      · exact hY33 (fun z => (fun z => (fun z => z c40) z.2) z.2)
      · exact hX32 (⟨c37, ⟨c39, c40⟩⟩)
theorem d_Content_readRun_0 : decode b_Content_readRun 0 = .ok (.aload_n 0, 1) := by decide +kernel
theorem d_Content_readRun_1 : decode b_Content_readRun 1 = .ok (.getfield 15, 3) := by decide +kernel
theorem d_Content_readRun_4 : decode b_Content_readRun 4 = .ok (.getfield 47, 3) := by decide +kernel
theorem d_Content_readRun_7 : decode b_Content_readRun 7 = .ok (.istore_n 1, 1) := by decide +kernel
theorem d_Content_readRun_8 : decode b_Content_readRun 8 = .ok (.aload_n 0, 1) := by decide +kernel
theorem d_Content_readRun_9 : decode b_Content_readRun 9 = .ok (.getfield 15, 3) := by decide +kernel
theorem d_Content_readRun_12 : decode b_Content_readRun 12 = .ok (.invokevirtual 248, 3) := by decide +kernel
theorem d_Content_readRun_15 : decode b_Content_readRun 15 = .ok (.aload_n 0, 1) := by decide +kernel
theorem d_Content_readRun_16 : decode b_Content_readRun 16 = .ok (.getfield 31, 3) := by decide +kernel
theorem d_Content_readRun_19 : decode b_Content_readRun 19 = .ok (.iconst 1, 1) := by decide +kernel
theorem d_Content_readRun_20 : decode b_Content_readRun 20 = .ok (.invokevirtual 214, 3) := by decide +kernel
theorem d_Content_readRun_23 : decode b_Content_readRun 23 = .ok (.iload_n 1, 1) := by decide +kernel
theorem d_Content_readRun_24 : decode b_Content_readRun 24 = .ok (.istore_n 2, 1) := by decide +kernel
theorem d_Content_readRun_25 : decode b_Content_readRun 25 = .ok (.iload_n 2, 1) := by decide +kernel
theorem d_Content_readRun_26 : decode b_Content_readRun 26 = .ok (.aload_n 0, 1) := by decide +kernel
theorem d_Content_readRun_27 : decode b_Content_readRun 27 = .ok (.getfield 15, 3) := by decide +kernel
theorem d_Content_readRun_30 : decode b_Content_readRun 30 = .ok (.getfield 47, 3) := by decide +kernel
theorem d_Content_readRun_33 : decode b_Content_readRun 33 = .ok (.if_icmp .ge 42, 3) := by decide +kernel
theorem d_Content_readRun_36 : decode b_Content_readRun 36 = .ok (.aload_n 0, 1) := by decide +kernel
theorem d_Content_readRun_37 : decode b_Content_readRun 37 = .ok (.getfield 9, 3) := by decide +kernel
theorem d_Content_readRun_40 : decode b_Content_readRun 40 = .ok (.getfield 50, 3) := by decide +kernel
theorem d_Content_readRun_43 : decode b_Content_readRun 43 = .ok (.iload_n 2, 1) := by decide +kernel
theorem d_Content_readRun_44 : decode b_Content_readRun 44 = .ok (.iaload, 1) := by decide +kernel
theorem d_Content_readRun_45 : decode b_Content_readRun 45 = .ok (.istore_n 3, 1) := by decide +kernel
theorem d_Content_readRun_46 : decode b_Content_readRun 46 = .ok (.iload_n 3, 1) := by decide +kernel
theorem d_Content_readRun_47 : decode b_Content_readRun 47 = .ok (.invokestatic 56, 3) := by decide +kernel
theorem d_Content_readRun_50 : decode b_Content_readRun 50 = .ok (.ifCond .ne 11, 3) := by decide +kernel
theorem d_Content_readRun_53 : decode b_Content_readRun 53 = .ok (.aload_n 0, 1) := by decide +kernel
theorem d_Content_readRun_54 : decode b_Content_readRun 54 = .ok (.getfield 31, 3) := by decide +kernel
theorem d_Content_readRun_57 : decode b_Content_readRun 57 = .ok (.iconst 2, 1) := by decide +kernel
theorem d_Content_readRun_58 : decode b_Content_readRun 58 = .ok (.invokevirtual 214, 3) := by decide +kernel
theorem d_Content_readRun_61 : decode b_Content_readRun 61 = .ok (.aload_n 0, 1) := by decide +kernel
theorem d_Content_readRun_62 : decode b_Content_readRun 62 = .ok (.getfield 31, 3) := by decide +kernel
theorem d_Content_readRun_65 : decode b_Content_readRun 65 = .ok (.iload_n 3, 1) := by decide +kernel
theorem d_Content_readRun_66 : decode b_Content_readRun 66 = .ok (.invokevirtual 245, 3) := by decide +kernel
theorem d_Content_readRun_69 : decode b_Content_readRun 69 = .ok (.iinc 2 1, 3) := by decide +kernel
theorem d_Content_readRun_72 : decode b_Content_readRun 72 = .ok (.goto (-47), 3) := by decide +kernel
theorem d_Content_readRun_75 : decode b_Content_readRun 75 = .ok (.return_, 1) := by decide +kernel
/-- Content_readRun -/
def w_Content_readRun (L : Nat → Nat)  (Q : IS → Prop) (σ : IS) : Prop := w_Reader_readRun L  (fun σ1 => w_Tree_note L 1 (fun σ3 => WL (fun (K5 : Int → IS → Prop) (s7 : Int) (σ8 : IS) => if s7 < (σ8.1 2 2) then inL L 101 s7 ∧ w_Reader_isSpace L (σ8.2 101 (Int.toNat s7)) (fun v11 σ10 => WJ (fun (s14 : Unit) (σ15 : IS) => w_Tree_addCharacter L (σ8.2 101 (Int.toNat s7)) (fun σ16 => inR (s7 + 1) ∧ K5 (s7 + 1) σ16) σ15) (fun J12 => if v11 = 0 then w_Tree_note L 2 (fun σ20 => J12 () σ20) σ10 else J12 () σ10)) σ8 else Q σ8) (σ.1 2 2) σ3) σ1) σ
set_option maxHeartbeats 4000000 in
set_option maxRecDepth 20000 in
theorem s_Content_readRun {L : Nat → Nat} (hL : ∀ r, L r < 2147483648) {d : Nat} (hd : 2 ≤ d)  {Q : IS → Prop} {σ : IS}  (h : w_Content_readRun L  Q σ) : OkI BF L d 7 b_Content_readRun 4 0 0 [] [some (.inr 7)] σ (qv Q) := by
  unfold w_Content_readRun at h
  obtain ⟨d, rfl⟩ : ∃ e, d = e + 1 := ⟨d - 1, by omega⟩
  refine k_sb (lv' := [some (.inr 7), none, none, none]) (sb_s (sb_e (sb_e (sb_e sb_nil)))) ?_
  refine k_aload_n d_Content_readRun_0 rfl ?_
  refine k_getR d_Content_readRun_1 fl_7_15 ob_7 rfl ?_
  refine k_getI (x := (σ.1 2 2)) d_Content_readRun_4 fl_7_47 ob_2 rfl rfl ?_
  refine k_istore_n (lv' := [some (.inr 7), some (.inl (σ.1 2 2)), none, none]) d_Content_readRun_7 rfl rfl ?_
  refine k_aload_n d_Content_readRun_8 rfl ?_
  refine k_getR d_Content_readRun_9 fl_7_15 ob_7 rfl ?_
  refine k_cvv [] d_Content_readRun_12 ml_7_248 rfl rfl ob_2 rfl (s_Reader_readRun hL (by omega)  h) (fun σ1 h => ?_)
  refine k_aload_n d_Content_readRun_15 rfl ?_
  refine k_getR d_Content_readRun_16 fl_7_31 ob_7 rfl ?_
  refine k_iconst d_Content_readRun_19 cI_1 ?_
  refine k_cvv [.inl 1] d_Content_readRun_20 ml_7_214 rfl rfl ob_6 rfl (s_Tree_note hL (by omega)  h) (fun σ3 h => ?_)
  refine k_iload_n d_Content_readRun_23 rfl ?_
  refine k_istore_n (lv' := [some (.inr 7), some (.inl (σ.1 2 2)), some (.inl (σ.1 2 2)), none]) d_Content_readRun_24 rfl rfl ?_
  refine k_sb (lv' := [some (.inr 7), none, some (.inl (σ.1 2 2)), none]) (sb_s (sb_n (sb_s (sb_s sb_nil)))) ?_
  refine k_loop (S := Int) (st := fun _ => []) (lv := fun s7 => [some (.inr 7), none, some (.inl s7), none]) (fun K5 hK6 s7 σ8 h => ?_) (σ.1 2 2) _ h
  refine k_iload_n d_Content_readRun_25 rfl ?_
  refine k_aload_n d_Content_readRun_26 rfl ?_
  refine k_getR d_Content_readRun_27 fl_7_15 ob_7 rfl ?_
  refine k_getI (x := (σ8.1 2 2)) d_Content_readRun_30 fl_7_47 ob_2 rfl rfl ?_
  refine k_icge d_Content_readRun_33 rfl (fun c9 => ?_) (fun c9 => ?_)
  · have h := ineg c9 h
    exact k_ret d_Content_readRun_75 h
  · have h := ipos c9 h
    refine k_aload_n d_Content_readRun_36 rfl ?_
    refine k_getR d_Content_readRun_37 fl_7_9 ob_7 rfl ?_
    refine k_getR d_Content_readRun_40 fl_7_50 ob_1 rfl ?_
    refine k_iload_n d_Content_readRun_43 rfl ?_
    obtain ⟨p22, h⟩ := h
    refine k_ild (x := (σ8.2 101 (Int.toNat s7))) d_Content_readRun_44 rI_101 p22 rfl ?_
    refine k_istore_n (lv' := [some (.inr 7), none, some (.inl s7), some (.inl (σ8.2 101 (Int.toNat s7)))]) d_Content_readRun_45 rfl rfl ?_
    refine k_iload_n d_Content_readRun_46 rfl ?_
    refine k_csi [.inl (σ8.2 101 (Int.toNat s7))] d_Content_readRun_47 ml_7_56 (Or.inl rfl) rfl rfl rfl (s_Reader_isSpace hL (by omega)  h) (fun v11 σ10 h => ?_)
    refine k_join (S := Unit) (pc' := 61) (st' := fun s14 => []) (lv' := fun s14 => [some (.inr 7), none, some (.inl s7), some (.inl (σ8.2 101 (Int.toNat s7)))]) (fun s14 σ15 h => ?_) (fun J12 hJ13 h => ?_) h
    · refine k_aload_n d_Content_readRun_61 rfl ?_
      refine k_getR d_Content_readRun_62 fl_7_31 ob_7 rfl ?_
      refine k_iload_n d_Content_readRun_65 rfl ?_
      refine k_cvv [.inl (σ8.2 101 (Int.toNat s7))] d_Content_readRun_66 ml_7_245 rfl rfl ob_6 rfl (s_Tree_addCharacter hL (by omega)  h) (fun σ16 h => ?_)
      obtain ⟨p18, h⟩ := h
      refine k_iinc (lv' := [some (.inr 7), none, some (.inl (s7 + 1)), some (.inl (σ8.2 101 (Int.toNat s7)))]) d_Content_readRun_69 cI_1 rfl rfl p18 rfl ?_
      refine k_goto d_Content_readRun_72 rfl ?_
      exact k_sb (sb_s (sb_s (sb_s (sb_n sb_nil)))) (hK6 (s7 + 1) _ h)
    · refine k_ifne d_Content_readRun_50 rfl (fun c19 => ?_) (fun c19 => ?_)
      · have h := ineg c19 h
        exact k_sb (sb_s (sb_s (sb_s (sb_s sb_nil)))) (hJ13 () _ h)
      · have h := ipos c19 h
        refine k_aload_n d_Content_readRun_53 rfl ?_
        refine k_getR d_Content_readRun_54 fl_7_31 ob_7 rfl ?_
        refine k_iconst d_Content_readRun_57 cI_2 ?_
        refine k_cvv [.inl 2] d_Content_readRun_58 ml_7_214 rfl rfl ob_6 rfl (s_Tree_note hL (by omega)  h) (fun σ20 h => ?_)
        exact k_sb (sb_s (sb_s (sb_s (sb_s sb_nil)))) (hJ13 () _ h)
theorem d_Tree_endElement_0 : decode b_Tree_endElement 0 = .ok (.aload_n 0, 1) := by decide +kernel
theorem d_Tree_endElement_1 : decode b_Tree_endElement 1 = .ok (.getfield 46, 3) := by decide +kernel
theorem d_Tree_endElement_4 : decode b_Tree_endElement 4 = .ok (.iconst (-1), 1) := by decide +kernel
theorem d_Tree_endElement_5 : decode b_Tree_endElement 5 = .ok (.if_icmp .eq 21, 3) := by decide +kernel
theorem d_Tree_endElement_8 : decode b_Tree_endElement 8 = .ok (.aload_n 0, 1) := by decide +kernel
theorem d_Tree_endElement_9 : decode b_Tree_endElement 9 = .ok (.iconst (-1), 1) := by decide +kernel
theorem d_Tree_endElement_10 : decode b_Tree_endElement 10 = .ok (.invokevirtual 68, 3) := by decide +kernel
theorem d_Tree_endElement_13 : decode b_Tree_endElement 13 = .ok (.aload_n 0, 1) := by decide +kernel
theorem d_Tree_endElement_14 : decode b_Tree_endElement 14 = .ok (.aload_n 0, 1) := by decide +kernel
theorem d_Tree_endElement_15 : decode b_Tree_endElement 15 = .ok (.getfield 19, 3) := by decide +kernel
theorem d_Tree_endElement_18 : decode b_Tree_endElement 18 = .ok (.aload_n 0, 1) := by decide +kernel
theorem d_Tree_endElement_19 : decode b_Tree_endElement 19 = .ok (.getfield 46, 3) := by decide +kernel
theorem d_Tree_endElement_22 : decode b_Tree_endElement 22 = .ok (.iaload, 1) := by decide +kernel
theorem d_Tree_endElement_23 : decode b_Tree_endElement 23 = .ok (.putfield 46, 3) := by decide +kernel
theorem d_Tree_endElement_26 : decode b_Tree_endElement 26 = .ok (.return_, 1) := by decide +kernel
/-- Tree_endElement -/
def w_Tree_endElement (L : Nat → Nat)  (Q : IS → Prop) (σ : IS) : Prop := WJ (fun (s3 : Unit) (σ4 : IS) => Q σ4) (fun J1 => if (σ.1 6 3) = (-1) then J1 () σ else w_Tree_put L (-1) (fun σ6 => inL L 129 (σ6.1 6 3) ∧ J1 () (pf σ6 6 3 (σ6.2 129 (Int.toNat (σ6.1 6 3))))) σ)
set_option maxHeartbeats 4000000 in
set_option maxRecDepth 20000 in
theorem s_Tree_endElement {L : Nat → Nat} (hL : ∀ r, L r < 2147483648) {d : Nat} (hd : 1 ≤ d)  {Q : IS → Prop} {σ : IS}  (h : w_Tree_endElement L  Q σ) : OkI BF L d 6 b_Tree_endElement 1 0 0 [] [some (.inr 6)] σ (qv Q) := by
  unfold w_Tree_endElement at h
  obtain ⟨d, rfl⟩ : ∃ e, d = e + 1 := ⟨d - 1, by omega⟩
  refine k_sb (lv' := [some (.inr 6)]) (sb_s sb_nil) ?_
  refine k_aload_n d_Tree_endElement_0 rfl ?_
  refine k_getI (x := (σ.1 6 3)) d_Tree_endElement_1 fl_6_46 ob_6 rfl rfl ?_
  refine k_iconst d_Tree_endElement_4 cI_m1 ?_
  refine k_join (S := Unit) (pc' := 26) (st' := fun s3 => []) (lv' := fun s3 => [none]) (fun s3 σ4 h => ?_) (fun J1 hJ2 h => ?_) h
  · exact k_ret d_Tree_endElement_26 h
  · refine k_iceq d_Tree_endElement_5 rfl (fun c5 => ?_) (fun c5 => ?_)
    · have h := ipos c5 h
      exact k_sb (sb_n sb_nil) (hJ2 () _ h)
    · have h := ineg c5 h
      refine k_aload_n d_Tree_endElement_8 rfl ?_
      refine k_iconst d_Tree_endElement_9 cI_m1 ?_
      refine k_cvv [.inl (-1)] d_Tree_endElement_10 ml_6_68 rfl rfl ob_6 rfl (s_Tree_put hL (by omega)  h) (fun σ6 h => ?_)
      refine k_aload_n d_Tree_endElement_13 rfl ?_
      refine k_aload_n d_Tree_endElement_14 rfl ?_
      refine k_getR d_Tree_endElement_15 fl_6_19 ob_6 rfl ?_
      refine k_aload_n d_Tree_endElement_18 rfl ?_
      refine k_getI (x := (σ6.1 6 3)) d_Tree_endElement_19 fl_6_46 ob_6 rfl rfl ?_
      obtain ⟨p8, h⟩ := h
      refine k_ild (x := (σ6.2 129 (Int.toNat (σ6.1 6 3)))) d_Tree_endElement_22 rI_129 p8 rfl ?_
      refine k_putI d_Tree_endElement_23 fl_6_46 ob_6 rfl ?_
      exact k_sb (sb_n sb_nil) (hJ2 () _ h)
theorem d_Content_readEnd_0 : decode b_Content_readEnd 0 = .ok (.aload_n 0, 1) := by decide +kernel
theorem d_Content_readEnd_1 : decode b_Content_readEnd 1 = .ok (.getfield 15, 3) := by decide +kernel
theorem d_Content_readEnd_4 : decode b_Content_readEnd 4 = .ok (.ldc 193, 2) := by decide +kernel
theorem d_Content_readEnd_6 : decode b_Content_readEnd 6 = .ok (.invokevirtual 119, 3) := by decide +kernel
theorem d_Content_readEnd_9 : decode b_Content_readEnd 9 = .ok (.aload_n 0, 1) := by decide +kernel
theorem d_Content_readEnd_10 : decode b_Content_readEnd 10 = .ok (.getfield 15, 3) := by decide +kernel
theorem d_Content_readEnd_13 : decode b_Content_readEnd 13 = .ok (.invokevirtual 250, 3) := by decide +kernel
theorem d_Content_readEnd_16 : decode b_Content_readEnd 16 = .ok (.istore_n 1, 1) := by decide +kernel
theorem d_Content_readEnd_17 : decode b_Content_readEnd 17 = .ok (.aload_n 0, 1) := by decide +kernel
theorem d_Content_readEnd_18 : decode b_Content_readEnd 18 = .ok (.getfield 15, 3) := by decide +kernel
theorem d_Content_readEnd_21 : decode b_Content_readEnd 21 = .ok (.getfield 47, 3) := by decide +kernel
theorem d_Content_readEnd_24 : decode b_Content_readEnd 24 = .ok (.iload_n 1, 1) := by decide +kernel
theorem d_Content_readEnd_25 : decode b_Content_readEnd 25 = .ok (.isub, 1) := by decide +kernel
theorem d_Content_readEnd_26 : decode b_Content_readEnd 26 = .ok (.istore_n 2, 1) := by decide +kernel
theorem d_Content_readEnd_27 : decode b_Content_readEnd 27 = .ok (.aload_n 0, 1) := by decide +kernel
theorem d_Content_readEnd_28 : decode b_Content_readEnd 28 = .ok (.getfield 15, 3) := by decide +kernel
theorem d_Content_readEnd_31 : decode b_Content_readEnd 31 = .ok (.invokevirtual 140, 3) := by decide +kernel
theorem d_Content_readEnd_34 : decode b_Content_readEnd 34 = .ok (.pop, 1) := by decide +kernel
theorem d_Content_readEnd_35 : decode b_Content_readEnd 35 = .ok (.aload_n 0, 1) := by decide +kernel
theorem d_Content_readEnd_36 : decode b_Content_readEnd 36 = .ok (.getfield 15, 3) := by decide +kernel
theorem d_Content_readEnd_39 : decode b_Content_readEnd 39 = .ok (.ldc 253, 2) := by decide +kernel
theorem d_Content_readEnd_41 : decode b_Content_readEnd 41 = .ok (.invokevirtual 119, 3) := by decide +kernel
theorem d_Content_readEnd_44 : decode b_Content_readEnd 44 = .ok (.aload_n 0, 1) := by decide +kernel
theorem d_Content_readEnd_45 : decode b_Content_readEnd 45 = .ok (.getfield 9, 3) := by decide +kernel
theorem d_Content_readEnd_48 : decode b_Content_readEnd 48 = .ok (.iload_n 1, 1) := by decide +kernel
theorem d_Content_readEnd_49 : decode b_Content_readEnd 49 = .ok (.iload_n 2, 1) := by decide +kernel
theorem d_Content_readEnd_50 : decode b_Content_readEnd 50 = .ok (.invokevirtual 255, 3) := by decide +kernel
theorem d_Content_readEnd_53 : decode b_Content_readEnd 53 = .ok (.aload_n 0, 1) := by decide +kernel
theorem d_Content_readEnd_54 : decode b_Content_readEnd 54 = .ok (.getfield 31, 3) := by decide +kernel
theorem d_Content_readEnd_57 : decode b_Content_readEnd 57 = .ok (.getfield 259, 3) := by decide +kernel
theorem d_Content_readEnd_60 : decode b_Content_readEnd 60 = .ok (.aload_n 0, 1) := by decide +kernel
theorem d_Content_readEnd_61 : decode b_Content_readEnd 61 = .ok (.getfield 31, 3) := by decide +kernel
theorem d_Content_readEnd_64 : decode b_Content_readEnd 64 = .ok (.getfield 91, 3) := by decide +kernel
theorem d_Content_readEnd_67 : decode b_Content_readEnd 67 = .ok (.iaload, 1) := by decide +kernel
theorem d_Content_readEnd_68 : decode b_Content_readEnd 68 = .ok (.if_icmp .eq 12, 3) := by decide +kernel
theorem d_Content_readEnd_71 : decode b_Content_readEnd 71 = .ok (.aload_n 0, 1) := by decide +kernel
theorem d_Content_readEnd_72 : decode b_Content_readEnd 72 = .ok (.getfield 15, 3) := by decide +kernel
theorem d_Content_readEnd_75 : decode b_Content_readEnd 75 = .ok (.bipush 7, 2) := by decide +kernel
theorem d_Content_readEnd_77 : decode b_Content_readEnd 77 = .ok (.invokevirtual 108, 3) := by decide +kernel
theorem d_Content_readEnd_80 : decode b_Content_readEnd 80 = .ok (.aload_n 0, 1) := by decide +kernel
theorem d_Content_readEnd_81 : decode b_Content_readEnd 81 = .ok (.getfield 31, 3) := by decide +kernel
theorem d_Content_readEnd_84 : decode b_Content_readEnd 84 = .ok (.getfield 91, 3) := by decide +kernel
theorem d_Content_readEnd_87 : decode b_Content_readEnd 87 = .ok (.aload_n 0, 1) := by decide +kernel
theorem d_Content_readEnd_88 : decode b_Content_readEnd 88 = .ok (.getfield 19, 3) := by decide +kernel
theorem d_Content_readEnd_91 : decode b_Content_readEnd 91 = .ok (.invokevirtual 112, 3) := by decide +kernel
theorem d_Content_readEnd_94 : decode b_Content_readEnd 94 = .ok (.if_icmp .ne 12, 3) := by decide +kernel
theorem d_Content_readEnd_97 : decode b_Content_readEnd 97 = .ok (.aload_n 0, 1) := by decide +kernel
theorem d_Content_readEnd_98 : decode b_Content_readEnd 98 = .ok (.getfield 15, 3) := by decide +kernel
theorem d_Content_readEnd_101 : decode b_Content_readEnd 101 = .ok (.bipush 14, 2) := by decide +kernel
theorem d_Content_readEnd_103 : decode b_Content_readEnd 103 = .ok (.invokevirtual 108, 3) := by decide +kernel
theorem d_Content_readEnd_106 : decode b_Content_readEnd 106 = .ok (.aload_n 0, 1) := by decide +kernel
theorem d_Content_readEnd_107 : decode b_Content_readEnd 107 = .ok (.getfield 31, 3) := by decide +kernel
theorem d_Content_readEnd_110 : decode b_Content_readEnd 110 = .ok (.invokevirtual 262, 3) := by decide +kernel
theorem d_Content_readEnd_113 : decode b_Content_readEnd 113 = .ok (.return_, 1) := by decide +kernel
/-- Content_readEnd -/
def w_Content_readEnd (L : Nat → Nat)  (Q : IS → Prop) (σ : IS) : Prop := w_Reader_need L 1015 (fun σ1 => w_Reader_readName L  (fun v4 σ3 => inR ((σ3.1 2 2) - v4) ∧ w_Reader_skipSpace L  (fun v6 σ5 => w_Reader_need L 1018 (fun σ7 => w_Store_find L v4 ((σ3.1 2 2) - v4) (fun v10 σ9 => inL L 146 (σ9.1 6 3) ∧ WJ (fun (s13 : Unit) (σ14 : IS) => w_Entities_elementBefore L  (fun v16 σ15 => WJ (fun (s19 : Unit) (σ20 : IS) => w_Tree_endElement L  (fun σ21 => Q σ21) σ20) (fun J17 => if (σ14.1 6 3) = v16 then w_Reader_fail L 14 (fun σ24 => J17 () σ24) σ15 else J17 () σ15)) σ14) (fun J11 => if v10 = (σ9.2 146 (Int.toNat (σ9.1 6 3))) then J11 () σ9 else w_Reader_fail L 7 (fun σ27 => J11 () σ27) σ9)) σ7) σ5) σ3) σ1) σ
set_option maxHeartbeats 4000000 in
set_option maxRecDepth 20000 in
theorem s_Content_readEnd {L : Nat → Nat} (hL : ∀ r, L r < 2147483648) {d : Nat} (hd : 2 ≤ d)  {Q : IS → Prop} {σ : IS}  (h : w_Content_readEnd L  Q σ) : OkI BF L d 7 b_Content_readEnd 3 0 0 [] [some (.inr 7)] σ (qv Q) := by
  unfold w_Content_readEnd at h
  obtain ⟨d, rfl⟩ : ∃ e, d = e + 1 := ⟨d - 1, by omega⟩
  refine k_sb (lv' := [some (.inr 7), none, none]) (sb_s (sb_e (sb_e sb_nil))) ?_
  refine k_aload_n d_Content_readEnd_0 rfl ?_
  refine k_getR d_Content_readEnd_1 fl_7_15 ob_7 rfl ?_
  refine k_ldc d_Content_readEnd_4 ks_7_193 rfl ?_
  refine k_cvv [.inr 1015] d_Content_readEnd_6 ml_7_119 rfl rfl ob_2 rfl (s_Reader_need hL (by omega) it_1015 h) (fun σ1 h => ?_)
  refine k_aload_n d_Content_readEnd_9 rfl ?_
  refine k_getR d_Content_readEnd_10 fl_7_15 ob_7 rfl ?_
  refine k_cvi [] d_Content_readEnd_13 ml_7_250 rfl rfl ob_2 rfl (s_Reader_readName hL (by omega)  h) (fun v4 σ3 h => ?_)
  refine k_istore_n (lv' := [some (.inr 7), some (.inl v4), none]) d_Content_readEnd_16 rfl rfl ?_
  refine k_aload_n d_Content_readEnd_17 rfl ?_
  refine k_getR d_Content_readEnd_18 fl_7_15 ob_7 rfl ?_
  refine k_getI (x := (σ3.1 2 2)) d_Content_readEnd_21 fl_7_47 ob_2 rfl rfl ?_
  refine k_iload_n d_Content_readEnd_24 rfl ?_
  obtain ⟨p30, h⟩ := h
  refine k_isub d_Content_readEnd_25 p30 ?_
  refine k_istore_n (lv' := [some (.inr 7), some (.inl v4), some (.inl ((σ3.1 2 2) - v4))]) d_Content_readEnd_26 rfl rfl ?_
  refine k_aload_n d_Content_readEnd_27 rfl ?_
  refine k_getR d_Content_readEnd_28 fl_7_15 ob_7 rfl ?_
  refine k_cvi [] d_Content_readEnd_31 ml_7_140 rfl rfl ob_2 rfl (s_Reader_skipSpace hL (by omega)  h) (fun v6 σ5 h => ?_)
  refine k_pop d_Content_readEnd_34 ?_
  refine k_aload_n d_Content_readEnd_35 rfl ?_
  refine k_getR d_Content_readEnd_36 fl_7_15 ob_7 rfl ?_
  refine k_ldc d_Content_readEnd_39 ks_7_253 rfl ?_
  refine k_cvv [.inr 1018] d_Content_readEnd_41 ml_7_119 rfl rfl ob_2 rfl (s_Reader_need hL (by omega) it_1018 h) (fun σ7 h => ?_)
  refine k_aload_n d_Content_readEnd_44 rfl ?_
  refine k_getR d_Content_readEnd_45 fl_7_9 ob_7 rfl ?_
  refine k_iload_n d_Content_readEnd_48 rfl ?_
  refine k_iload_n d_Content_readEnd_49 rfl ?_
  refine k_cvi [.inl v4, .inl ((σ3.1 2 2) - v4)] d_Content_readEnd_50 ml_7_255 rfl rfl ob_1 rfl (s_Store_find hL (by omega) stB_BF h) (fun v10 σ9 h => ?_)
  refine k_aload_n d_Content_readEnd_53 rfl ?_
  refine k_getR d_Content_readEnd_54 fl_7_31 ob_7 rfl ?_
  refine k_getR d_Content_readEnd_57 fl_7_259 ob_6 rfl ?_
  refine k_aload_n d_Content_readEnd_60 rfl ?_
  refine k_getR d_Content_readEnd_61 fl_7_31 ob_7 rfl ?_
  refine k_getI (x := (σ9.1 6 3)) d_Content_readEnd_64 fl_7_91 ob_6 rfl rfl ?_
  obtain ⟨p29, h⟩ := h
  refine k_ild (x := (σ9.2 146 (Int.toNat (σ9.1 6 3)))) d_Content_readEnd_67 rI_146 p29 rfl ?_
  refine k_join (S := Unit) (pc' := 80) (st' := fun s13 => []) (lv' := fun s13 => [some (.inr 7), none, none]) (fun s13 σ14 h => ?_) (fun J11 hJ12 h => ?_) h
  · refine k_aload_n d_Content_readEnd_80 rfl ?_
    refine k_getR d_Content_readEnd_81 fl_7_31 ob_7 rfl ?_
    refine k_getI (x := (σ14.1 6 3)) d_Content_readEnd_84 fl_7_91 ob_6 rfl rfl ?_
    refine k_aload_n d_Content_readEnd_87 rfl ?_
    refine k_getR d_Content_readEnd_88 fl_7_19 ob_7 rfl ?_
    refine k_cvi [] d_Content_readEnd_91 ml_7_112 rfl rfl ob_3 rfl (s_Entities_elementBefore hL (by omega)  h) (fun v16 σ15 h => ?_)
    refine k_join (S := Unit) (pc' := 106) (st' := fun s19 => []) (lv' := fun s19 => [some (.inr 7), none, none]) (fun s19 σ20 h => ?_) (fun J17 hJ18 h => ?_) h
    · refine k_aload_n d_Content_readEnd_106 rfl ?_
      refine k_getR d_Content_readEnd_107 fl_7_31 ob_7 rfl ?_
      refine k_cvv [] d_Content_readEnd_110 ml_7_262 rfl rfl ob_6 rfl (s_Tree_endElement hL (by omega)  h) (fun σ21 h => ?_)
      exact k_ret d_Content_readEnd_113 h
    · refine k_icne d_Content_readEnd_94 rfl (fun c23 => ?_) (fun c23 => ?_)
      · have h := ineg c23 h
        exact k_sb (sb_s (sb_s (sb_s sb_nil))) (hJ18 () _ h)
      · have h := ipos c23 h
        refine k_aload_n d_Content_readEnd_97 rfl ?_
        refine k_getR d_Content_readEnd_98 fl_7_15 ob_7 rfl ?_
        refine k_bipush d_Content_readEnd_101 cB_14 ?_
        refine k_cvv [.inl 14] d_Content_readEnd_103 ml_7_108 rfl rfl ob_2 rfl (s_Reader_fail hL (by omega)  h) (fun σ24 h => ?_)
        exact k_sb (sb_s (sb_s (sb_s sb_nil))) (hJ18 () _ h)
  · refine k_iceq d_Content_readEnd_68 rfl (fun c26 => ?_) (fun c26 => ?_)
    · have h := ipos c26 h
      exact k_sb (sb_s (sb_n (sb_n sb_nil))) (hJ12 () _ h)
    · have h := ineg c26 h
      refine k_aload_n d_Content_readEnd_71 rfl ?_
      refine k_getR d_Content_readEnd_72 fl_7_15 ob_7 rfl ?_
      refine k_bipush d_Content_readEnd_75 cB_7 ?_
      refine k_cvv [.inl 7] d_Content_readEnd_77 ml_7_108 rfl rfl ob_2 rfl (s_Reader_fail hL (by omega)  h) (fun σ27 h => ?_)
      exact k_sb (sb_s (sb_n (sb_n sb_nil))) (hJ12 () _ h)
theorem d_Tree_addInstruction_0 : decode b_Tree_addInstruction 0 = .ok (.aload_n 0, 1) := by decide +kernel
theorem d_Tree_addInstruction_1 : decode b_Tree_addInstruction 1 = .ok (.iconst 1, 1) := by decide +kernel
theorem d_Tree_addInstruction_2 : decode b_Tree_addInstruction 2 = .ok (.invokevirtual 64, 3) := by decide +kernel
theorem d_Tree_addInstruction_5 : decode b_Tree_addInstruction 5 = .ok (.aload_n 0, 1) := by decide +kernel
theorem d_Tree_addInstruction_6 : decode b_Tree_addInstruction 6 = .ok (.dup, 1) := by decide +kernel
theorem d_Tree_addInstruction_7 : decode b_Tree_addInstruction 7 = .ok (.getfield 49, 3) := by decide +kernel
theorem d_Tree_addInstruction_10 : decode b_Tree_addInstruction 10 = .ok (.iconst 1, 1) := by decide +kernel
theorem d_Tree_addInstruction_11 : decode b_Tree_addInstruction 11 = .ok (.iadd, 1) := by decide +kernel
theorem d_Tree_addInstruction_12 : decode b_Tree_addInstruction 12 = .ok (.putfield 49, 3) := by decide +kernel
theorem d_Tree_addInstruction_15 : decode b_Tree_addInstruction 15 = .ok (.aload_n 0, 1) := by decide +kernel
theorem d_Tree_addInstruction_16 : decode b_Tree_addInstruction 16 = .ok (.bipush (-2), 2) := by decide +kernel
theorem d_Tree_addInstruction_18 : decode b_Tree_addInstruction 18 = .ok (.invokevirtual 68, 3) := by decide +kernel
theorem d_Tree_addInstruction_21 : decode b_Tree_addInstruction 21 = .ok (.aload_n 0, 1) := by decide +kernel
theorem d_Tree_addInstruction_22 : decode b_Tree_addInstruction 22 = .ok (.iload_n 1, 1) := by decide +kernel
theorem d_Tree_addInstruction_23 : decode b_Tree_addInstruction 23 = .ok (.invokevirtual 68, 3) := by decide +kernel
theorem d_Tree_addInstruction_26 : decode b_Tree_addInstruction 26 = .ok (.aload_n 0, 1) := by decide +kernel
theorem d_Tree_addInstruction_27 : decode b_Tree_addInstruction 27 = .ok (.iload_n 2, 1) := by decide +kernel
theorem d_Tree_addInstruction_28 : decode b_Tree_addInstruction 28 = .ok (.invokevirtual 68, 3) := by decide +kernel
theorem d_Tree_addInstruction_31 : decode b_Tree_addInstruction 31 = .ok (.aload_n 0, 1) := by decide +kernel
theorem d_Tree_addInstruction_32 : decode b_Tree_addInstruction 32 = .ok (.iload_n 3, 1) := by decide +kernel
theorem d_Tree_addInstruction_33 : decode b_Tree_addInstruction 33 = .ok (.invokevirtual 68, 3) := by decide +kernel
theorem d_Tree_addInstruction_36 : decode b_Tree_addInstruction 36 = .ok (.aload_n 0, 1) := by decide +kernel
theorem d_Tree_addInstruction_37 : decode b_Tree_addInstruction 37 = .ok (.iload 4, 2) := by decide +kernel
theorem d_Tree_addInstruction_39 : decode b_Tree_addInstruction 39 = .ok (.invokevirtual 68, 3) := by decide +kernel
theorem d_Tree_addInstruction_42 : decode b_Tree_addInstruction 42 = .ok (.return_, 1) := by decide +kernel
/-- Tree_addInstruction -/
def w_Tree_addInstruction (L : Nat → Nat) (a1 : Int) (a2 : Int) (a3 : Int) (a4 : Int) (Q : IS → Prop) (σ : IS) : Prop := w_Tree_note L 1 (fun σ1 => inR ((σ1.1 6 1) + 1) ∧ w_Tree_put L (-2) (fun σ3 => w_Tree_put L a1 (fun σ5 => w_Tree_put L a2 (fun σ7 => w_Tree_put L a3 (fun σ9 => w_Tree_put L a4 (fun σ11 => Q σ11) σ9) σ7) σ5) σ3) (pf σ1 6 1 ((σ1.1 6 1) + 1))) σ
set_option maxHeartbeats 4000000 in
set_option maxRecDepth 20000 in
theorem s_Tree_addInstruction {L : Nat → Nat} (hL : ∀ r, L r < 2147483648) {d : Nat} (hd : 1 ≤ d) {a1 : Int} {a2 : Int} {a3 : Int} {a4 : Int} {Q : IS → Prop} {σ : IS}  (h : w_Tree_addInstruction L a1 a2 a3 a4 Q σ) : OkI BF L d 6 b_Tree_addInstruction 5 0 0 [] [some (.inr 6), some (.inl a1), some (.inl a2), some (.inl a3), some (.inl a4)] σ (qv Q) := by
  unfold w_Tree_addInstruction at h
  obtain ⟨d, rfl⟩ : ∃ e, d = e + 1 := ⟨d - 1, by omega⟩
  refine k_sb (lv' := [some (.inr 6), some (.inl a1), some (.inl a2), some (.inl a3), some (.inl a4)]) (sb_s (sb_s (sb_s (sb_s (sb_s sb_nil))))) ?_
  refine k_aload_n d_Tree_addInstruction_0 rfl ?_
  refine k_iconst d_Tree_addInstruction_1 cI_1 ?_
  refine k_cvv [.inl 1] d_Tree_addInstruction_2 ml_6_64 rfl rfl ob_6 rfl (s_Tree_note hL (by omega)  h) (fun σ1 h => ?_)
  refine k_aload_n d_Tree_addInstruction_5 rfl ?_
  refine k_dup d_Tree_addInstruction_6 ?_
  refine k_getI (x := (σ1.1 6 1)) d_Tree_addInstruction_7 fl_6_49 ob_6 rfl rfl ?_
  refine k_iconst d_Tree_addInstruction_10 cI_1 ?_
  obtain ⟨p13, h⟩ := h
  refine k_iadd d_Tree_addInstruction_11 p13 ?_
  refine k_putI d_Tree_addInstruction_12 fl_6_49 ob_6 rfl ?_
  refine k_aload_n d_Tree_addInstruction_15 rfl ?_
  refine k_bipush d_Tree_addInstruction_16 cB_m2 ?_
  refine k_cvv [.inl (-2)] d_Tree_addInstruction_18 ml_6_68 rfl rfl ob_6 rfl (s_Tree_put hL (by omega)  h) (fun σ3 h => ?_)
  refine k_aload_n d_Tree_addInstruction_21 rfl ?_
  refine k_iload_n d_Tree_addInstruction_22 rfl ?_
  refine k_cvv [.inl a1] d_Tree_addInstruction_23 ml_6_68 rfl rfl ob_6 rfl (s_Tree_put hL (by omega)  h) (fun σ5 h => ?_)
  refine k_aload_n d_Tree_addInstruction_26 rfl ?_
  refine k_iload_n d_Tree_addInstruction_27 rfl ?_
  refine k_cvv [.inl a2] d_Tree_addInstruction_28 ml_6_68 rfl rfl ob_6 rfl (s_Tree_put hL (by omega)  h) (fun σ7 h => ?_)
  refine k_aload_n d_Tree_addInstruction_31 rfl ?_
  refine k_iload_n d_Tree_addInstruction_32 rfl ?_
  refine k_cvv [.inl a3] d_Tree_addInstruction_33 ml_6_68 rfl rfl ob_6 rfl (s_Tree_put hL (by omega)  h) (fun σ9 h => ?_)
  refine k_aload_n d_Tree_addInstruction_36 rfl ?_
  refine k_iload d_Tree_addInstruction_37 rfl ?_
  refine k_cvv [.inl a4] d_Tree_addInstruction_39 ml_6_68 rfl rfl ob_6 rfl (s_Tree_put hL (by omega)  h) (fun σ11 h => ?_)
  exact k_ret d_Tree_addInstruction_42 h
theorem d_Tree_tooMany_0 : decode b_Tree_tooMany 0 = .ok (.aload_n 0, 1) := by decide +kernel
theorem d_Tree_tooMany_1 : decode b_Tree_tooMany 1 = .ok (.getfield 49, 3) := by decide +kernel
theorem d_Tree_tooMany_4 : decode b_Tree_tooMany 4 = .ok (.aload_n 0, 1) := by decide +kernel
theorem d_Tree_tooMany_5 : decode b_Tree_tooMany 5 = .ok (.getfield 9, 3) := by decide +kernel
theorem d_Tree_tooMany_8 : decode b_Tree_tooMany 8 = .ok (.if_icmp .le 7, 3) := by decide +kernel
theorem d_Tree_tooMany_11 : decode b_Tree_tooMany 11 = .ok (.iconst 1, 1) := by decide +kernel
theorem d_Tree_tooMany_12 : decode b_Tree_tooMany 12 = .ok (.goto 4, 3) := by decide +kernel
theorem d_Tree_tooMany_15 : decode b_Tree_tooMany 15 = .ok (.iconst 0, 1) := by decide +kernel
theorem d_Tree_tooMany_16 : decode b_Tree_tooMany 16 = .ok (.ireturn, 1) := by decide +kernel
/-- Tree_tooMany -/
def w_Tree_tooMany (L : Nat → Nat)  (Q : Int → IS → Prop) (σ : IS) : Prop := Q (if (σ.1 6 0) < (σ.1 6 1) then (1 : Int) else (0 : Int)) σ
set_option maxHeartbeats 4000000 in
set_option maxRecDepth 20000 in
theorem s_Tree_tooMany {L : Nat → Nat} (hL : ∀ r, L r < 2147483648) {d : Nat} (hd : 0 ≤ d)  {Q : Int → IS → Prop} {σ : IS}  (h : w_Tree_tooMany L  Q σ) : OkI BF L d 6 b_Tree_tooMany 1 2 0 [] [some (.inr 6)] σ (qi Q) := by
  unfold w_Tree_tooMany at h
  refine k_sb (lv' := [some (.inr 6)]) (sb_s sb_nil) ?_
  refine k_aload_n d_Tree_tooMany_0 rfl ?_
  refine k_getI (x := (σ.1 6 1)) d_Tree_tooMany_1 fl_6_49 ob_6 rfl rfl ?_
  refine k_aload_n d_Tree_tooMany_4 rfl ?_
  refine k_getI (x := (σ.1 6 0)) d_Tree_tooMany_5 fl_6_9 ob_6 rfl rfl ?_
  have hV1 : OkI BF L d 6 b_Tree_tooMany 1 2 16 [.inl (if (σ.1 6 0) < (σ.1 6 1) then (1 : Int) else (0 : Int))] [some (.inr 6)] σ (qi Q) := by
    exact k_iret d_Tree_tooMany_16 (Or.inr ⟨rfl, it01 (Or.inr rfl) (Or.inl rfl)⟩) h
  refine k_icle d_Tree_tooMany_8 rfl (fun c2 => ?_) (fun c2 => ?_)
  · have hV4 := k_eqI (if_neg c2) hV1
    refine k_iconst d_Tree_tooMany_15 cI_0 ?_
    exact hV4
  · have hV3 := k_eqI (if_pos c2) hV1
    refine k_iconst d_Tree_tooMany_11 cI_1 ?_
    refine k_goto d_Tree_tooMany_12 rfl ?_
    exact hV3
theorem d_Content_readInstruction_0 : decode b_Content_readInstruction 0 = .ok (.aload_n 0, 1) := by decide +kernel
theorem d_Content_readInstruction_1 : decode b_Content_readInstruction 1 = .ok (.getfield 15, 3) := by decide +kernel
theorem d_Content_readInstruction_4 : decode b_Content_readInstruction 4 = .ok (.invokevirtual 220, 3) := by decide +kernel
theorem d_Content_readInstruction_7 : decode b_Content_readInstruction 7 = .ok (.aload_n 0, 1) := by decide +kernel
theorem d_Content_readInstruction_8 : decode b_Content_readInstruction 8 = .ok (.getfield 31, 3) := by decide +kernel
theorem d_Content_readInstruction_11 : decode b_Content_readInstruction 11 = .ok (.aload_n 0, 1) := by decide +kernel
theorem d_Content_readInstruction_12 : decode b_Content_readInstruction 12 = .ok (.getfield 15, 3) := by decide +kernel
theorem d_Content_readInstruction_15 : decode b_Content_readInstruction 15 = .ok (.getfield 221, 3) := by decide +kernel
theorem d_Content_readInstruction_18 : decode b_Content_readInstruction 18 = .ok (.aload_n 0, 1) := by decide +kernel
theorem d_Content_readInstruction_19 : decode b_Content_readInstruction 19 = .ok (.getfield 15, 3) := by decide +kernel
theorem d_Content_readInstruction_22 : decode b_Content_readInstruction 22 = .ok (.getfield 224, 3) := by decide +kernel
theorem d_Content_readInstruction_25 : decode b_Content_readInstruction 25 = .ok (.aload_n 0, 1) := by decide +kernel
theorem d_Content_readInstruction_26 : decode b_Content_readInstruction 26 = .ok (.getfield 15, 3) := by decide +kernel
theorem d_Content_readInstruction_29 : decode b_Content_readInstruction 29 = .ok (.getfield 227, 3) := by decide +kernel
theorem d_Content_readInstruction_32 : decode b_Content_readInstruction 32 = .ok (.aload_n 0, 1) := by decide +kernel
theorem d_Content_readInstruction_33 : decode b_Content_readInstruction 33 = .ok (.getfield 15, 3) := by decide +kernel
theorem d_Content_readInstruction_36 : decode b_Content_readInstruction 36 = .ok (.getfield 230, 3) := by decide +kernel
theorem d_Content_readInstruction_39 : decode b_Content_readInstruction 39 = .ok (.invokevirtual 233, 3) := by decide +kernel
theorem d_Content_readInstruction_42 : decode b_Content_readInstruction 42 = .ok (.aload_n 0, 1) := by decide +kernel
theorem d_Content_readInstruction_43 : decode b_Content_readInstruction 43 = .ok (.getfield 31, 3) := by decide +kernel
theorem d_Content_readInstruction_46 : decode b_Content_readInstruction 46 = .ok (.invokevirtual 237, 3) := by decide +kernel
theorem d_Content_readInstruction_49 : decode b_Content_readInstruction 49 = .ok (.ifCond .eq 11, 3) := by decide +kernel
theorem d_Content_readInstruction_52 : decode b_Content_readInstruction 52 = .ok (.aload_n 0, 1) := by decide +kernel
theorem d_Content_readInstruction_53 : decode b_Content_readInstruction 53 = .ok (.getfield 15, 3) := by decide +kernel
theorem d_Content_readInstruction_56 : decode b_Content_readInstruction 56 = .ok (.iconst 4, 1) := by decide +kernel
theorem d_Content_readInstruction_57 : decode b_Content_readInstruction 57 = .ok (.invokevirtual 108, 3) := by decide +kernel
theorem d_Content_readInstruction_60 : decode b_Content_readInstruction 60 = .ok (.return_, 1) := by decide +kernel
/-- Content_readInstruction -/
def w_Content_readInstruction (L : Nat → Nat)  (Q : IS → Prop) (σ : IS) : Prop := w_Reader_readInstruction L  (fun σ1 => w_Tree_addInstruction L (σ1.1 2 8) (σ1.1 2 9) (σ1.1 2 10) (σ1.1 2 11) (fun σ3 => w_Tree_tooMany L  (fun v6 σ5 => WJ (fun (s9 : Unit) (σ10 : IS) => Q σ10) (fun J7 => if v6 = 0 then J7 () σ5 else w_Reader_fail L 4 (fun σ12 => J7 () σ12) σ5)) σ3) σ1) σ
set_option maxHeartbeats 4000000 in
set_option maxRecDepth 20000 in
theorem s_Content_readInstruction {L : Nat → Nat} (hL : ∀ r, L r < 2147483648) {d : Nat} (hd : 3 ≤ d)  {Q : IS → Prop} {σ : IS}  (h : w_Content_readInstruction L  Q σ) : OkI BF L d 7 b_Content_readInstruction 1 0 0 [] [some (.inr 7)] σ (qv Q) := by
  unfold w_Content_readInstruction at h
  obtain ⟨d, rfl⟩ : ∃ e, d = e + 1 := ⟨d - 1, by omega⟩
  refine k_sb (lv' := [some (.inr 7)]) (sb_s sb_nil) ?_
  refine k_aload_n d_Content_readInstruction_0 rfl ?_
  refine k_getR d_Content_readInstruction_1 fl_7_15 ob_7 rfl ?_
  refine k_cvv [] d_Content_readInstruction_4 ml_7_220 rfl rfl ob_2 rfl (s_Reader_readInstruction hL (by omega)  h) (fun σ1 h => ?_)
  refine k_aload_n d_Content_readInstruction_7 rfl ?_
  refine k_getR d_Content_readInstruction_8 fl_7_31 ob_7 rfl ?_
  refine k_aload_n d_Content_readInstruction_11 rfl ?_
  refine k_getR d_Content_readInstruction_12 fl_7_15 ob_7 rfl ?_
  refine k_getI (x := (σ1.1 2 8)) d_Content_readInstruction_15 fl_7_221 ob_2 rfl rfl ?_
  refine k_aload_n d_Content_readInstruction_18 rfl ?_
  refine k_getR d_Content_readInstruction_19 fl_7_15 ob_7 rfl ?_
  refine k_getI (x := (σ1.1 2 9)) d_Content_readInstruction_22 fl_7_224 ob_2 rfl rfl ?_
  refine k_aload_n d_Content_readInstruction_25 rfl ?_
  refine k_getR d_Content_readInstruction_26 fl_7_15 ob_7 rfl ?_
  refine k_getI (x := (σ1.1 2 10)) d_Content_readInstruction_29 fl_7_227 ob_2 rfl rfl ?_
  refine k_aload_n d_Content_readInstruction_32 rfl ?_
  refine k_getR d_Content_readInstruction_33 fl_7_15 ob_7 rfl ?_
  refine k_getI (x := (σ1.1 2 11)) d_Content_readInstruction_36 fl_7_230 ob_2 rfl rfl ?_
  refine k_cvv [.inl (σ1.1 2 8), .inl (σ1.1 2 9), .inl (σ1.1 2 10), .inl (σ1.1 2 11)] d_Content_readInstruction_39 ml_7_233 rfl rfl ob_6 rfl (s_Tree_addInstruction hL (by omega)  h) (fun σ3 h => ?_)
  refine k_aload_n d_Content_readInstruction_42 rfl ?_
  refine k_getR d_Content_readInstruction_43 fl_7_31 ob_7 rfl ?_
  refine k_cvi [] d_Content_readInstruction_46 ml_7_237 rfl rfl ob_6 rfl (s_Tree_tooMany hL (by omega)  h) (fun v6 σ5 h => ?_)
  refine k_join (S := Unit) (pc' := 60) (st' := fun s9 => []) (lv' := fun s9 => [none]) (fun s9 σ10 h => ?_) (fun J7 hJ8 h => ?_) h
  · exact k_ret d_Content_readInstruction_60 h
  · refine k_ifeq d_Content_readInstruction_49 rfl (fun c11 => ?_) (fun c11 => ?_)
    · have h := ipos c11 h
      exact k_sb (sb_n sb_nil) (hJ8 () _ h)
    · have h := ineg c11 h
      refine k_aload_n d_Content_readInstruction_52 rfl ?_
      refine k_getR d_Content_readInstruction_53 fl_7_15 ob_7 rfl ?_
      refine k_iconst d_Content_readInstruction_56 cI_4 ?_
      refine k_cvv [.inl 4] d_Content_readInstruction_57 ml_7_108 rfl rfl ob_2 rfl (s_Reader_fail hL (by omega)  h) (fun σ12 h => ?_)
      exact k_sb (sb_n sb_nil) (hJ8 () _ h)
theorem d_Reader_readSection_0 : decode b_Reader_readSection 0 = .ok (.aload_n 0, 1) := by decide +kernel
theorem d_Reader_readSection_1 : decode b_Reader_readSection 1 = .ok (.ldc 126, 2) := by decide +kernel
theorem d_Reader_readSection_3 : decode b_Reader_readSection 3 = .ok (.invokevirtual 86, 3) := by decide +kernel
theorem d_Reader_readSection_6 : decode b_Reader_readSection 6 = .ok (.aload_n 0, 1) := by decide +kernel
theorem d_Reader_readSection_7 : decode b_Reader_readSection 7 = .ok (.aload_n 0, 1) := by decide +kernel
theorem d_Reader_readSection_8 : decode b_Reader_readSection 8 = .ok (.getfield 26, 3) := by decide +kernel
theorem d_Reader_readSection_11 : decode b_Reader_readSection 11 = .ok (.putfield 116, 3) := by decide +kernel
theorem d_Reader_readSection_14 : decode b_Reader_readSection 14 = .ok (.aload_n 0, 1) := by decide +kernel
theorem d_Reader_readSection_15 : decode b_Reader_readSection 15 = .ok (.ldc 128, 2) := by decide +kernel
theorem d_Reader_readSection_17 : decode b_Reader_readSection 17 = .ok (.invokevirtual 92, 3) := by decide +kernel
theorem d_Reader_readSection_20 : decode b_Reader_readSection 20 = .ok (.aload_n 0, 1) := by decide +kernel
theorem d_Reader_readSection_21 : decode b_Reader_readSection 21 = .ok (.aload_n 0, 1) := by decide +kernel
theorem d_Reader_readSection_22 : decode b_Reader_readSection 22 = .ok (.getfield 26, 3) := by decide +kernel
theorem d_Reader_readSection_25 : decode b_Reader_readSection 25 = .ok (.aload_n 0, 1) := by decide +kernel
theorem d_Reader_readSection_26 : decode b_Reader_readSection 26 = .ok (.getfield 116, 3) := by decide +kernel
theorem d_Reader_readSection_29 : decode b_Reader_readSection 29 = .ok (.isub, 1) := by decide +kernel
theorem d_Reader_readSection_30 : decode b_Reader_readSection 30 = .ok (.putfield 119, 3) := by decide +kernel
theorem d_Reader_readSection_33 : decode b_Reader_readSection 33 = .ok (.aload_n 0, 1) := by decide +kernel
theorem d_Reader_readSection_34 : decode b_Reader_readSection 34 = .ok (.ldc 128, 2) := by decide +kernel
theorem d_Reader_readSection_36 : decode b_Reader_readSection 36 = .ok (.invokevirtual 86, 3) := by decide +kernel
theorem d_Reader_readSection_39 : decode b_Reader_readSection 39 = .ok (.return_, 1) := by decide +kernel
/-- Reader_readSection -/
def w_Reader_readSection (L : Nat → Nat)  (Q : IS → Prop) (σ : IS) : Prop := w_Reader_need L 1056 (fun σ1 => w_Reader_seek L 1057 (fun σ3 => inR ((σ3.1 2 2) - (σ3.1 2 10)) ∧ w_Reader_need L 1057 (fun σ5 => Q σ5) (pf σ3 2 11 ((σ3.1 2 2) - (σ3.1 2 10)))) (pf σ1 2 10 (σ1.1 2 2))) σ
set_option maxHeartbeats 4000000 in
set_option maxRecDepth 20000 in
theorem s_Reader_readSection {L : Nat → Nat} (hL : ∀ r, L r < 2147483648) {d : Nat} (hd : 2 ≤ d)  {Q : IS → Prop} {σ : IS}  (h : w_Reader_readSection L  Q σ) : OkI BF L d 2 b_Reader_readSection 1 0 0 [] [some (.inr 2)] σ (qv Q) := by
  unfold w_Reader_readSection at h
  obtain ⟨d, rfl⟩ : ∃ e, d = e + 1 := ⟨d - 1, by omega⟩
  refine k_sb (lv' := [some (.inr 2)]) (sb_s sb_nil) ?_
  refine k_aload_n d_Reader_readSection_0 rfl ?_
  refine k_ldc d_Reader_readSection_1 ks_2_126 rfl ?_
  refine k_cvv [.inr 1056] d_Reader_readSection_3 ml_2_86 rfl rfl ob_2 rfl (s_Reader_need hL (by omega) it_1056 h) (fun σ1 h => ?_)
  refine k_aload_n d_Reader_readSection_6 rfl ?_
  refine k_aload_n d_Reader_readSection_7 rfl ?_
  refine k_getI (x := (σ1.1 2 2)) d_Reader_readSection_8 fl_2_26 ob_2 rfl rfl ?_
  refine k_putI d_Reader_readSection_11 fl_2_116 ob_2 rfl ?_
  refine k_aload_n d_Reader_readSection_14 rfl ?_
  refine k_ldc d_Reader_readSection_15 ks_2_128 rfl ?_
  refine k_cvv [.inr 1057] d_Reader_readSection_17 ml_2_92 rfl rfl ob_2 rfl (s_Reader_seek hL (by omega) it_1057 h) (fun σ3 h => ?_)
  refine k_aload_n d_Reader_readSection_20 rfl ?_
  refine k_aload_n d_Reader_readSection_21 rfl ?_
  refine k_getI (x := (σ3.1 2 2)) d_Reader_readSection_22 fl_2_26 ob_2 rfl rfl ?_
  refine k_aload_n d_Reader_readSection_25 rfl ?_
  refine k_getI (x := (σ3.1 2 10)) d_Reader_readSection_26 fl_2_116 ob_2 rfl rfl ?_
  obtain ⟨p7, h⟩ := h
  refine k_isub d_Reader_readSection_29 p7 ?_
  refine k_putI d_Reader_readSection_30 fl_2_119 ob_2 rfl ?_
  refine k_aload_n d_Reader_readSection_33 rfl ?_
  refine k_ldc d_Reader_readSection_34 ks_2_128 rfl ?_
  refine k_cvv [.inr 1057] d_Reader_readSection_36 ml_2_86 rfl rfl ob_2 rfl (s_Reader_need hL (by omega) it_1057 h) (fun σ5 h => ?_)
  exact k_ret d_Reader_readSection_39 h
theorem d_Content_readSection_0 : decode b_Content_readSection 0 = .ok (.aload_n 0, 1) := by decide +kernel
theorem d_Content_readSection_1 : decode b_Content_readSection 1 = .ok (.getfield 15, 3) := by decide +kernel
theorem d_Content_readSection_4 : decode b_Content_readSection 4 = .ok (.invokevirtual 249, 3) := by decide +kernel
theorem d_Content_readSection_7 : decode b_Content_readSection 7 = .ok (.aload_n 0, 1) := by decide +kernel
theorem d_Content_readSection_8 : decode b_Content_readSection 8 = .ok (.getfield 31, 3) := by decide +kernel
theorem d_Content_readSection_11 : decode b_Content_readSection 11 = .ok (.iconst 5, 1) := by decide +kernel
theorem d_Content_readSection_12 : decode b_Content_readSection 12 = .ok (.invokevirtual 214, 3) := by decide +kernel
theorem d_Content_readSection_15 : decode b_Content_readSection 15 = .ok (.aload_n 0, 1) := by decide +kernel
theorem d_Content_readSection_16 : decode b_Content_readSection 16 = .ok (.getfield 15, 3) := by decide +kernel
theorem d_Content_readSection_19 : decode b_Content_readSection 19 = .ok (.getfield 227, 3) := by decide +kernel
theorem d_Content_readSection_22 : decode b_Content_readSection 22 = .ok (.istore_n 1, 1) := by decide +kernel
theorem d_Content_readSection_23 : decode b_Content_readSection 23 = .ok (.iload_n 1, 1) := by decide +kernel
theorem d_Content_readSection_24 : decode b_Content_readSection 24 = .ok (.aload_n 0, 1) := by decide +kernel
theorem d_Content_readSection_25 : decode b_Content_readSection 25 = .ok (.getfield 15, 3) := by decide +kernel
theorem d_Content_readSection_28 : decode b_Content_readSection 28 = .ok (.getfield 227, 3) := by decide +kernel
theorem d_Content_readSection_31 : decode b_Content_readSection 31 = .ok (.aload_n 0, 1) := by decide +kernel
theorem d_Content_readSection_32 : decode b_Content_readSection 32 = .ok (.getfield 15, 3) := by decide +kernel
theorem d_Content_readSection_35 : decode b_Content_readSection 35 = .ok (.getfield 230, 3) := by decide +kernel
theorem d_Content_readSection_38 : decode b_Content_readSection 38 = .ok (.iadd, 1) := by decide +kernel
theorem d_Content_readSection_39 : decode b_Content_readSection 39 = .ok (.if_icmp .ge 35, 3) := by decide +kernel
theorem d_Content_readSection_42 : decode b_Content_readSection 42 = .ok (.aload_n 0, 1) := by decide +kernel
theorem d_Content_readSection_43 : decode b_Content_readSection 43 = .ok (.getfield 15, 3) := by decide +kernel
theorem d_Content_readSection_46 : decode b_Content_readSection 46 = .ok (.getfield 64, 3) := by decide +kernel
theorem d_Content_readSection_49 : decode b_Content_readSection 49 = .ok (.ifCond .ne 25, 3) := by decide +kernel
theorem d_Content_readSection_52 : decode b_Content_readSection 52 = .ok (.aload_n 0, 1) := by decide +kernel
theorem d_Content_readSection_53 : decode b_Content_readSection 53 = .ok (.getfield 31, 3) := by decide +kernel
theorem d_Content_readSection_56 : decode b_Content_readSection 56 = .ok (.aload_n 0, 1) := by decide +kernel
theorem d_Content_readSection_57 : decode b_Content_readSection 57 = .ok (.getfield 9, 3) := by decide +kernel
theorem d_Content_readSection_60 : decode b_Content_readSection 60 = .ok (.getfield 50, 3) := by decide +kernel
theorem d_Content_readSection_63 : decode b_Content_readSection 63 = .ok (.iload_n 1, 1) := by decide +kernel
theorem d_Content_readSection_64 : decode b_Content_readSection 64 = .ok (.iaload, 1) := by decide +kernel
theorem d_Content_readSection_65 : decode b_Content_readSection 65 = .ok (.invokevirtual 245, 3) := by decide +kernel
theorem d_Content_readSection_68 : decode b_Content_readSection 68 = .ok (.iinc 1 1, 3) := by decide +kernel
theorem d_Content_readSection_71 : decode b_Content_readSection 71 = .ok (.goto (-48), 3) := by decide +kernel
theorem d_Content_readSection_74 : decode b_Content_readSection 74 = .ok (.return_, 1) := by decide +kernel
/-- Content_readSection -/
def w_Content_readSection (L : Nat → Nat)  (Q : IS → Prop) (σ : IS) : Prop := w_Reader_readSection L  (fun σ1 => w_Tree_note L 5 (fun σ3 => WL (fun (K5 : Int → IS → Prop) (s7 : Int) (σ8 : IS) => inR ((σ8.1 2 10) + (σ8.1 2 11)) ∧ if s7 < ((σ8.1 2 10) + (σ8.1 2 11)) ∧ ((σ8.1 2 4) = 0) then inL L 101 s7 ∧ w_Tree_addCharacter L (σ8.2 101 (Int.toNat s7)) (fun σ9 => inR (s7 + 1) ∧ K5 (s7 + 1) σ9) σ8 else Q σ8) (σ3.1 2 10) σ3) σ1) σ
set_option maxHeartbeats 4000000 in
set_option maxRecDepth 20000 in
theorem s_Content_readSection {L : Nat → Nat} (hL : ∀ r, L r < 2147483648) {d : Nat} (hd : 3 ≤ d)  {Q : IS → Prop} {σ : IS}  (h : w_Content_readSection L  Q σ) : OkI BF L d 7 b_Content_readSection 2 0 0 [] [some (.inr 7)] σ (qv Q) := by
  unfold w_Content_readSection at h
  obtain ⟨d, rfl⟩ : ∃ e, d = e + 1 := ⟨d - 1, by omega⟩
  refine k_sb (lv' := [some (.inr 7), none]) (sb_s (sb_e sb_nil)) ?_
  refine k_aload_n d_Content_readSection_0 rfl ?_
  refine k_getR d_Content_readSection_1 fl_7_15 ob_7 rfl ?_
  refine k_cvv [] d_Content_readSection_4 ml_7_249 rfl rfl ob_2 rfl (s_Reader_readSection hL (by omega)  h) (fun σ1 h => ?_)
  refine k_aload_n d_Content_readSection_7 rfl ?_
  refine k_getR d_Content_readSection_8 fl_7_31 ob_7 rfl ?_
  refine k_iconst d_Content_readSection_11 cI_5 ?_
  refine k_cvv [.inl 5] d_Content_readSection_12 ml_7_214 rfl rfl ob_6 rfl (s_Tree_note hL (by omega)  h) (fun σ3 h => ?_)
  refine k_aload_n d_Content_readSection_15 rfl ?_
  refine k_getR d_Content_readSection_16 fl_7_15 ob_7 rfl ?_
  refine k_getI (x := (σ3.1 2 10)) d_Content_readSection_19 fl_7_227 ob_2 rfl rfl ?_
  refine k_istore_n (lv' := [some (.inr 7), some (.inl (σ3.1 2 10))]) d_Content_readSection_22 rfl rfl ?_
  refine k_sb (lv' := [some (.inr 7), some (.inl (σ3.1 2 10))]) (sb_s (sb_s sb_nil)) ?_
  refine k_loop (S := Int) (st := fun _ => []) (lv := fun s7 => [some (.inr 7), some (.inl s7)]) (fun K5 hK6 s7 σ8 h => ?_) (σ3.1 2 10) _ h
  refine k_iload_n d_Content_readSection_23 rfl ?_
  refine k_aload_n d_Content_readSection_24 rfl ?_
  refine k_getR d_Content_readSection_25 fl_7_15 ob_7 rfl ?_
  refine k_getI (x := (σ8.1 2 10)) d_Content_readSection_28 fl_7_227 ob_2 rfl rfl ?_
  refine k_aload_n d_Content_readSection_31 rfl ?_
  refine k_getR d_Content_readSection_32 fl_7_15 ob_7 rfl ?_
  refine k_getI (x := (σ8.1 2 11)) d_Content_readSection_35 fl_7_230 ob_2 rfl rfl ?_
  obtain ⟨p18, h⟩ := h
  refine k_iadd d_Content_readSection_38 p18 ?_
  have hX13 : (s7 < ((σ8.1 2 10) + (σ8.1 2 11)) ∧ ((σ8.1 2 4) = 0)) → OkI BF L (d + 1) 7 b_Content_readSection 2 0 52 [] [some (.inr 7), some (.inl s7)] σ8 (qv Q) := fun e15 => by
    have h := ipos e15 h
    refine k_aload_n d_Content_readSection_52 rfl ?_
    refine k_getR d_Content_readSection_53 fl_7_31 ob_7 rfl ?_
    refine k_aload_n d_Content_readSection_56 rfl ?_
    refine k_getR d_Content_readSection_57 fl_7_9 ob_7 rfl ?_
    refine k_getR d_Content_readSection_60 fl_7_50 ob_1 rfl ?_
    refine k_iload_n d_Content_readSection_63 rfl ?_
    obtain ⟨p12, h⟩ := h
    refine k_ild (x := (σ8.2 101 (Int.toNat s7))) d_Content_readSection_64 rI_101 p12 rfl ?_
    refine k_cvv [.inl (σ8.2 101 (Int.toNat s7))] d_Content_readSection_65 ml_7_245 rfl rfl ob_6 rfl (s_Tree_addCharacter hL (by omega)  h) (fun σ9 h => ?_)
    obtain ⟨p11, h⟩ := h
    refine k_iinc (lv' := [some (.inr 7), some (.inl (s7 + 1))]) d_Content_readSection_68 cI_1 rfl rfl p11 rfl ?_
    refine k_goto d_Content_readSection_71 rfl ?_
    exact k_sb (sb_s (sb_s sb_nil)) (hK6 (s7 + 1) _ h)
  have hY14 : ¬ (s7 < ((σ8.1 2 10) + (σ8.1 2 11)) ∧ ((σ8.1 2 4) = 0)) → OkI BF L (d + 1) 7 b_Content_readSection 2 0 74 [] [some (.inr 7), some (.inl s7)] σ8 (qv Q) := fun e15 => by
    have h := ineg e15 h
    exact k_ret d_Content_readSection_74 h
  refine k_icge d_Content_readSection_39 rfl (fun c16 => ?_) (fun c16 => ?_)
  · exact hY14 (fun z => c16 z.1)
  · refine k_aload_n d_Content_readSection_42 rfl ?_
    refine k_getR d_Content_readSection_43 fl_7_15 ob_7 rfl ?_
    refine k_getI (x := (σ8.1 2 4)) d_Content_readSection_46 fl_7_64 ob_2 rfl rfl ?_
    refine k_ifne d_Content_readSection_49 rfl (fun c17 => ?_) (fun c17 => ?_)
    · exact hY14 (fun z => (c17) z.2)
    · exact hX13 (⟨c16, c17⟩)
theorem d_Content_isTagInside_0 : decode b_Content_isTagInside 0 = .ok (.aload_n 0, 1) := by decide +kernel
theorem d_Content_isTagInside_1 : decode b_Content_isTagInside 1 = .ok (.getfield 15, 3) := by decide +kernel
theorem d_Content_isTagInside_4 : decode b_Content_isTagInside 4 = .ok (.invokevirtual 145, 3) := by decide +kernel
theorem d_Content_isTagInside_7 : decode b_Content_isTagInside 7 = .ok (.istore_n 1, 1) := by decide +kernel
theorem d_Content_isTagInside_8 : decode b_Content_isTagInside 8 = .ok (.iload_n 1, 1) := by decide +kernel
theorem d_Content_isTagInside_9 : decode b_Content_isTagInside 9 = .ok (.bipush 38, 2) := by decide +kernel
theorem d_Content_isTagInside_11 : decode b_Content_isTagInside 11 = .ok (.if_icmp .ne 10, 3) := by decide +kernel
theorem d_Content_isTagInside_14 : decode b_Content_isTagInside 14 = .ok (.aload_n 0, 1) := by decide +kernel
theorem d_Content_isTagInside_15 : decode b_Content_isTagInside 15 = .ok (.invokevirtual 205, 3) := by decide +kernel
theorem d_Content_isTagInside_18 : decode b_Content_isTagInside 18 = .ok (.goto 129, 3) := by decide +kernel
theorem d_Content_isTagInside_21 : decode b_Content_isTagInside 21 = .ok (.iload_n 1, 1) := by decide +kernel
theorem d_Content_isTagInside_22 : decode b_Content_isTagInside 22 = .ok (.bipush 60, 2) := by decide +kernel
theorem d_Content_isTagInside_24 : decode b_Content_isTagInside 24 = .ok (.if_icmp .eq 10, 3) := by decide +kernel
theorem d_Content_isTagInside_27 : decode b_Content_isTagInside 27 = .ok (.aload_n 0, 1) := by decide +kernel
theorem d_Content_isTagInside_28 : decode b_Content_isTagInside 28 = .ok (.invokevirtual 208, 3) := by decide +kernel
theorem d_Content_isTagInside_31 : decode b_Content_isTagInside 31 = .ok (.goto 116, 3) := by decide +kernel
theorem d_Content_isTagInside_34 : decode b_Content_isTagInside 34 = .ok (.aload_n 0, 1) := by decide +kernel
theorem d_Content_isTagInside_35 : decode b_Content_isTagInside 35 = .ok (.getfield 15, 3) := by decide +kernel
theorem d_Content_isTagInside_38 : decode b_Content_isTagInside 38 = .ok (.ldc 193, 2) := by decide +kernel
theorem d_Content_isTagInside_40 : decode b_Content_isTagInside 40 = .ok (.invokevirtual 37, 3) := by decide +kernel
theorem d_Content_isTagInside_43 : decode b_Content_isTagInside 43 = .ok (.ifCond .eq 10, 3) := by decide +kernel
theorem d_Content_isTagInside_46 : decode b_Content_isTagInside 46 = .ok (.aload_n 0, 1) := by decide +kernel
theorem d_Content_isTagInside_47 : decode b_Content_isTagInside 47 = .ok (.invokevirtual 211, 3) := by decide +kernel
theorem d_Content_isTagInside_50 : decode b_Content_isTagInside 50 = .ok (.goto 97, 3) := by decide +kernel
theorem d_Content_isTagInside_53 : decode b_Content_isTagInside 53 = .ok (.aload_n 0, 1) := by decide +kernel
theorem d_Content_isTagInside_54 : decode b_Content_isTagInside 54 = .ok (.getfield 15, 3) := by decide +kernel
theorem d_Content_isTagInside_57 : decode b_Content_isTagInside 57 = .ok (.ldc 183, 2) := by decide +kernel
theorem d_Content_isTagInside_59 : decode b_Content_isTagInside 59 = .ok (.invokevirtual 37, 3) := by decide +kernel
theorem d_Content_isTagInside_62 : decode b_Content_isTagInside 62 = .ok (.ifCond .eq 21, 3) := by decide +kernel
theorem d_Content_isTagInside_65 : decode b_Content_isTagInside 65 = .ok (.aload_n 0, 1) := by decide +kernel
theorem d_Content_isTagInside_66 : decode b_Content_isTagInside 66 = .ok (.getfield 31, 3) := by decide +kernel
theorem d_Content_isTagInside_69 : decode b_Content_isTagInside 69 = .ok (.iconst 1, 1) := by decide +kernel
theorem d_Content_isTagInside_70 : decode b_Content_isTagInside 70 = .ok (.invokevirtual 214, 3) := by decide +kernel
theorem d_Content_isTagInside_73 : decode b_Content_isTagInside 73 = .ok (.aload_n 0, 1) := by decide +kernel
theorem d_Content_isTagInside_74 : decode b_Content_isTagInside 74 = .ok (.getfield 15, 3) := by decide +kernel
theorem d_Content_isTagInside_77 : decode b_Content_isTagInside 77 = .ok (.invokevirtual 185, 3) := by decide +kernel
theorem d_Content_isTagInside_80 : decode b_Content_isTagInside 80 = .ok (.goto 67, 3) := by decide +kernel
theorem d_Content_isTagInside_83 : decode b_Content_isTagInside 83 = .ok (.aload_n 0, 1) := by decide +kernel
theorem d_Content_isTagInside_84 : decode b_Content_isTagInside 84 = .ok (.getfield 15, 3) := by decide +kernel
theorem d_Content_isTagInside_87 : decode b_Content_isTagInside 87 = .ok (.ldc 188, 2) := by decide +kernel
theorem d_Content_isTagInside_89 : decode b_Content_isTagInside 89 = .ok (.invokevirtual 37, 3) := by decide +kernel
theorem d_Content_isTagInside_92 : decode b_Content_isTagInside 92 = .ok (.ifCond .eq 10, 3) := by decide +kernel
theorem d_Content_isTagInside_95 : decode b_Content_isTagInside 95 = .ok (.aload_n 0, 1) := by decide +kernel
theorem d_Content_isTagInside_96 : decode b_Content_isTagInside 96 = .ok (.invokevirtual 190, 3) := by decide +kernel
theorem d_Content_isTagInside_99 : decode b_Content_isTagInside 99 = .ok (.goto 48, 3) := by decide +kernel
theorem d_Content_isTagInside_102 : decode b_Content_isTagInside 102 = .ok (.aload_n 0, 1) := by decide +kernel
theorem d_Content_isTagInside_103 : decode b_Content_isTagInside 103 = .ok (.getfield 15, 3) := by decide +kernel
theorem d_Content_isTagInside_106 : decode b_Content_isTagInside 106 = .ok (.ldc 195, 2) := by decide +kernel
theorem d_Content_isTagInside_108 : decode b_Content_isTagInside 108 = .ok (.invokevirtual 37, 3) := by decide +kernel
theorem d_Content_isTagInside_111 : decode b_Content_isTagInside 111 = .ok (.ifCond .eq 10, 3) := by decide +kernel
theorem d_Content_isTagInside_114 : decode b_Content_isTagInside 114 = .ok (.aload_n 0, 1) := by decide +kernel
theorem d_Content_isTagInside_115 : decode b_Content_isTagInside 115 = .ok (.invokevirtual 217, 3) := by decide +kernel
theorem d_Content_isTagInside_118 : decode b_Content_isTagInside 118 = .ok (.goto 29, 3) := by decide +kernel
theorem d_Content_isTagInside_121 : decode b_Content_isTagInside 121 = .ok (.aload_n 0, 1) := by decide +kernel
theorem d_Content_isTagInside_122 : decode b_Content_isTagInside 122 = .ok (.getfield 15, 3) := by decide +kernel
theorem d_Content_isTagInside_125 : decode b_Content_isTagInside 125 = .ok (.ldc 197, 2) := by decide +kernel
theorem d_Content_isTagInside_127 : decode b_Content_isTagInside 127 = .ok (.invokevirtual 37, 3) := by decide +kernel
theorem d_Content_isTagInside_130 : decode b_Content_isTagInside 130 = .ok (.ifCond .eq 15, 3) := by decide +kernel
theorem d_Content_isTagInside_133 : decode b_Content_isTagInside 133 = .ok (.aload_n 0, 1) := by decide +kernel
theorem d_Content_isTagInside_134 : decode b_Content_isTagInside 134 = .ok (.getfield 15, 3) := by decide +kernel
theorem d_Content_isTagInside_137 : decode b_Content_isTagInside 137 = .ok (.bipush 6, 2) := by decide +kernel
theorem d_Content_isTagInside_139 : decode b_Content_isTagInside 139 = .ok (.invokevirtual 108, 3) := by decide +kernel
theorem d_Content_isTagInside_142 : decode b_Content_isTagInside 142 = .ok (.goto 5, 3) := by decide +kernel
theorem d_Content_isTagInside_145 : decode b_Content_isTagInside 145 = .ok (.iconst 1, 1) := by decide +kernel
theorem d_Content_isTagInside_146 : decode b_Content_isTagInside 146 = .ok (.ireturn, 1) := by decide +kernel
theorem d_Content_isTagInside_147 : decode b_Content_isTagInside 147 = .ok (.iconst 0, 1) := by decide +kernel
theorem d_Content_isTagInside_148 : decode b_Content_isTagInside 148 = .ok (.ireturn, 1) := by decide +kernel
/-- Content_isTagInside -/
def w_Content_isTagInside (L : Nat → Nat)  (Q : Int → IS → Prop) (σ : IS) : Prop := w_Reader_peek L  (fun v2 σ1 => WJ (fun (s5 : Unit) (σ6 : IS) => Q 0 σ6) (fun J3 => if v2 = 38 then w_Content_readReference L  (fun σ38 => J3 () σ38) σ1 else if v2 = 60 then w_Reader_at L 1015 (fun v10 σ9 => if v10 = 0 then w_Reader_at L 1013 (fun v13 σ12 => if v13 = 0 then w_Reader_at L 1014 (fun v16 σ15 => if v16 = 0 then w_Reader_at L 1016 (fun v19 σ18 => if v19 = 0 then w_Reader_at L 1017 (fun v22 σ21 => if v22 = 0 then Q 1 σ21 else w_Reader_fail L 6 (fun σ24 => J3 () σ24) σ21) σ18 else w_Content_readSection L  (fun σ26 => J3 () σ26) σ18) σ15 else w_Content_readInstruction L  (fun σ28 => J3 () σ28) σ15) σ12 else w_Tree_note L 1 (fun σ30 => w_Reader_readComment L  (fun σ32 => J3 () σ32) σ30) σ12) σ9 else w_Content_readEnd L  (fun σ34 => J3 () σ34) σ9) σ1 else w_Content_readRun L  (fun σ36 => J3 () σ36) σ1)) σ
set_option maxHeartbeats 4000000 in
set_option maxRecDepth 20000 in
theorem s_Content_isTagInside {L : Nat → Nat} (hL : ∀ r, L r < 2147483648) {d : Nat} (hd : 4 ≤ d)  {Q : Int → IS → Prop} {σ : IS}  (h : w_Content_isTagInside L  Q σ) : OkI BF L d 7 b_Content_isTagInside 2 2 0 [] [some (.inr 7)] σ (qi Q) := by
  unfold w_Content_isTagInside at h
  obtain ⟨d, rfl⟩ : ∃ e, d = e + 1 := ⟨d - 1, by omega⟩
  refine k_sb (lv' := [some (.inr 7), none]) (sb_s (sb_e sb_nil)) ?_
  refine k_aload_n d_Content_isTagInside_0 rfl ?_
  refine k_getR d_Content_isTagInside_1 fl_7_15 ob_7 rfl ?_
  refine k_cvi [] d_Content_isTagInside_4 ml_7_145 rfl rfl ob_2 rfl (s_Reader_peek hL (by omega)  h) (fun v2 σ1 h => ?_)
  refine k_istore_n (lv' := [some (.inr 7), some (.inl v2)]) d_Content_isTagInside_7 rfl rfl ?_
  refine k_iload_n d_Content_isTagInside_8 rfl ?_
  refine k_bipush d_Content_isTagInside_9 cB_38 ?_
  refine k_join (S := Unit) (pc' := 147) (st' := fun s5 => []) (lv' := fun s5 => [none, none]) (fun s5 σ6 h => ?_) (fun J3 hJ4 h => ?_) h
  · refine k_iconst d_Content_isTagInside_147 cI_0 ?_
    exact k_iret d_Content_isTagInside_148 (Or.inr ⟨rfl, Or.inl rfl⟩) h
  · refine k_icne d_Content_isTagInside_11 rfl (fun c7 => ?_) (fun c7 => ?_)
    · have h := ineg c7 h
      refine k_iload_n d_Content_isTagInside_21 rfl ?_
      refine k_bipush d_Content_isTagInside_22 cB_60 ?_
      refine k_iceq d_Content_isTagInside_24 rfl (fun c8 => ?_) (fun c8 => ?_)
      · have h := ipos c8 h
        refine k_aload_n d_Content_isTagInside_34 rfl ?_
        refine k_getR d_Content_isTagInside_35 fl_7_15 ob_7 rfl ?_
        refine k_ldc d_Content_isTagInside_38 ks_7_193 rfl ?_
        refine k_cvi [.inr 1015] d_Content_isTagInside_40 ml_7_37 rfl rfl ob_2 rfl (s_Reader_at hL (by omega) it_1015 h) (fun v10 σ9 h => ?_)
        refine k_ifeq d_Content_isTagInside_43 rfl (fun c11 => ?_) (fun c11 => ?_)
        · have h := ipos c11 h
          refine k_aload_n d_Content_isTagInside_53 rfl ?_
          refine k_getR d_Content_isTagInside_54 fl_7_15 ob_7 rfl ?_
          refine k_ldc d_Content_isTagInside_57 ks_7_183 rfl ?_
          refine k_cvi [.inr 1013] d_Content_isTagInside_59 ml_7_37 rfl rfl ob_2 rfl (s_Reader_at hL (by omega) it_1013 h) (fun v13 σ12 h => ?_)
          refine k_ifeq d_Content_isTagInside_62 rfl (fun c14 => ?_) (fun c14 => ?_)
          · have h := ipos c14 h
            refine k_aload_n d_Content_isTagInside_83 rfl ?_
            refine k_getR d_Content_isTagInside_84 fl_7_15 ob_7 rfl ?_
            refine k_ldc d_Content_isTagInside_87 ks_7_188 rfl ?_
            refine k_cvi [.inr 1014] d_Content_isTagInside_89 ml_7_37 rfl rfl ob_2 rfl (s_Reader_at hL (by omega) it_1014 h) (fun v16 σ15 h => ?_)
            refine k_ifeq d_Content_isTagInside_92 rfl (fun c17 => ?_) (fun c17 => ?_)
            · have h := ipos c17 h
              refine k_aload_n d_Content_isTagInside_102 rfl ?_
              refine k_getR d_Content_isTagInside_103 fl_7_15 ob_7 rfl ?_
              refine k_ldc d_Content_isTagInside_106 ks_7_195 rfl ?_
              refine k_cvi [.inr 1016] d_Content_isTagInside_108 ml_7_37 rfl rfl ob_2 rfl (s_Reader_at hL (by omega) it_1016 h) (fun v19 σ18 h => ?_)
              refine k_ifeq d_Content_isTagInside_111 rfl (fun c20 => ?_) (fun c20 => ?_)
              · have h := ipos c20 h
                refine k_aload_n d_Content_isTagInside_121 rfl ?_
                refine k_getR d_Content_isTagInside_122 fl_7_15 ob_7 rfl ?_
                refine k_ldc d_Content_isTagInside_125 ks_7_197 rfl ?_
                refine k_cvi [.inr 1017] d_Content_isTagInside_127 ml_7_37 rfl rfl ob_2 rfl (s_Reader_at hL (by omega) it_1017 h) (fun v22 σ21 h => ?_)
                refine k_ifeq d_Content_isTagInside_130 rfl (fun c23 => ?_) (fun c23 => ?_)
                · have h := ipos c23 h
                  refine k_iconst d_Content_isTagInside_145 cI_1 ?_
                  exact k_iret d_Content_isTagInside_146 (Or.inr ⟨rfl, Or.inr rfl⟩) h
                · have h := ineg c23 h
                  refine k_aload_n d_Content_isTagInside_133 rfl ?_
                  refine k_getR d_Content_isTagInside_134 fl_7_15 ob_7 rfl ?_
                  refine k_bipush d_Content_isTagInside_137 cB_6 ?_
                  refine k_cvv [.inl 6] d_Content_isTagInside_139 ml_7_108 rfl rfl ob_2 rfl (s_Reader_fail hL (by omega)  h) (fun σ24 h => ?_)
                  refine k_goto d_Content_isTagInside_142 rfl ?_
                  exact k_sb (sb_n (sb_n sb_nil)) (hJ4 () _ h)
              · have h := ineg c20 h
                refine k_aload_n d_Content_isTagInside_114 rfl ?_
                refine k_cvv [] d_Content_isTagInside_115 ml_7_217 rfl rfl ob_7 rfl (s_Content_readSection hL (by omega)  h) (fun σ26 h => ?_)
                refine k_goto d_Content_isTagInside_118 rfl ?_
                exact k_sb (sb_n (sb_n sb_nil)) (hJ4 () _ h)
            · have h := ineg c17 h
              refine k_aload_n d_Content_isTagInside_95 rfl ?_
              refine k_cvv [] d_Content_isTagInside_96 ml_7_190 rfl rfl ob_7 rfl (s_Content_readInstruction hL (by omega)  h) (fun σ28 h => ?_)
              refine k_goto d_Content_isTagInside_99 rfl ?_
              exact k_sb (sb_n (sb_n sb_nil)) (hJ4 () _ h)
          · have h := ineg c14 h
            refine k_aload_n d_Content_isTagInside_65 rfl ?_
            refine k_getR d_Content_isTagInside_66 fl_7_31 ob_7 rfl ?_
            refine k_iconst d_Content_isTagInside_69 cI_1 ?_
            refine k_cvv [.inl 1] d_Content_isTagInside_70 ml_7_214 rfl rfl ob_6 rfl (s_Tree_note hL (by omega)  h) (fun σ30 h => ?_)
            refine k_aload_n d_Content_isTagInside_73 rfl ?_
            refine k_getR d_Content_isTagInside_74 fl_7_15 ob_7 rfl ?_
            refine k_cvv [] d_Content_isTagInside_77 ml_7_185 rfl rfl ob_2 rfl (s_Reader_readComment hL (by omega)  h) (fun σ32 h => ?_)
            refine k_goto d_Content_isTagInside_80 rfl ?_
            exact k_sb (sb_n (sb_n sb_nil)) (hJ4 () _ h)
        · have h := ineg c11 h
          refine k_aload_n d_Content_isTagInside_46 rfl ?_
          refine k_cvv [] d_Content_isTagInside_47 ml_7_211 rfl rfl ob_7 rfl (s_Content_readEnd hL (by omega)  h) (fun σ34 h => ?_)
          refine k_goto d_Content_isTagInside_50 rfl ?_
          exact k_sb (sb_n (sb_n sb_nil)) (hJ4 () _ h)
      · have h := ineg c8 h
        refine k_aload_n d_Content_isTagInside_27 rfl ?_
        refine k_cvv [] d_Content_isTagInside_28 ml_7_208 rfl rfl ob_7 rfl (s_Content_readRun hL (by omega)  h) (fun σ36 h => ?_)
        refine k_goto d_Content_isTagInside_31 rfl ?_
        exact k_sb (sb_n (sb_n sb_nil)) (hJ4 () _ h)
    · have h := ipos c7 h
      refine k_aload_n d_Content_isTagInside_14 rfl ?_
      refine k_cvv [] d_Content_isTagInside_15 ml_7_205 rfl rfl ob_7 rfl (s_Content_readReference hL (by omega)  h) (fun σ38 h => ?_)
      refine k_goto d_Content_isTagInside_18 rfl ?_
      exact k_sb (sb_n (sb_n sb_nil)) (hJ4 () _ h)
theorem d_Doctype_readBegin_0 : decode b_Doctype_readBegin 0 = .ok (.aload_n 0, 1) := by decide +kernel
theorem d_Doctype_readBegin_1 : decode b_Doctype_readBegin 1 = .ok (.getfield 17, 3) := by decide +kernel
theorem d_Doctype_readBegin_4 : decode b_Doctype_readBegin 4 = .ok (.ldc 51, 2) := by decide +kernel
theorem d_Doctype_readBegin_6 : decode b_Doctype_readBegin 6 = .ok (.invokevirtual 53, 3) := by decide +kernel
theorem d_Doctype_readBegin_9 : decode b_Doctype_readBegin 9 = .ok (.aload_n 0, 1) := by decide +kernel
theorem d_Doctype_readBegin_10 : decode b_Doctype_readBegin 10 = .ok (.getfield 17, 3) := by decide +kernel
theorem d_Doctype_readBegin_13 : decode b_Doctype_readBegin 13 = .ok (.invokevirtual 59, 3) := by decide +kernel
theorem d_Doctype_readBegin_16 : decode b_Doctype_readBegin 16 = .ok (.aload_n 0, 1) := by decide +kernel
theorem d_Doctype_readBegin_17 : decode b_Doctype_readBegin 17 = .ok (.getfield 17, 3) := by decide +kernel
theorem d_Doctype_readBegin_20 : decode b_Doctype_readBegin 20 = .ok (.invokevirtual 62, 3) := by decide +kernel
theorem d_Doctype_readBegin_23 : decode b_Doctype_readBegin 23 = .ok (.istore_n 1, 1) := by decide +kernel
theorem d_Doctype_readBegin_24 : decode b_Doctype_readBegin 24 = .ok (.aload_n 0, 1) := by decide +kernel
theorem d_Doctype_readBegin_25 : decode b_Doctype_readBegin 25 = .ok (.getfield 17, 3) := by decide +kernel
theorem d_Doctype_readBegin_28 : decode b_Doctype_readBegin 28 = .ok (.getfield 66, 3) := by decide +kernel
theorem d_Doctype_readBegin_31 : decode b_Doctype_readBegin 31 = .ok (.iload_n 1, 1) := by decide +kernel
theorem d_Doctype_readBegin_32 : decode b_Doctype_readBegin 32 = .ok (.isub, 1) := by decide +kernel
theorem d_Doctype_readBegin_33 : decode b_Doctype_readBegin 33 = .ok (.istore_n 2, 1) := by decide +kernel
theorem d_Doctype_readBegin_34 : decode b_Doctype_readBegin 34 = .ok (.aload_n 0, 1) := by decide +kernel
theorem d_Doctype_readBegin_35 : decode b_Doctype_readBegin 35 = .ok (.getfield 17, 3) := by decide +kernel
theorem d_Doctype_readBegin_38 : decode b_Doctype_readBegin 38 = .ok (.invokevirtual 69, 3) := by decide +kernel
theorem d_Doctype_readBegin_41 : decode b_Doctype_readBegin 41 = .ok (.istore_n 3, 1) := by decide +kernel
theorem d_Doctype_readBegin_42 : decode b_Doctype_readBegin 42 = .ok (.iload_n 3, 1) := by decide +kernel
theorem d_Doctype_readBegin_43 : decode b_Doctype_readBegin 43 = .ok (.ifCond .eq 31, 3) := by decide +kernel
theorem d_Doctype_readBegin_46 : decode b_Doctype_readBegin 46 = .ok (.aload_n 0, 1) := by decide +kernel
theorem d_Doctype_readBegin_47 : decode b_Doctype_readBegin 47 = .ok (.getfield 17, 3) := by decide +kernel
theorem d_Doctype_readBegin_50 : decode b_Doctype_readBegin 50 = .ok (.ldc 73, 2) := by decide +kernel
theorem d_Doctype_readBegin_52 : decode b_Doctype_readBegin 52 = .ok (.invokevirtual 75, 3) := by decide +kernel
theorem d_Doctype_readBegin_55 : decode b_Doctype_readBegin 55 = .ok (.ifCond .ne 15, 3) := by decide +kernel
theorem d_Doctype_readBegin_58 : decode b_Doctype_readBegin 58 = .ok (.aload_n 0, 1) := by decide +kernel
theorem d_Doctype_readBegin_59 : decode b_Doctype_readBegin 59 = .ok (.getfield 17, 3) := by decide +kernel
theorem d_Doctype_readBegin_62 : decode b_Doctype_readBegin 62 = .ok (.ldc 79, 2) := by decide +kernel
theorem d_Doctype_readBegin_64 : decode b_Doctype_readBegin 64 = .ok (.invokevirtual 75, 3) := by decide +kernel
theorem d_Doctype_readBegin_67 : decode b_Doctype_readBegin 67 = .ok (.ifCond .eq 7, 3) := by decide +kernel
theorem d_Doctype_readBegin_70 : decode b_Doctype_readBegin 70 = .ok (.iconst 1, 1) := by decide +kernel
theorem d_Doctype_readBegin_71 : decode b_Doctype_readBegin 71 = .ok (.goto 4, 3) := by decide +kernel
theorem d_Doctype_readBegin_74 : decode b_Doctype_readBegin 74 = .ok (.iconst 0, 1) := by decide +kernel
theorem d_Doctype_readBegin_75 : decode b_Doctype_readBegin 75 = .ok (.istore 4, 2) := by decide +kernel
theorem d_Doctype_readBegin_77 : decode b_Doctype_readBegin 77 = .ok (.iload 4, 2) := by decide +kernel
theorem d_Doctype_readBegin_79 : decode b_Doctype_readBegin 79 = .ok (.ifCond .eq 19, 3) := by decide +kernel
theorem d_Doctype_readBegin_82 : decode b_Doctype_readBegin 82 = .ok (.aload_n 0, 1) := by decide +kernel
theorem d_Doctype_readBegin_83 : decode b_Doctype_readBegin 83 = .ok (.getfield 17, 3) := by decide +kernel
theorem d_Doctype_readBegin_86 : decode b_Doctype_readBegin 86 = .ok (.iconst 0, 1) := by decide +kernel
theorem d_Doctype_readBegin_87 : decode b_Doctype_readBegin 87 = .ok (.invokevirtual 81, 3) := by decide +kernel
theorem d_Doctype_readBegin_90 : decode b_Doctype_readBegin 90 = .ok (.aload_n 0, 1) := by decide +kernel
theorem d_Doctype_readBegin_91 : decode b_Doctype_readBegin 91 = .ok (.getfield 17, 3) := by decide +kernel
theorem d_Doctype_readBegin_94 : decode b_Doctype_readBegin 94 = .ok (.invokevirtual 69, 3) := by decide +kernel
theorem d_Doctype_readBegin_97 : decode b_Doctype_readBegin 97 = .ok (.pop, 1) := by decide +kernel
theorem d_Doctype_readBegin_98 : decode b_Doctype_readBegin 98 = .ok (.aload_n 0, 1) := by decide +kernel
theorem d_Doctype_readBegin_99 : decode b_Doctype_readBegin 99 = .ok (.aload_n 0, 1) := by decide +kernel
theorem d_Doctype_readBegin_100 : decode b_Doctype_readBegin 100 = .ok (.getfield 17, 3) := by decide +kernel
theorem d_Doctype_readBegin_103 : decode b_Doctype_readBegin 103 = .ok (.ldc 85, 2) := by decide +kernel
theorem d_Doctype_readBegin_105 : decode b_Doctype_readBegin 105 = .ok (.invokevirtual 87, 3) := by decide +kernel
theorem d_Doctype_readBegin_108 : decode b_Doctype_readBegin 108 = .ok (.putfield 48, 3) := by decide +kernel
theorem d_Doctype_readBegin_111 : decode b_Doctype_readBegin 111 = .ok (.aload_n 0, 1) := by decide +kernel
theorem d_Doctype_readBegin_112 : decode b_Doctype_readBegin 112 = .ok (.getfield 48, 3) := by decide +kernel
theorem d_Doctype_readBegin_115 : decode b_Doctype_readBegin 115 = .ok (.ifCond .ne 12, 3) := by decide +kernel
theorem d_Doctype_readBegin_118 : decode b_Doctype_readBegin 118 = .ok (.aload_n 0, 1) := by decide +kernel
theorem d_Doctype_readBegin_119 : decode b_Doctype_readBegin 119 = .ok (.getfield 17, 3) := by decide +kernel
theorem d_Doctype_readBegin_122 : decode b_Doctype_readBegin 122 = .ok (.ldc 90, 2) := by decide +kernel
theorem d_Doctype_readBegin_124 : decode b_Doctype_readBegin 124 = .ok (.invokevirtual 53, 3) := by decide +kernel
theorem d_Doctype_readBegin_127 : decode b_Doctype_readBegin 127 = .ok (.iload 4, 2) := by decide +kernel
theorem d_Doctype_readBegin_129 : decode b_Doctype_readBegin 129 = .ok (.ifCond .eq 11, 3) := by decide +kernel
theorem d_Doctype_readBegin_132 : decode b_Doctype_readBegin 132 = .ok (.aload_n 0, 1) := by decide +kernel
theorem d_Doctype_readBegin_133 : decode b_Doctype_readBegin 133 = .ok (.getfield 17, 3) := by decide +kernel
theorem d_Doctype_readBegin_136 : decode b_Doctype_readBegin 136 = .ok (.iconst 3, 1) := by decide +kernel
theorem d_Doctype_readBegin_137 : decode b_Doctype_readBegin 137 = .ok (.invokevirtual 92, 3) := by decide +kernel
theorem d_Doctype_readBegin_140 : decode b_Doctype_readBegin 140 = .ok (.aload_n 0, 1) := by decide +kernel
theorem d_Doctype_readBegin_141 : decode b_Doctype_readBegin 141 = .ok (.iconst 1, 1) := by decide +kernel
theorem d_Doctype_readBegin_142 : decode b_Doctype_readBegin 142 = .ok (.putfield 44, 3) := by decide +kernel
theorem d_Doctype_readBegin_145 : decode b_Doctype_readBegin 145 = .ok (.aload_n 0, 1) := by decide +kernel
theorem d_Doctype_readBegin_146 : decode b_Doctype_readBegin 146 = .ok (.aload_n 0, 1) := by decide +kernel
theorem d_Doctype_readBegin_147 : decode b_Doctype_readBegin 147 = .ok (.getfield 11, 3) := by decide +kernel
theorem d_Doctype_readBegin_150 : decode b_Doctype_readBegin 150 = .ok (.iload_n 1, 1) := by decide +kernel
theorem d_Doctype_readBegin_151 : decode b_Doctype_readBegin 151 = .ok (.iload_n 2, 1) := by decide +kernel
theorem d_Doctype_readBegin_152 : decode b_Doctype_readBegin 152 = .ok (.invokevirtual 96, 3) := by decide +kernel
theorem d_Doctype_readBegin_155 : decode b_Doctype_readBegin 155 = .ok (.putfield 99, 3) := by decide +kernel
theorem d_Doctype_readBegin_158 : decode b_Doctype_readBegin 158 = .ok (.return_, 1) := by decide +kernel
/-- Doctype_readBegin -/
def w_Doctype_readBegin (L : Nat → Nat)  (Q : IS → Prop) (σ : IS) : Prop := w_Reader_need L 1021 (fun σ1 => w_Reader_needSpace L  (fun σ3 => w_Reader_readName L  (fun v6 σ5 => inR ((σ5.1 2 2) - v6) ∧ w_Reader_skipSpace L  (fun v8 σ7 => WJ (fun (s11 : Int) (σ12 : IS) => WJ (fun (s15 : Unit) (σ16 : IS) => w_Reader_skip L 1024 (fun v18 σ17 => is01 v18 ∧ WJ (fun (s21 : Unit) (σ22 : IS) => WJ (fun (s25 : Unit) (σ26 : IS) => w_Store_intern L v6 ((σ5.1 2 2) - v6) (fun v28 σ27 => Q (pf σ27 5 7 v28)) (pf σ26 5 5 1)) (fun J23 => if s11 = 0 then J23 () σ22 else w_Reader_fail L 3 (fun σ30 => J23 () σ30) σ22)) (fun J19 => if v18 = 0 then w_Reader_need L 1025 (fun σ33 => J19 () σ33) (pf σ17 5 6 v18) else J19 () (pf σ17 5 6 v18))) σ16) (fun J13 => if s11 = 0 then J13 () σ12 else w_Reader_readOutside L 0 (fun σ37 => w_Reader_skipSpace L  (fun v40 σ39 => J13 () σ39) σ37) σ12)) (fun J9 => WJ (fun (s43 : Unit) (σ44 : IS) => J9 0 σ44) (fun J41 => if v8 = 0 then J41 () σ7 else w_Reader_at L 1022 (fun v47 σ46 => WJ (fun (s50 : Unit) (σ51 : IS) => J9 1 σ51) (fun J48 => if v47 = 0 then w_Reader_at L 1023 (fun v54 σ53 => if v54 = 0 then J41 () σ53 else J48 () σ53) σ46 else J48 () σ46)) σ7))) σ5) σ3) σ1) σ
set_option maxHeartbeats 4000000 in
set_option maxRecDepth 20000 in
theorem s_Doctype_readBegin {L : Nat → Nat} (hL : ∀ r, L r < 2147483648) {d : Nat} (hd : 4 ≤ d)  {Q : IS → Prop} {σ : IS}  (h : w_Doctype_readBegin L  Q σ) : OkI BF L d 5 b_Doctype_readBegin 5 0 0 [] [some (.inr 5)] σ (qv Q) := by
  unfold w_Doctype_readBegin at h
  obtain ⟨d, rfl⟩ : ∃ e, d = e + 1 := ⟨d - 1, by omega⟩
  refine k_sb (lv' := [some (.inr 5), none, none, none, none]) (sb_s (sb_e (sb_e (sb_e (sb_e sb_nil))))) ?_
  refine k_aload_n d_Doctype_readBegin_0 rfl ?_
  refine k_getR d_Doctype_readBegin_1 fl_5_17 ob_5 rfl ?_
  refine k_ldc d_Doctype_readBegin_4 ks_5_51 rfl ?_
  refine k_cvv [.inr 1021] d_Doctype_readBegin_6 ml_5_53 rfl rfl ob_2 rfl (s_Reader_need hL (by omega) it_1021 h) (fun σ1 h => ?_)
  refine k_aload_n d_Doctype_readBegin_9 rfl ?_
  refine k_getR d_Doctype_readBegin_10 fl_5_17 ob_5 rfl ?_
  refine k_cvv [] d_Doctype_readBegin_13 ml_5_59 rfl rfl ob_2 rfl (s_Reader_needSpace hL (by omega)  h) (fun σ3 h => ?_)
  refine k_aload_n d_Doctype_readBegin_16 rfl ?_
  refine k_getR d_Doctype_readBegin_17 fl_5_17 ob_5 rfl ?_
  refine k_cvi [] d_Doctype_readBegin_20 ml_5_62 rfl rfl ob_2 rfl (s_Reader_readName hL (by omega)  h) (fun v6 σ5 h => ?_)
  refine k_istore_n (lv' := [some (.inr 5), some (.inl v6), none, none, none]) d_Doctype_readBegin_23 rfl rfl ?_
  refine k_aload_n d_Doctype_readBegin_24 rfl ?_
  refine k_getR d_Doctype_readBegin_25 fl_5_17 ob_5 rfl ?_
  refine k_getI (x := (σ5.1 2 2)) d_Doctype_readBegin_28 fl_5_66 ob_2 rfl rfl ?_
  refine k_iload_n d_Doctype_readBegin_31 rfl ?_
  obtain ⟨p56, h⟩ := h
  refine k_isub d_Doctype_readBegin_32 p56 ?_
  refine k_istore_n (lv' := [some (.inr 5), some (.inl v6), some (.inl ((σ5.1 2 2) - v6)), none, none]) d_Doctype_readBegin_33 rfl rfl ?_
  refine k_aload_n d_Doctype_readBegin_34 rfl ?_
  refine k_getR d_Doctype_readBegin_35 fl_5_17 ob_5 rfl ?_
  refine k_cvi [] d_Doctype_readBegin_38 ml_5_69 rfl rfl ob_2 rfl (s_Reader_skipSpace hL (by omega)  h) (fun v8 σ7 h => ?_)
  refine k_istore_n (lv' := [some (.inr 5), some (.inl v6), some (.inl ((σ5.1 2 2) - v6)), some (.inl v8), none]) d_Doctype_readBegin_41 rfl rfl ?_
  refine k_iload_n d_Doctype_readBegin_42 rfl ?_
  refine k_join (S := Int) (pc' := 75) (st' := fun s11 => [.inl s11]) (lv' := fun s11 => [some (.inr 5), some (.inl v6), some (.inl ((σ5.1 2 2) - v6)), none, none]) (fun s11 σ12 h => ?_) (fun J9 hJ10 h => ?_) h
  · refine k_istore (lv' := [some (.inr 5), some (.inl v6), some (.inl ((σ5.1 2 2) - v6)), none, some (.inl s11)]) d_Doctype_readBegin_75 rfl rfl ?_
    refine k_iload d_Doctype_readBegin_77 rfl ?_
    refine k_join (S := Unit) (pc' := 98) (st' := fun s15 => []) (lv' := fun s15 => [some (.inr 5), some (.inl v6), some (.inl ((σ5.1 2 2) - v6)), none, some (.inl s11)]) (fun s15 σ16 h => ?_) (fun J13 hJ14 h => ?_) h
    · refine k_aload_n d_Doctype_readBegin_98 rfl ?_
      refine k_aload_n d_Doctype_readBegin_99 rfl ?_
      refine k_getR d_Doctype_readBegin_100 fl_5_17 ob_5 rfl ?_
      refine k_ldc d_Doctype_readBegin_103 ks_5_85 rfl ?_
      refine k_cvi [.inr 1024] d_Doctype_readBegin_105 ml_5_87 rfl rfl ob_2 rfl (s_Reader_skip hL (by omega) it_1024 h) (fun v18 σ17 h => ?_)
      obtain ⟨p35, h⟩ := h
      refine k_putZ d_Doctype_readBegin_108 fl_5_48 ob_5 rfl p35 ?_
      refine k_aload_n d_Doctype_readBegin_111 rfl ?_
      refine k_getI (x := v18) d_Doctype_readBegin_112 fl_5_48 ob_5 rfl rfl ?_
      refine k_join (S := Unit) (pc' := 127) (st' := fun s21 => []) (lv' := fun s21 => [some (.inr 5), some (.inl v6), some (.inl ((σ5.1 2 2) - v6)), none, some (.inl s11)]) (fun s21 σ22 h => ?_) (fun J19 hJ20 h => ?_) h
      · refine k_iload d_Doctype_readBegin_127 rfl ?_
        refine k_join (S := Unit) (pc' := 140) (st' := fun s25 => []) (lv' := fun s25 => [some (.inr 5), some (.inl v6), some (.inl ((σ5.1 2 2) - v6)), none, none]) (fun s25 σ26 h => ?_) (fun J23 hJ24 h => ?_) h
        · refine k_aload_n d_Doctype_readBegin_140 rfl ?_
          refine k_iconst d_Doctype_readBegin_141 cI_1 ?_
          refine k_putZ d_Doctype_readBegin_142 fl_5_44 ob_5 rfl (Or.inr rfl) ?_
          refine k_aload_n d_Doctype_readBegin_145 rfl ?_
          refine k_aload_n d_Doctype_readBegin_146 rfl ?_
          refine k_getR d_Doctype_readBegin_147 fl_5_11 ob_5 rfl ?_
          refine k_iload_n d_Doctype_readBegin_150 rfl ?_
          refine k_iload_n d_Doctype_readBegin_151 rfl ?_
          refine k_cvi [.inl v6, .inl ((σ5.1 2 2) - v6)] d_Doctype_readBegin_152 ml_5_96 rfl rfl ob_1 rfl (s_Store_intern hL (by omega) stB_BF h) (fun v28 σ27 h => ?_)
          refine k_putI d_Doctype_readBegin_155 fl_5_99 ob_5 rfl ?_
          exact k_ret d_Doctype_readBegin_158 h
        · refine k_ifeq d_Doctype_readBegin_129 rfl (fun c29 => ?_) (fun c29 => ?_)
          · have h := ipos c29 h
            exact k_sb (sb_s (sb_s (sb_s (sb_s (sb_n sb_nil))))) (hJ24 () _ h)
          · have h := ineg c29 h
            refine k_aload_n d_Doctype_readBegin_132 rfl ?_
            refine k_getR d_Doctype_readBegin_133 fl_5_17 ob_5 rfl ?_
            refine k_iconst d_Doctype_readBegin_136 cI_3 ?_
            refine k_cvv [.inl 3] d_Doctype_readBegin_137 ml_5_92 rfl rfl ob_2 rfl (s_Reader_fail hL (by omega)  h) (fun σ30 h => ?_)
            exact k_sb (sb_s (sb_s (sb_s (sb_s (sb_n sb_nil))))) (hJ24 () _ h)
      · refine k_ifne d_Doctype_readBegin_115 rfl (fun c32 => ?_) (fun c32 => ?_)
        · have h := ineg c32 h
          exact k_sb (sb_s (sb_s (sb_s (sb_s (sb_s sb_nil))))) (hJ20 () _ h)
        · have h := ipos c32 h
          refine k_aload_n d_Doctype_readBegin_118 rfl ?_
          refine k_getR d_Doctype_readBegin_119 fl_5_17 ob_5 rfl ?_
          refine k_ldc d_Doctype_readBegin_122 ks_5_90 rfl ?_
          refine k_cvv [.inr 1025] d_Doctype_readBegin_124 ml_5_53 rfl rfl ob_2 rfl (s_Reader_need hL (by omega) it_1025 h) (fun σ33 h => ?_)
          exact k_sb (sb_s (sb_s (sb_s (sb_s (sb_s sb_nil))))) (hJ20 () _ h)
    · refine k_ifeq d_Doctype_readBegin_79 rfl (fun c36 => ?_) (fun c36 => ?_)
      · have h := ipos c36 h
        exact k_sb (sb_s (sb_s (sb_s (sb_s (sb_s sb_nil))))) (hJ14 () _ h)
      · have h := ineg c36 h
        refine k_aload_n d_Doctype_readBegin_82 rfl ?_
        refine k_getR d_Doctype_readBegin_83 fl_5_17 ob_5 rfl ?_
        refine k_iconst d_Doctype_readBegin_86 cI_0 ?_
        refine k_cvv [.inl 0] d_Doctype_readBegin_87 ml_5_81 rfl rfl ob_2 rfl (s_Reader_readOutside hL (by omega)  h) (fun σ37 h => ?_)
        refine k_aload_n d_Doctype_readBegin_90 rfl ?_
        refine k_getR d_Doctype_readBegin_91 fl_5_17 ob_5 rfl ?_
        refine k_cvi [] d_Doctype_readBegin_94 ml_5_69 rfl rfl ob_2 rfl (s_Reader_skipSpace hL (by omega)  h) (fun v40 σ39 h => ?_)
        refine k_pop d_Doctype_readBegin_97 ?_
        exact k_sb (sb_s (sb_s (sb_s (sb_s (sb_s sb_nil))))) (hJ14 () _ h)
  · refine k_join (S := Unit) (pc' := 74) (st' := fun s43 => []) (lv' := fun s43 => [some (.inr 5), some (.inl v6), some (.inl ((σ5.1 2 2) - v6)), none, none]) (fun s43 σ44 h => ?_) (fun J41 hJ42 h => ?_) h
    · refine k_iconst d_Doctype_readBegin_74 cI_0 ?_
      exact k_sb (sb_s (sb_s (sb_s (sb_s (sb_s sb_nil))))) (hJ10 0 _ h)
    · refine k_ifeq d_Doctype_readBegin_43 rfl (fun c45 => ?_) (fun c45 => ?_)
      · have h := ipos c45 h
        exact k_sb (sb_s (sb_s (sb_s (sb_n (sb_s sb_nil))))) (hJ42 () _ h)
      · have h := ineg c45 h
        refine k_aload_n d_Doctype_readBegin_46 rfl ?_
        refine k_getR d_Doctype_readBegin_47 fl_5_17 ob_5 rfl ?_
        refine k_ldc d_Doctype_readBegin_50 ks_5_73 rfl ?_
        refine k_cvi [.inr 1022] d_Doctype_readBegin_52 ml_5_75 rfl rfl ob_2 rfl (s_Reader_at hL (by omega) it_1022 h) (fun v47 σ46 h => ?_)
        refine k_join (S := Unit) (pc' := 70) (st' := fun s50 => []) (lv' := fun s50 => [some (.inr 5), some (.inl v6), some (.inl ((σ5.1 2 2) - v6)), none, none]) (fun s50 σ51 h => ?_) (fun J48 hJ49 h => ?_) h
        · refine k_iconst d_Doctype_readBegin_70 cI_1 ?_
          refine k_goto d_Doctype_readBegin_71 rfl ?_
          exact k_sb (sb_s (sb_s (sb_s (sb_s (sb_s sb_nil))))) (hJ10 1 _ h)
        · refine k_ifne d_Doctype_readBegin_55 rfl (fun c52 => ?_) (fun c52 => ?_)
          · have h := ineg c52 h
            exact k_sb (sb_s (sb_s (sb_s (sb_n (sb_s sb_nil))))) (hJ49 () _ h)
          · have h := ipos c52 h
            refine k_aload_n d_Doctype_readBegin_58 rfl ?_
            refine k_getR d_Doctype_readBegin_59 fl_5_17 ob_5 rfl ?_
            refine k_ldc d_Doctype_readBegin_62 ks_5_79 rfl ?_
            refine k_cvi [.inr 1023] d_Doctype_readBegin_64 ml_5_75 rfl rfl ob_2 rfl (s_Reader_at hL (by omega) it_1023 h) (fun v54 σ53 h => ?_)
            refine k_ifeq d_Doctype_readBegin_67 rfl (fun c55 => ?_) (fun c55 => ?_)
            · have h := ipos c55 h
              exact k_sb (sb_s (sb_s (sb_s (sb_n (sb_s sb_nil))))) (hJ42 () _ h)
            · have h := ineg c55 h
              exact k_sb (sb_s (sb_s (sb_s (sb_n (sb_s sb_nil))))) (hJ49 () _ h)
