theorem d_KReader_normalise_0 : decode b_KReader_normalise 0 = .ok (.iload_n 2, 1) := by decide +kernel
theorem d_KReader_normalise_1 : decode b_KReader_normalise 1 = .ok (.ifCond .ne 13, 3) := by decide +kernel
theorem d_KReader_normalise_4 : decode b_KReader_normalise 4 = .ok (.aload_n 0, 1) := by decide +kernel
theorem d_KReader_normalise_5 : decode b_KReader_normalise 5 = .ok (.getfield 150, 3) := by decide +kernel
theorem d_KReader_normalise_8 : decode b_KReader_normalise 8 = .ok (.getfield 489, 3) := by decide +kernel
theorem d_KReader_normalise_11 : decode b_KReader_normalise 11 = .ok (.iload_n 1, 1) := by decide +kernel
theorem d_KReader_normalise_12 : decode b_KReader_normalise 12 = .ok (.isub, 1) := by decide +kernel
theorem d_KReader_normalise_13 : decode b_KReader_normalise 13 = .ok (.ireturn, 1) := by decide +kernel
theorem d_KReader_normalise_14 : decode b_KReader_normalise 14 = .ok (.iload_n 1, 1) := by decide +kernel
theorem d_KReader_normalise_15 : decode b_KReader_normalise 15 = .ok (.istore_n 3, 1) := by decide +kernel
theorem d_KReader_normalise_16 : decode b_KReader_normalise 16 = .ok (.iload_n 1, 1) := by decide +kernel
theorem d_KReader_normalise_17 : decode b_KReader_normalise 17 = .ok (.istore 4, 2) := by decide +kernel
theorem d_KReader_normalise_19 : decode b_KReader_normalise 19 = .ok (.iload 4, 2) := by decide +kernel
theorem d_KReader_normalise_21 : decode b_KReader_normalise 21 = .ok (.aload_n 0, 1) := by decide +kernel
theorem d_KReader_normalise_22 : decode b_KReader_normalise 22 = .ok (.getfield 150, 3) := by decide +kernel
theorem d_KReader_normalise_25 : decode b_KReader_normalise 25 = .ok (.getfield 489, 3) := by decide +kernel
theorem d_KReader_normalise_28 : decode b_KReader_normalise 28 = .ok (.if_icmp .ge 63, 3) := by decide +kernel
theorem d_KReader_normalise_31 : decode b_KReader_normalise 31 = .ok (.aload_n 0, 1) := by decide +kernel
theorem d_KReader_normalise_32 : decode b_KReader_normalise 32 = .ok (.getfield 150, 3) := by decide +kernel
theorem d_KReader_normalise_35 : decode b_KReader_normalise 35 = .ok (.getfield 806, 3) := by decide +kernel
theorem d_KReader_normalise_38 : decode b_KReader_normalise 38 = .ok (.iload 4, 2) := by decide +kernel
theorem d_KReader_normalise_40 : decode b_KReader_normalise 40 = .ok (.iaload, 1) := by decide +kernel
theorem d_KReader_normalise_41 : decode b_KReader_normalise 41 = .ok (.istore 5, 2) := by decide +kernel
theorem d_KReader_normalise_43 : decode b_KReader_normalise 43 = .ok (.iload 5, 2) := by decide +kernel
theorem d_KReader_normalise_45 : decode b_KReader_normalise 45 = .ok (.bipush 32, 2) := by decide +kernel
theorem d_KReader_normalise_47 : decode b_KReader_normalise 47 = .ok (.if_icmp .ne 24, 3) := by decide +kernel
theorem d_KReader_normalise_50 : decode b_KReader_normalise 50 = .ok (.iload_n 3, 1) := by decide +kernel
theorem d_KReader_normalise_51 : decode b_KReader_normalise 51 = .ok (.iload_n 1, 1) := by decide +kernel
theorem d_KReader_normalise_52 : decode b_KReader_normalise 52 = .ok (.if_icmp .le 33, 3) := by decide +kernel
theorem d_KReader_normalise_55 : decode b_KReader_normalise 55 = .ok (.aload_n 0, 1) := by decide +kernel
theorem d_KReader_normalise_56 : decode b_KReader_normalise 56 = .ok (.getfield 150, 3) := by decide +kernel
theorem d_KReader_normalise_59 : decode b_KReader_normalise 59 = .ok (.getfield 806, 3) := by decide +kernel
theorem d_KReader_normalise_62 : decode b_KReader_normalise 62 = .ok (.iload_n 3, 1) := by decide +kernel
theorem d_KReader_normalise_63 : decode b_KReader_normalise 63 = .ok (.iconst 1, 1) := by decide +kernel
theorem d_KReader_normalise_64 : decode b_KReader_normalise 64 = .ok (.isub, 1) := by decide +kernel
theorem d_KReader_normalise_65 : decode b_KReader_normalise 65 = .ok (.iaload, 1) := by decide +kernel
theorem d_KReader_normalise_66 : decode b_KReader_normalise 66 = .ok (.bipush 32, 2) := by decide +kernel
theorem d_KReader_normalise_68 : decode b_KReader_normalise 68 = .ok (.if_icmp .eq 17, 3) := by decide +kernel
theorem d_KReader_normalise_71 : decode b_KReader_normalise 71 = .ok (.aload_n 0, 1) := by decide +kernel
theorem d_KReader_normalise_72 : decode b_KReader_normalise 72 = .ok (.getfield 150, 3) := by decide +kernel
theorem d_KReader_normalise_75 : decode b_KReader_normalise 75 = .ok (.getfield 806, 3) := by decide +kernel
theorem d_KReader_normalise_78 : decode b_KReader_normalise 78 = .ok (.iload_n 3, 1) := by decide +kernel
theorem d_KReader_normalise_79 : decode b_KReader_normalise 79 = .ok (.iload 5, 2) := by decide +kernel
theorem d_KReader_normalise_81 : decode b_KReader_normalise 81 = .ok (.iastore, 1) := by decide +kernel
theorem d_KReader_normalise_82 : decode b_KReader_normalise 82 = .ok (.iinc 3 1, 3) := by decide +kernel
theorem d_KReader_normalise_85 : decode b_KReader_normalise 85 = .ok (.iinc 4 1, 3) := by decide +kernel
theorem d_KReader_normalise_88 : decode b_KReader_normalise 88 = .ok (.goto (-69), 3) := by decide +kernel
theorem d_KReader_normalise_91 : decode b_KReader_normalise 91 = .ok (.iload_n 3, 1) := by decide +kernel
theorem d_KReader_normalise_92 : decode b_KReader_normalise 92 = .ok (.iload_n 1, 1) := by decide +kernel
theorem d_KReader_normalise_93 : decode b_KReader_normalise 93 = .ok (.if_icmp .le 22, 3) := by decide +kernel
theorem d_KReader_normalise_96 : decode b_KReader_normalise 96 = .ok (.aload_n 0, 1) := by decide +kernel
theorem d_KReader_normalise_97 : decode b_KReader_normalise 97 = .ok (.getfield 150, 3) := by decide +kernel
theorem d_KReader_normalise_100 : decode b_KReader_normalise 100 = .ok (.getfield 806, 3) := by decide +kernel
theorem d_KReader_normalise_103 : decode b_KReader_normalise 103 = .ok (.iload_n 3, 1) := by decide +kernel
theorem d_KReader_normalise_104 : decode b_KReader_normalise 104 = .ok (.iconst 1, 1) := by decide +kernel
theorem d_KReader_normalise_105 : decode b_KReader_normalise 105 = .ok (.isub, 1) := by decide +kernel
theorem d_KReader_normalise_106 : decode b_KReader_normalise 106 = .ok (.iaload, 1) := by decide +kernel
theorem d_KReader_normalise_107 : decode b_KReader_normalise 107 = .ok (.bipush 32, 2) := by decide +kernel
theorem d_KReader_normalise_109 : decode b_KReader_normalise 109 = .ok (.if_icmp .ne 6, 3) := by decide +kernel
theorem d_KReader_normalise_112 : decode b_KReader_normalise 112 = .ok (.iinc 3 (-1), 3) := by decide +kernel
theorem d_KReader_normalise_115 : decode b_KReader_normalise 115 = .ok (.aload_n 0, 1) := by decide +kernel
theorem d_KReader_normalise_116 : decode b_KReader_normalise 116 = .ok (.getfield 150, 3) := by decide +kernel
theorem d_KReader_normalise_119 : decode b_KReader_normalise 119 = .ok (.iload_n 3, 1) := by decide +kernel
theorem d_KReader_normalise_120 : decode b_KReader_normalise 120 = .ok (.putfield 489, 3) := by decide +kernel
theorem d_KReader_normalise_123 : decode b_KReader_normalise 123 = .ok (.iload_n 3, 1) := by decide +kernel
theorem d_KReader_normalise_124 : decode b_KReader_normalise 124 = .ok (.iload_n 1, 1) := by decide +kernel
theorem d_KReader_normalise_125 : decode b_KReader_normalise 125 = .ok (.isub, 1) := by decide +kernel
theorem d_KReader_normalise_126 : decode b_KReader_normalise 126 = .ok (.ireturn, 1) := by decide +kernel
/-- KReader_normalise -/
def w_KReader_normalise (L : Nat → Nat) (a1 : Int) (a2 : Int) (Q : Int → IS → Prop) (σ : IS) : Prop := if a2 = 0 then dyD (σ.1 16 2) ∧ inR ((σ.1 (Int.toNat (σ.1 16 2)) 2) - a1) ∧ Q ((σ.1 (Int.toNat (σ.1 16 2)) 2) - a1) σ else WL (fun (K2 : Int × Int → IS → Prop) (s4 : Int × Int) (σ5 : IS) => dyD (σ5.1 16 2) ∧ if s4.2 < (σ5.1 (Int.toNat (σ5.1 16 2)) 2) then inL L (rfo (Int.toNat (σ5.1 16 2)) 1) s4.2 ∧ WJ (fun (s26 : Int) (σ27 : IS) => inR (s4.2 + 1) ∧ K2 (s26, (s4.2 + 1)) σ27) (fun J24 => WJ (fun (s31 : Unit) (σ32 : IS) => dyD (σ32.1 16 2) ∧ inL L (rfo (Int.toNat (σ32.1 16 2)) 1) s4.1 ∧ inR (s4.1 + 1) ∧ J24 (s4.1 + 1) (pr σ32 (rfo (Int.toNat (σ32.1 16 2)) 1) (Int.toNat s4.1) (σ5.2 (rfo (Int.toNat (σ5.1 16 2)) 1) (Int.toNat s4.2)))) (fun J29 => if (σ5.2 (rfo (Int.toNat (σ5.1 16 2)) 1) (Int.toNat s4.2)) = 32 then ((a1 < s4.1 → (inR (s4.1 - 1) ∧ inL L (rfo (Int.toNat (σ5.1 16 2)) 1) (s4.1 - 1)))) ∧ if a1 < s4.1 ∧ (¬ (σ5.2 (rfo (Int.toNat (σ5.1 16 2)) 1) (Int.toNat (s4.1 - 1))) = 32) then J29 () σ5 else J24 s4.1 σ5 else J29 () σ5)) else WJ (fun (s10 : Int) (σ11 : IS) => dyD (σ11.1 16 2) ∧ inR (s10 - a1) ∧ Q (s10 - a1) (pf σ11 (Int.toNat (σ11.1 16 2)) 2 s10)) (fun J8 => ((a1 < s4.1 → (inR (s4.1 - 1) ∧ inL L (rfo (Int.toNat (σ5.1 16 2)) 1) (s4.1 - 1)))) ∧ if a1 < s4.1 ∧ ((σ5.2 (rfo (Int.toNat (σ5.1 16 2)) 1) (Int.toNat (s4.1 - 1))) = 32) then inR (s4.1 + (-1)) ∧ J8 (s4.1 + (-1)) σ5 else J8 s4.1 σ5)) (a1, a1) σ
set_option maxHeartbeats 4000000 in
set_option maxRecDepth 20000 in
theorem s_KReader_normalise {L : Nat → Nat} (hL : ∀ r, L r < 2147483648) {d : Nat} (hd : 0 ≤ d) {a1 : Int} {a2 : Int} {Q : Int → IS → Prop} {σ : IS}  (h : w_KReader_normalise L a1 a2 Q σ) : OkI BF L d 15 b_KReader_normalise 6 1 0 [] [some (.inr 16), some (.inl a1), some (.inl a2)] σ (qi Q) := by
  unfold w_KReader_normalise at h
  refine k_sb (lv' := [some (.inr 16), some (.inl a1), some (.inl a2), none, none, none]) (sb_s (sb_s (sb_s (sb_e (sb_e (sb_e sb_nil)))))) ?_
  refine k_iload_n d_KReader_normalise_0 rfl ?_
  refine k_ifne d_KReader_normalise_1 rfl (fun c1 => ?_) (fun c1 => ?_)
  · have h := ineg c1 h
    refine k_iload_n d_KReader_normalise_14 rfl ?_
    refine k_istore_n (lv' := [some (.inr 16), some (.inl a1), some (.inl a2), some (.inl a1), none, none]) d_KReader_normalise_15 rfl rfl ?_
    refine k_iload_n d_KReader_normalise_16 rfl ?_
    refine k_istore (lv' := [some (.inr 16), some (.inl a1), some (.inl a2), some (.inl a1), some (.inl a1), none]) d_KReader_normalise_17 rfl rfl ?_
    refine k_sb (lv' := [some (.inr 16), some (.inl a1), none, some (.inl a1), some (.inl a1), none]) (sb_s (sb_s (sb_n (sb_s (sb_s (sb_s sb_nil)))))) ?_
    refine k_loop (S := Int × Int) (st := fun _ => []) (lv := fun s4 => [some (.inr 16), some (.inl a1), none, some (.inl s4.1), some (.inl s4.2), none]) (fun K2 hK3 s4 σ5 h => ?_) (a1, a1) _ h
    refine k_iload d_KReader_normalise_19 rfl ?_
    refine k_aload_n d_KReader_normalise_21 rfl ?_
    obtain ⟨y6, h⟩ := h
    refine k_getD (x := (σ5.1 16 2)) d_KReader_normalise_22 fl_15_150 ob_16 rfl rfl (dyD_pos y6) ?_
    refine k_getI (x := (σ5.1 (Int.toNat (σ5.1 16 2)) 2)) d_KReader_normalise_25 fl_15_489 (doc_ob (dyD_doc y6)) (dfi_2 (dyD_doc y6)) rfl ?_
    refine k_icge d_KReader_normalise_28 rfl (fun c7 => ?_) (fun c7 => ?_)
    · have h := ineg c7 h
      refine k_iload_n d_KReader_normalise_91 rfl ?_
      refine k_iload_n d_KReader_normalise_92 rfl ?_
      refine k_join (S := Int) (pc' := 115) (st' := fun s10 => []) (lv' := fun s10 => [some (.inr 16), some (.inl a1), none, some (.inl s10), none, none]) (fun s10 σ11 h => ?_) (fun J8 hJ9 h => ?_) h
      · refine k_aload_n d_KReader_normalise_115 rfl ?_
        obtain ⟨y12, h⟩ := h
        refine k_getD (x := (σ11.1 16 2)) d_KReader_normalise_116 fl_15_150 ob_16 rfl rfl (dyD_pos y12) ?_
        refine k_iload_n d_KReader_normalise_119 rfl ?_
        refine k_putI d_KReader_normalise_120 fl_15_489 (doc_ob (dyD_doc y12)) (dfz_2 (dyD_doc y12)) ?_
        refine k_iload_n d_KReader_normalise_123 rfl ?_
        refine k_iload_n d_KReader_normalise_124 rfl ?_
        obtain ⟨p13, h⟩ := h
        refine k_isub d_KReader_normalise_125 p13 ?_
        exact k_iret d_KReader_normalise_126 (Or.inl rfl) h
      · obtain ⟨pt20, h⟩ := h
        have hX17 : (a1 < s4.1 ∧ ((σ5.2 (rfo (Int.toNat (σ5.1 16 2)) 1) (Int.toNat (s4.1 - 1))) = 32)) → OkI BF L d 15 b_KReader_normalise 6 1 112 [] [some (.inr 16), some (.inl a1), none, some (.inl s4.1), some (.inl s4.2), none] σ5 (qi Q) := fun e19 => by
          have h := ipos e19 h
          obtain ⟨p16, h⟩ := h
          refine k_iinc (lv' := [some (.inr 16), some (.inl a1), none, some (.inl (s4.1 + (-1))), some (.inl s4.2), none]) d_KReader_normalise_112 cI_m1 rfl rfl p16 rfl ?_
          exact k_sb (sb_s (sb_s (sb_s (sb_s (sb_n (sb_s sb_nil)))))) (hJ9 (s4.1 + (-1)) _ h)
        have hY18 : ¬ (a1 < s4.1 ∧ ((σ5.2 (rfo (Int.toNat (σ5.1 16 2)) 1) (Int.toNat (s4.1 - 1))) = 32)) → OkI BF L d 15 b_KReader_normalise 6 1 115 [] [some (.inr 16), some (.inl a1), none, some (.inl s4.1), some (.inl s4.2), none] σ5 (qi Q) := fun e19 => by
          have h := ineg e19 h
          exact k_sb (sb_s (sb_s (sb_s (sb_s (sb_n (sb_s sb_nil)))))) (hJ9 s4.1 _ h)
        have pa21 := pt20
        refine k_icle d_KReader_normalise_93 rfl (fun c22 => ?_) (fun c22 => ?_)
        · exact hY18 (fun z => c22 z.1)
        · have pa21 := pa21 c22
          obtain ⟨p14, p15⟩ := pa21
          refine k_aload_n d_KReader_normalise_96 rfl ?_
          refine k_getD (x := (σ5.1 16 2)) d_KReader_normalise_97 fl_15_150 ob_16 rfl rfl (dyD_pos y6) ?_
          refine k_getR d_KReader_normalise_100 fl_15_806 (doc_ob (dyD_doc y6)) (dfr_1 (dyD_doc y6)) ?_
          refine k_iload_n d_KReader_normalise_103 rfl ?_
          refine k_iconst d_KReader_normalise_104 cI_1 ?_
          refine k_isub d_KReader_normalise_105 p14 ?_
          refine k_ild (x := (σ5.2 (rfo (Int.toNat (σ5.1 16 2)) 1) (Int.toNat (s4.1 - 1)))) d_KReader_normalise_106 (drI_1 (dyD_doc y6)) p15 rfl ?_
          refine k_bipush d_KReader_normalise_107 cB_32 ?_
          refine k_icne d_KReader_normalise_109 rfl (fun c23 => ?_) (fun c23 => ?_)
          · exact hY18 (fun z => (c23) z.2)
          · exact hX17 (⟨c22, c23⟩)
    · have h := ipos c7 h
      refine k_aload_n d_KReader_normalise_31 rfl ?_
      refine k_getD (x := (σ5.1 16 2)) d_KReader_normalise_32 fl_15_150 ob_16 rfl rfl (dyD_pos y6) ?_
      refine k_getR d_KReader_normalise_35 fl_15_806 (doc_ob (dyD_doc y6)) (dfr_1 (dyD_doc y6)) ?_
      refine k_iload d_KReader_normalise_38 rfl ?_
      obtain ⟨p46, h⟩ := h
      refine k_ild (x := (σ5.2 (rfo (Int.toNat (σ5.1 16 2)) 1) (Int.toNat s4.2))) d_KReader_normalise_40 (drI_1 (dyD_doc y6)) p46 rfl ?_
      refine k_istore (lv' := [some (.inr 16), some (.inl a1), none, some (.inl s4.1), some (.inl s4.2), some (.inl (σ5.2 (rfo (Int.toNat (σ5.1 16 2)) 1) (Int.toNat s4.2)))]) d_KReader_normalise_41 rfl rfl ?_
      refine k_iload d_KReader_normalise_43 rfl ?_
      refine k_bipush d_KReader_normalise_45 cB_32 ?_
      refine k_join (S := Int) (pc' := 85) (st' := fun s26 => []) (lv' := fun s26 => [some (.inr 16), some (.inl a1), none, some (.inl s26), some (.inl s4.2), none]) (fun s26 σ27 h => ?_) (fun J24 hJ25 h => ?_) h
      · obtain ⟨p28, h⟩ := h
        refine k_iinc (lv' := [some (.inr 16), some (.inl a1), none, some (.inl s26), some (.inl (s4.2 + 1)), none]) d_KReader_normalise_85 cI_1 rfl rfl p28 rfl ?_
        refine k_goto d_KReader_normalise_88 rfl ?_
        exact k_sb (sb_s (sb_s (sb_s (sb_s (sb_s (sb_s sb_nil)))))) (hK3 (s26, (s4.2 + 1)) _ h)
      · refine k_join (S := Unit) (pc' := 71) (st' := fun s31 => []) (lv' := fun s31 => [some (.inr 16), some (.inl a1), none, some (.inl s4.1), some (.inl s4.2), some (.inl (σ5.2 (rfo (Int.toNat (σ5.1 16 2)) 1) (Int.toNat s4.2)))]) (fun s31 σ32 h => ?_) (fun J29 hJ30 h => ?_) h
        · refine k_aload_n d_KReader_normalise_71 rfl ?_
          obtain ⟨y33, h⟩ := h
          refine k_getD (x := (σ32.1 16 2)) d_KReader_normalise_72 fl_15_150 ob_16 rfl rfl (dyD_pos y33) ?_
          refine k_getR d_KReader_normalise_75 fl_15_806 (doc_ob (dyD_doc y33)) (dfr_1 (dyD_doc y33)) ?_
          refine k_iload_n d_KReader_normalise_78 rfl ?_
          refine k_iload d_KReader_normalise_79 rfl ?_
          obtain ⟨p35, h⟩ := h
          refine k_ist d_KReader_normalise_81 (drI_1 (dyD_doc y33)) p35 ?_
          obtain ⟨p34, h⟩ := h
          refine k_iinc (lv' := [some (.inr 16), some (.inl a1), none, some (.inl (s4.1 + 1)), some (.inl s4.2), some (.inl (σ5.2 (rfo (Int.toNat (σ5.1 16 2)) 1) (Int.toNat s4.2)))]) d_KReader_normalise_82 cI_1 rfl rfl p34 rfl ?_
          exact k_sb (sb_s (sb_s (sb_s (sb_s (sb_s (sb_n sb_nil)))))) (hJ25 (s4.1 + 1) _ h)
        · refine k_icne d_KReader_normalise_47 rfl (fun c36 => ?_) (fun c36 => ?_)
          · have h := ineg c36 h
            exact k_sb (sb_s (sb_s (sb_s (sb_s (sb_s (sb_s sb_nil)))))) (hJ30 () _ h)
          · have h := ipos c36 h
            refine k_iload_n d_KReader_normalise_50 rfl ?_
            refine k_iload_n d_KReader_normalise_51 rfl ?_
            obtain ⟨pt42, h⟩ := h
            have hX39 : (a1 < s4.1 ∧ (¬ (σ5.2 (rfo (Int.toNat (σ5.1 16 2)) 1) (Int.toNat (s4.1 - 1))) = 32)) → OkI BF L d 15 b_KReader_normalise 6 1 71 [] [some (.inr 16), some (.inl a1), none, some (.inl s4.1), some (.inl s4.2), some (.inl (σ5.2 (rfo (Int.toNat (σ5.1 16 2)) 1) (Int.toNat s4.2)))] σ5 (qi Q) := fun e41 => by
              have h := ipos e41 h
              exact k_sb (sb_s (sb_s (sb_s (sb_s (sb_s (sb_s sb_nil)))))) (hJ30 () _ h)
            have hY40 : ¬ (a1 < s4.1 ∧ (¬ (σ5.2 (rfo (Int.toNat (σ5.1 16 2)) 1) (Int.toNat (s4.1 - 1))) = 32)) → OkI BF L d 15 b_KReader_normalise 6 1 85 [] [some (.inr 16), some (.inl a1), none, some (.inl s4.1), some (.inl s4.2), some (.inl (σ5.2 (rfo (Int.toNat (σ5.1 16 2)) 1) (Int.toNat s4.2)))] σ5 (qi Q) := fun e41 => by
              have h := ineg e41 h
              exact k_sb (sb_s (sb_s (sb_s (sb_s (sb_s (sb_n sb_nil)))))) (hJ25 s4.1 _ h)
            have pa43 := pt42
            refine k_icle d_KReader_normalise_52 rfl (fun c44 => ?_) (fun c44 => ?_)
            · exact hY40 (fun z => c44 z.1)
            · have pa43 := pa43 c44
              obtain ⟨p37, p38⟩ := pa43
              refine k_aload_n d_KReader_normalise_55 rfl ?_
              refine k_getD (x := (σ5.1 16 2)) d_KReader_normalise_56 fl_15_150 ob_16 rfl rfl (dyD_pos y6) ?_
              refine k_getR d_KReader_normalise_59 fl_15_806 (doc_ob (dyD_doc y6)) (dfr_1 (dyD_doc y6)) ?_
              refine k_iload_n d_KReader_normalise_62 rfl ?_
              refine k_iconst d_KReader_normalise_63 cI_1 ?_
              refine k_isub d_KReader_normalise_64 p37 ?_
              refine k_ild (x := (σ5.2 (rfo (Int.toNat (σ5.1 16 2)) 1) (Int.toNat (s4.1 - 1)))) d_KReader_normalise_65 (drI_1 (dyD_doc y6)) p38 rfl ?_
              refine k_bipush d_KReader_normalise_66 cB_32 ?_
              refine k_iceq d_KReader_normalise_68 rfl (fun c45 => ?_) (fun c45 => ?_)
              · exact hY40 (fun z => (fun z => z c45) z.2)
              · exact hX39 (⟨c44, c45⟩)
  · have h := ipos c1 h
    refine k_aload_n d_KReader_normalise_4 rfl ?_
    obtain ⟨y47, h⟩ := h
    refine k_getD (x := (σ.1 16 2)) d_KReader_normalise_5 fl_15_150 ob_16 rfl rfl (dyD_pos y47) ?_
    refine k_getI (x := (σ.1 (Int.toNat (σ.1 16 2)) 2)) d_KReader_normalise_8 fl_15_489 (doc_ob (dyD_doc y47)) (dfi_2 (dyD_doc y47)) rfl ?_
    refine k_iload_n d_KReader_normalise_11 rfl ?_
    obtain ⟨p48, h⟩ := h
    refine k_isub d_KReader_normalise_12 p48 ?_
    exact k_iret d_KReader_normalise_13 (Or.inl rfl) h
theorem d_KReader_attributeOf_0 : decode b_KReader_attributeOf 0 = .ok (.iconst 0, 1) := by decide +kernel
theorem d_KReader_attributeOf_1 : decode b_KReader_attributeOf 1 = .ok (.istore_n 3, 1) := by decide +kernel
theorem d_KReader_attributeOf_2 : decode b_KReader_attributeOf 2 = .ok (.iload_n 3, 1) := by decide +kernel
theorem d_KReader_attributeOf_3 : decode b_KReader_attributeOf 3 = .ok (.aload_n 0, 1) := by decide +kernel
theorem d_KReader_attributeOf_4 : decode b_KReader_attributeOf 4 = .ok (.getfield 215, 3) := by decide +kernel
theorem d_KReader_attributeOf_7 : decode b_KReader_attributeOf 7 = .ok (.if_icmp .ge 29, 3) := by decide +kernel
theorem d_KReader_attributeOf_10 : decode b_KReader_attributeOf 10 = .ok (.aload_n 0, 1) := by decide +kernel
theorem d_KReader_attributeOf_11 : decode b_KReader_attributeOf 11 = .ok (.getfield 114, 3) := by decide +kernel
theorem d_KReader_attributeOf_14 : decode b_KReader_attributeOf 14 = .ok (.iload_n 3, 1) := by decide +kernel
theorem d_KReader_attributeOf_15 : decode b_KReader_attributeOf 15 = .ok (.iaload, 1) := by decide +kernel
theorem d_KReader_attributeOf_16 : decode b_KReader_attributeOf 16 = .ok (.iload_n 1, 1) := by decide +kernel
theorem d_KReader_attributeOf_17 : decode b_KReader_attributeOf 17 = .ok (.if_icmp .ne 13, 3) := by decide +kernel
theorem d_KReader_attributeOf_20 : decode b_KReader_attributeOf 20 = .ok (.aload_n 0, 1) := by decide +kernel
theorem d_KReader_attributeOf_21 : decode b_KReader_attributeOf 21 = .ok (.getfield 117, 3) := by decide +kernel
theorem d_KReader_attributeOf_24 : decode b_KReader_attributeOf 24 = .ok (.iload_n 3, 1) := by decide +kernel
theorem d_KReader_attributeOf_25 : decode b_KReader_attributeOf 25 = .ok (.iaload, 1) := by decide +kernel
theorem d_KReader_attributeOf_26 : decode b_KReader_attributeOf 26 = .ok (.iload_n 2, 1) := by decide +kernel
theorem d_KReader_attributeOf_27 : decode b_KReader_attributeOf 27 = .ok (.if_icmp .eq 9, 3) := by decide +kernel
theorem d_KReader_attributeOf_30 : decode b_KReader_attributeOf 30 = .ok (.iinc 3 1, 3) := by decide +kernel
theorem d_KReader_attributeOf_33 : decode b_KReader_attributeOf 33 = .ok (.goto (-31), 3) := by decide +kernel
theorem d_KReader_attributeOf_36 : decode b_KReader_attributeOf 36 = .ok (.iload_n 3, 1) := by decide +kernel
theorem d_KReader_attributeOf_37 : decode b_KReader_attributeOf 37 = .ok (.aload_n 0, 1) := by decide +kernel
theorem d_KReader_attributeOf_38 : decode b_KReader_attributeOf 38 = .ok (.getfield 215, 3) := by decide +kernel
theorem d_KReader_attributeOf_41 : decode b_KReader_attributeOf 41 = .ok (.if_icmp .ge 7, 3) := by decide +kernel
theorem d_KReader_attributeOf_44 : decode b_KReader_attributeOf 44 = .ok (.iload_n 3, 1) := by decide +kernel
theorem d_KReader_attributeOf_45 : decode b_KReader_attributeOf 45 = .ok (.goto 4, 3) := by decide +kernel
theorem d_KReader_attributeOf_48 : decode b_KReader_attributeOf 48 = .ok (.iconst (-1), 1) := by decide +kernel
theorem d_KReader_attributeOf_49 : decode b_KReader_attributeOf 49 = .ok (.ireturn, 1) := by decide +kernel
/-- KReader_attributeOf -/
def w_KReader_attributeOf (L : Nat → Nat) (a1 : Int) (a2 : Int) (Q : Int → IS → Prop) (σ : IS) : Prop := WL (fun (K1 : Int → IS → Prop) (s3 : Int) (σ4 : IS) => WJ (fun (s7 : Unit) (σ8 : IS) => Q (if s3 < (σ8.1 16 56) then s3 else ((-1) : Int)) σ8) (fun J5 => if s3 < (σ4.1 16 56) then inL L 199 s3 ∧ (((σ4.2 199 (Int.toNat s3)) = a1 → inL L 200 s3)) ∧ if ¬ (σ4.2 199 (Int.toNat s3)) = a1 ∨ (¬ (σ4.2 200 (Int.toNat s3)) = a2) then inR (s3 + 1) ∧ K1 (s3 + 1) σ4 else J5 () σ4 else J5 () σ4)) 0 σ
set_option maxHeartbeats 4000000 in
set_option maxRecDepth 20000 in
theorem s_KReader_attributeOf {L : Nat → Nat} (hL : ∀ r, L r < 2147483648) {d : Nat} (hd : 0 ≤ d) {a1 : Int} {a2 : Int} {Q : Int → IS → Prop} {σ : IS}  (h : w_KReader_attributeOf L a1 a2 Q σ) : OkI BF L d 15 b_KReader_attributeOf 4 1 0 [] [some (.inr 16), some (.inl a1), some (.inl a2)] σ (qi Q) := by
  unfold w_KReader_attributeOf at h
  refine k_sb (lv' := [some (.inr 16), some (.inl a1), some (.inl a2), none]) (sb_s (sb_s (sb_s (sb_e sb_nil)))) ?_
  refine k_iconst d_KReader_attributeOf_0 cI_0 ?_
  refine k_istore_n (lv' := [some (.inr 16), some (.inl a1), some (.inl a2), some (.inl 0)]) d_KReader_attributeOf_1 rfl rfl ?_
  refine k_sb (lv' := [some (.inr 16), some (.inl a1), some (.inl a2), some (.inl 0)]) (sb_s (sb_s (sb_s (sb_s sb_nil)))) ?_
  refine k_loop (S := Int) (st := fun _ => []) (lv := fun s3 => [some (.inr 16), some (.inl a1), some (.inl a2), some (.inl s3)]) (fun K1 hK2 s3 σ4 h => ?_) 0 _ h
  refine k_iload_n d_KReader_attributeOf_2 rfl ?_
  refine k_aload_n d_KReader_attributeOf_3 rfl ?_
  refine k_getI (x := (σ4.1 16 56)) d_KReader_attributeOf_4 fl_15_215 ob_16 rfl rfl ?_
  refine k_join (S := Unit) (pc' := 36) (st' := fun s7 => []) (lv' := fun s7 => [some (.inr 16), none, none, some (.inl s3)]) (fun s7 σ8 h => ?_) (fun J5 hJ6 h => ?_) h
  · refine k_iload_n d_KReader_attributeOf_36 rfl ?_
    refine k_aload_n d_KReader_attributeOf_37 rfl ?_
    refine k_getI (x := (σ8.1 16 56)) d_KReader_attributeOf_38 fl_15_215 ob_16 rfl rfl ?_
    have hV9 : OkI BF L d 15 b_KReader_attributeOf 4 1 49 [.inl (if s3 < (σ8.1 16 56) then s3 else ((-1) : Int))] [some (.inr 16), none, none, some (.inl s3)] σ8 (qi Q) := by
      exact k_iret d_KReader_attributeOf_49 (Or.inl rfl) h
    refine k_icge d_KReader_attributeOf_41 rfl (fun c10 => ?_) (fun c10 => ?_)
    · have hV12 := k_eqI (if_neg c10) hV9
      refine k_iconst d_KReader_attributeOf_48 cI_m1 ?_
      exact hV12
    · have hV11 := k_eqI (if_pos c10) hV9
      refine k_iload_n d_KReader_attributeOf_44 rfl ?_
      refine k_goto d_KReader_attributeOf_45 rfl ?_
      exact hV11
  · refine k_icge d_KReader_attributeOf_7 rfl (fun c13 => ?_) (fun c13 => ?_)
    · have h := ineg c13 h
      exact k_sb (sb_s (sb_n (sb_n (sb_s sb_nil)))) (hJ6 () _ h)
    · have h := ipos c13 h
      refine k_aload_n d_KReader_attributeOf_10 rfl ?_
      refine k_getR d_KReader_attributeOf_11 fl_15_114 ob_16 rfl ?_
      refine k_iload_n d_KReader_attributeOf_14 rfl ?_
      obtain ⟨p23, h⟩ := h
      refine k_ild (x := (σ4.2 199 (Int.toNat s3))) d_KReader_attributeOf_15 rI_199 p23 rfl ?_
      refine k_iload_n d_KReader_attributeOf_16 rfl ?_
      obtain ⟨pt19, h⟩ := h
      have hX16 : (¬ (σ4.2 199 (Int.toNat s3)) = a1 ∨ (¬ (σ4.2 200 (Int.toNat s3)) = a2)) → OkI BF L d 15 b_KReader_attributeOf 4 1 30 [] [some (.inr 16), some (.inl a1), some (.inl a2), some (.inl s3)] σ4 (qi Q) := fun e18 => by
        have h := ipos e18 h
        obtain ⟨p15, h⟩ := h
        refine k_iinc (lv' := [some (.inr 16), some (.inl a1), some (.inl a2), some (.inl (s3 + 1))]) d_KReader_attributeOf_30 cI_1 rfl rfl p15 rfl ?_
        refine k_goto d_KReader_attributeOf_33 rfl ?_
        exact k_sb (sb_s (sb_s (sb_s (sb_s sb_nil)))) (hK2 (s3 + 1) _ h)
      have hY17 : ¬ (¬ (σ4.2 199 (Int.toNat s3)) = a1 ∨ (¬ (σ4.2 200 (Int.toNat s3)) = a2)) → OkI BF L d 15 b_KReader_attributeOf 4 1 36 [] [some (.inr 16), some (.inl a1), some (.inl a2), some (.inl s3)] σ4 (qi Q) := fun e18 => by
        have h := ineg e18 h
        exact k_sb (sb_s (sb_n (sb_n (sb_s sb_nil)))) (hJ6 () _ h)
      have pa20 := pt19
      refine k_icne d_KReader_attributeOf_17 rfl (fun c21 => ?_) (fun c21 => ?_)
      · exact hX16 (Or.inl c21)
      · have pa20 := pa20 c21
        have p14 := pa20
        refine k_aload_n d_KReader_attributeOf_20 rfl ?_
        refine k_getR d_KReader_attributeOf_21 fl_15_117 ob_16 rfl ?_
        refine k_iload_n d_KReader_attributeOf_24 rfl ?_
        refine k_ild (x := (σ4.2 200 (Int.toNat s3))) d_KReader_attributeOf_25 rI_200 p14 rfl ?_
        refine k_iload_n d_KReader_attributeOf_26 rfl ?_
        refine k_iceq d_KReader_attributeOf_27 rfl (fun c22 => ?_) (fun c22 => ?_)
        · exact hY17 (fun z => z.elim (fun y => y c21) (fun z => z c22))
        · exact hX16 (Or.inr (c22))
theorem d_KReader_hasType_0 : decode b_KReader_hasType 0 = .ok (.iconst 0, 1) := by decide +kernel
theorem d_KReader_hasType_1 : decode b_KReader_hasType 1 = .ok (.istore 4, 2) := by decide +kernel
theorem d_KReader_hasType_3 : decode b_KReader_hasType 3 = .ok (.iconst 0, 1) := by decide +kernel
theorem d_KReader_hasType_4 : decode b_KReader_hasType 4 = .ok (.istore 5, 2) := by decide +kernel
theorem d_KReader_hasType_6 : decode b_KReader_hasType 6 = .ok (.iload 5, 2) := by decide +kernel
theorem d_KReader_hasType_8 : decode b_KReader_hasType 8 = .ok (.iload_n 2, 1) := by decide +kernel
theorem d_KReader_hasType_9 : decode b_KReader_hasType 9 = .ok (.if_icmp .ge 43, 3) := by decide +kernel
theorem d_KReader_hasType_12 : decode b_KReader_hasType 12 = .ok (.iload 4, 2) := by decide +kernel
theorem d_KReader_hasType_14 : decode b_KReader_hasType 14 = .ok (.ifCond .ne 25, 3) := by decide +kernel
theorem d_KReader_hasType_17 : decode b_KReader_hasType 17 = .ok (.aload_n 0, 1) := by decide +kernel
theorem d_KReader_hasType_18 : decode b_KReader_hasType 18 = .ok (.getfield 114, 3) := by decide +kernel
theorem d_KReader_hasType_21 : decode b_KReader_hasType 21 = .ok (.iload 5, 2) := by decide +kernel
theorem d_KReader_hasType_23 : decode b_KReader_hasType 23 = .ok (.iaload, 1) := by decide +kernel
theorem d_KReader_hasType_24 : decode b_KReader_hasType 24 = .ok (.iload_n 1, 1) := by decide +kernel
theorem d_KReader_hasType_25 : decode b_KReader_hasType 25 = .ok (.if_icmp .ne 18, 3) := by decide +kernel
theorem d_KReader_hasType_28 : decode b_KReader_hasType 28 = .ok (.aload_n 0, 1) := by decide +kernel
theorem d_KReader_hasType_29 : decode b_KReader_hasType 29 = .ok (.getfield 120, 3) := by decide +kernel
theorem d_KReader_hasType_32 : decode b_KReader_hasType 32 = .ok (.iload 5, 2) := by decide +kernel
theorem d_KReader_hasType_34 : decode b_KReader_hasType 34 = .ok (.baload, 1) := by decide +kernel
theorem d_KReader_hasType_35 : decode b_KReader_hasType 35 = .ok (.iload_n 3, 1) := by decide +kernel
theorem d_KReader_hasType_36 : decode b_KReader_hasType 36 = .ok (.if_icmp .ne 7, 3) := by decide +kernel
theorem d_KReader_hasType_39 : decode b_KReader_hasType 39 = .ok (.iconst 1, 1) := by decide +kernel
theorem d_KReader_hasType_40 : decode b_KReader_hasType 40 = .ok (.goto 4, 3) := by decide +kernel
theorem d_KReader_hasType_43 : decode b_KReader_hasType 43 = .ok (.iconst 0, 1) := by decide +kernel
theorem d_KReader_hasType_44 : decode b_KReader_hasType 44 = .ok (.istore 4, 2) := by decide +kernel
theorem d_KReader_hasType_46 : decode b_KReader_hasType 46 = .ok (.iinc 5 1, 3) := by decide +kernel
theorem d_KReader_hasType_49 : decode b_KReader_hasType 49 = .ok (.goto (-43), 3) := by decide +kernel
theorem d_KReader_hasType_52 : decode b_KReader_hasType 52 = .ok (.iload 4, 2) := by decide +kernel
theorem d_KReader_hasType_54 : decode b_KReader_hasType 54 = .ok (.ireturn, 1) := by decide +kernel
/-- KReader_hasType -/
def w_KReader_hasType (L : Nat → Nat) (a1 : Int) (a2 : Int) (a3 : Int) (Q : Int → IS → Prop) (σ : IS) : Prop := WL (fun (K1 : Int × Int → IS → Prop) (s3 : Int × Int) (σ4 : IS) => if s3.2 < a2 then ((s3.1 = 0 → (inL L 199 s3.2 ∧ ((σ4.2 199 (Int.toNat s3.2)) = a1 → inL L 201 s3.2)))) ∧ LETI (if s3.1 = 0 then (if (σ4.2 199 (Int.toNat s3.2)) = a1 then (if (σ4.2 201 (Int.toNat s3.2)) = a3 then (1 : Int) else (0 : Int)) else (0 : Int)) else (1 : Int)) (fun t9 => inR (s3.2 + 1) ∧ K1 (t9, (s3.2 + 1)) σ4) else is01 s3.1 ∧ Q s3.1 σ4) (0, 0) σ
set_option maxHeartbeats 4000000 in
set_option maxRecDepth 20000 in
theorem s_KReader_hasType {L : Nat → Nat} (hL : ∀ r, L r < 2147483648) {d : Nat} (hd : 0 ≤ d) {a1 : Int} {a2 : Int} {a3 : Int} {Q : Int → IS → Prop} {σ : IS}  (h : w_KReader_hasType L a1 a2 a3 Q σ) : OkI BF L d 15 b_KReader_hasType 6 2 0 [] [some (.inr 16), some (.inl a1), some (.inl a2), some (.inl a3)] σ (qi Q) := by
  unfold w_KReader_hasType at h
  refine k_sb (lv' := [some (.inr 16), some (.inl a1), some (.inl a2), some (.inl a3), none, none]) (sb_s (sb_s (sb_s (sb_s (sb_e (sb_e sb_nil)))))) ?_
  refine k_iconst d_KReader_hasType_0 cI_0 ?_
  refine k_istore (lv' := [some (.inr 16), some (.inl a1), some (.inl a2), some (.inl a3), some (.inl 0), none]) d_KReader_hasType_1 rfl rfl ?_
  refine k_iconst d_KReader_hasType_3 cI_0 ?_
  refine k_istore (lv' := [some (.inr 16), some (.inl a1), some (.inl a2), some (.inl a3), some (.inl 0), some (.inl 0)]) d_KReader_hasType_4 rfl rfl ?_
  refine k_sb (lv' := [some (.inr 16), some (.inl a1), some (.inl a2), some (.inl a3), some (.inl 0), some (.inl 0)]) (sb_s (sb_s (sb_s (sb_s (sb_s (sb_s sb_nil)))))) ?_
  refine k_loop (S := Int × Int) (st := fun _ => []) (lv := fun s3 => [some (.inr 16), some (.inl a1), some (.inl a2), some (.inl a3), some (.inl s3.1), some (.inl s3.2)]) (fun K1 hK2 s3 σ4 h => ?_) (0, 0) _ h
  refine k_iload d_KReader_hasType_6 rfl ?_
  refine k_iload_n d_KReader_hasType_8 rfl ?_
  refine k_icge d_KReader_hasType_9 rfl (fun c5 => ?_) (fun c5 => ?_)
  · have h := ineg c5 h
    refine k_iload d_KReader_hasType_52 rfl ?_
    obtain ⟨p6, h⟩ := h
    exact k_iret d_KReader_hasType_54 (Or.inr ⟨rfl, p6⟩) h
  · have h := ipos c5 h
    refine k_iload d_KReader_hasType_12 rfl ?_
    obtain ⟨pt13, h⟩ := h
    have hV12 : OkI BF L d 15 b_KReader_hasType 6 2 44 [.inl (if s3.1 = 0 then (if (σ4.2 199 (Int.toNat s3.2)) = a1 then (if (σ4.2 201 (Int.toNat s3.2)) = a3 then (1 : Int) else (0 : Int)) else (0 : Int)) else (1 : Int))] [some (.inr 16), some (.inl a1), some (.inl a2), some (.inl a3), some (.inl s3.1), some (.inl s3.2)] σ4 (qi Q) := by
      refine k_letI (fun t9 ht10 h => ?_) h
      refine k_istore (lv' := [some (.inr 16), some (.inl a1), some (.inl a2), some (.inl a3), some (.inl t9), some (.inl s3.2)]) d_KReader_hasType_44 rfl rfl ?_
      obtain ⟨p11, h⟩ := h
      refine k_iinc (lv' := [some (.inr 16), some (.inl a1), some (.inl a2), some (.inl a3), some (.inl t9), some (.inl (s3.2 + 1))]) d_KReader_hasType_46 cI_1 rfl rfl p11 rfl ?_
      refine k_goto d_KReader_hasType_49 rfl ?_
      exact k_sb (sb_s (sb_s (sb_s (sb_s (sb_s (sb_s sb_nil)))))) (hK2 (t9, (s3.2 + 1)) _ h)
    have pa14 := pt13
    refine k_ifne d_KReader_hasType_14 rfl (fun c15 => ?_) (fun c15 => ?_)
    · have hV24 := k_eqI (if_neg c15) hV12
      refine k_iconst d_KReader_hasType_39 cI_1 ?_
      refine k_goto d_KReader_hasType_40 rfl ?_
      exact hV24
    · have pa14 := pa14 c15
      have hV16 := k_eqI (if_pos c15) hV12
      obtain ⟨p7, pa17⟩ := pa14
      refine k_aload_n d_KReader_hasType_17 rfl ?_
      refine k_getR d_KReader_hasType_18 fl_15_114 ob_16 rfl ?_
      refine k_iload d_KReader_hasType_21 rfl ?_
      refine k_ild (x := (σ4.2 199 (Int.toNat s3.2))) d_KReader_hasType_23 rI_199 p7 rfl ?_
      refine k_iload_n d_KReader_hasType_24 rfl ?_
      refine k_icne d_KReader_hasType_25 rfl (fun c18 => ?_) (fun c18 => ?_)
      · have hV23 := k_eqI (if_neg c18) hV16
        refine k_iconst d_KReader_hasType_43 cI_0 ?_
        exact hV23
      · have pa17 := pa17 c18
        have hV19 := k_eqI (if_pos c18) hV16
        have p8 := pa17
        refine k_aload_n d_KReader_hasType_28 rfl ?_
        refine k_getR d_KReader_hasType_29 fl_15_120 ob_16 rfl ?_
        refine k_iload d_KReader_hasType_32 rfl ?_
        refine k_bld (x := (σ4.2 201 (Int.toNat s3.2))) d_KReader_hasType_34 rB_201 p8 rfl ?_
        refine k_iload_n d_KReader_hasType_35 rfl ?_
        refine k_icne d_KReader_hasType_36 rfl (fun c20 => ?_) (fun c20 => ?_)
        · have hV22 := k_eqI (if_neg c20) hV19
          refine k_iconst d_KReader_hasType_43 cI_0 ?_
          exact hV22
        · have hV21 := k_eqI (if_pos c20) hV19
          refine k_iconst d_KReader_hasType_39 cI_1 ?_
          refine k_goto d_KReader_hasType_40 rfl ?_
          exact hV21
theorem d_KReader_isWord_0 : decode b_KReader_isWord 0 = .ok (.iload_n 2, 1) := by decide +kernel
theorem d_KReader_isWord_1 : decode b_KReader_isWord 1 = .ok (.ifCond .le 26, 3) := by decide +kernel
theorem d_KReader_isWord_4 : decode b_KReader_isWord 4 = .ok (.iload_n 3, 1) := by decide +kernel
theorem d_KReader_isWord_5 : decode b_KReader_isWord 5 = .ok (.ifCond .eq 18, 3) := by decide +kernel
theorem d_KReader_isWord_8 : decode b_KReader_isWord 8 = .ok (.aload_n 0, 1) := by decide +kernel
theorem d_KReader_isWord_9 : decode b_KReader_isWord 9 = .ok (.getfield 150, 3) := by decide +kernel
theorem d_KReader_isWord_12 : decode b_KReader_isWord 12 = .ok (.getfield 806, 3) := by decide +kernel
theorem d_KReader_isWord_15 : decode b_KReader_isWord 15 = .ok (.iload_n 1, 1) := by decide +kernel
theorem d_KReader_isWord_16 : decode b_KReader_isWord 16 = .ok (.iaload, 1) := by decide +kernel
theorem d_KReader_isWord_17 : decode b_KReader_isWord 17 = .ok (.invokestatic 300, 3) := by decide +kernel
theorem d_KReader_isWord_20 : decode b_KReader_isWord 20 = .ok (.ifCond .eq 7, 3) := by decide +kernel
theorem d_KReader_isWord_23 : decode b_KReader_isWord 23 = .ok (.iconst 1, 1) := by decide +kernel
theorem d_KReader_isWord_24 : decode b_KReader_isWord 24 = .ok (.goto 4, 3) := by decide +kernel
theorem d_KReader_isWord_27 : decode b_KReader_isWord 27 = .ok (.iconst 0, 1) := by decide +kernel
theorem d_KReader_isWord_28 : decode b_KReader_isWord 28 = .ok (.istore 4, 2) := by decide +kernel
theorem d_KReader_isWord_30 : decode b_KReader_isWord 30 = .ok (.iconst 0, 1) := by decide +kernel
theorem d_KReader_isWord_31 : decode b_KReader_isWord 31 = .ok (.istore 5, 2) := by decide +kernel
theorem d_KReader_isWord_33 : decode b_KReader_isWord 33 = .ok (.iload 5, 2) := by decide +kernel
theorem d_KReader_isWord_35 : decode b_KReader_isWord 35 = .ok (.iload_n 2, 1) := by decide +kernel
theorem d_KReader_isWord_36 : decode b_KReader_isWord 36 = .ok (.if_icmp .ge 39, 3) := by decide +kernel
theorem d_KReader_isWord_39 : decode b_KReader_isWord 39 = .ok (.iload 4, 2) := by decide +kernel
theorem d_KReader_isWord_41 : decode b_KReader_isWord 41 = .ok (.ifCond .eq 25, 3) := by decide +kernel
theorem d_KReader_isWord_44 : decode b_KReader_isWord 44 = .ok (.aload_n 0, 1) := by decide +kernel
theorem d_KReader_isWord_45 : decode b_KReader_isWord 45 = .ok (.getfield 150, 3) := by decide +kernel
theorem d_KReader_isWord_48 : decode b_KReader_isWord 48 = .ok (.getfield 806, 3) := by decide +kernel
theorem d_KReader_isWord_51 : decode b_KReader_isWord 51 = .ok (.iload_n 1, 1) := by decide +kernel
theorem d_KReader_isWord_52 : decode b_KReader_isWord 52 = .ok (.iload 5, 2) := by decide +kernel
theorem d_KReader_isWord_54 : decode b_KReader_isWord 54 = .ok (.iadd, 1) := by decide +kernel
theorem d_KReader_isWord_55 : decode b_KReader_isWord 55 = .ok (.iaload, 1) := by decide +kernel
theorem d_KReader_isWord_56 : decode b_KReader_isWord 56 = .ok (.invokestatic 303, 3) := by decide +kernel
theorem d_KReader_isWord_59 : decode b_KReader_isWord 59 = .ok (.ifCond .eq 7, 3) := by decide +kernel
theorem d_KReader_isWord_62 : decode b_KReader_isWord 62 = .ok (.iconst 1, 1) := by decide +kernel
theorem d_KReader_isWord_63 : decode b_KReader_isWord 63 = .ok (.goto 4, 3) := by decide +kernel
theorem d_KReader_isWord_66 : decode b_KReader_isWord 66 = .ok (.iconst 0, 1) := by decide +kernel
theorem d_KReader_isWord_67 : decode b_KReader_isWord 67 = .ok (.istore 4, 2) := by decide +kernel
theorem d_KReader_isWord_69 : decode b_KReader_isWord 69 = .ok (.iinc 5 1, 3) := by decide +kernel
theorem d_KReader_isWord_72 : decode b_KReader_isWord 72 = .ok (.goto (-39), 3) := by decide +kernel
theorem d_KReader_isWord_75 : decode b_KReader_isWord 75 = .ok (.iload 4, 2) := by decide +kernel
theorem d_KReader_isWord_77 : decode b_KReader_isWord 77 = .ok (.ireturn, 1) := by decide +kernel
/-- KReader_isWord -/
def w_KReader_isWord (L : Nat → Nat) (a1 : Int) (a2 : Int) (a3 : Int) (Q : Int → IS → Prop) (σ : IS) : Prop := WJ (fun (s3 : Int) (σ4 : IS) => WL (fun (K5 : Int × Int → IS → Prop) (s7 : Int × Int) (σ8 : IS) => if s7.2 < a2 then WJ (fun (s13 : Int) (σ14 : IS) => inR (s7.2 + 1) ∧ K5 (s13, (s7.2 + 1)) σ14) (fun J11 => WJ (fun (s18 : Unit) (σ19 : IS) => J11 0 σ19) (fun J16 => if s7.1 = 0 then J16 () σ8 else dyD (σ8.1 16 2) ∧ inR (a1 + s7.2) ∧ inL L (rfo (Int.toNat (σ8.1 16 2)) 1) (a1 + s7.2) ∧ w_K_isNaming L (σ8.2 (rfo (Int.toNat (σ8.1 16 2)) 1) (Int.toNat (a1 + s7.2))) (fun v23 σ22 => if v23 = 0 then J16 () σ22 else J11 1 σ22) σ8)) else is01 s7.1 ∧ Q s7.1 σ8) (s3, 0) σ4) (fun J1 => WJ (fun (s29 : Unit) (σ30 : IS) => J1 0 σ30) (fun J27 => if 0 < a2 then WJ (fun (s34 : Unit) (σ35 : IS) => J1 1 σ35) (fun J32 => if a3 = 0 then J32 () σ else dyD (σ.1 16 2) ∧ inL L (rfo (Int.toNat (σ.1 16 2)) 1) a1 ∧ w_K_isStart L (σ.2 (rfo (Int.toNat (σ.1 16 2)) 1) (Int.toNat a1)) (fun v39 σ38 => if v39 = 0 then J27 () σ38 else J32 () σ38) σ) else J27 () σ))
set_option maxHeartbeats 4000000 in
set_option maxRecDepth 20000 in
theorem s_KReader_isWord {L : Nat → Nat} (hL : ∀ r, L r < 2147483648) {d : Nat} (hd : 3 ≤ d) {a1 : Int} {a2 : Int} {a3 : Int} {Q : Int → IS → Prop} {σ : IS}  (h : w_KReader_isWord L a1 a2 a3 Q σ) : OkI BF L d 15 b_KReader_isWord 6 2 0 [] [some (.inr 16), some (.inl a1), some (.inl a2), some (.inl a3)] σ (qi Q) := by
  unfold w_KReader_isWord at h
  obtain ⟨d, rfl⟩ : ∃ e, d = e + 1 := ⟨d - 1, by omega⟩
  refine k_sb (lv' := [some (.inr 16), some (.inl a1), some (.inl a2), some (.inl a3), none, none]) (sb_s (sb_s (sb_s (sb_s (sb_e (sb_e sb_nil)))))) ?_
  refine k_iload_n d_KReader_isWord_0 rfl ?_
  refine k_join (S := Int) (pc' := 28) (st' := fun s3 => [.inl s3]) (lv' := fun s3 => [some (.inr 16), some (.inl a1), some (.inl a2), none, none, none]) (fun s3 σ4 h => ?_) (fun J1 hJ2 h => ?_) h
  · refine k_istore (lv' := [some (.inr 16), some (.inl a1), some (.inl a2), none, some (.inl s3), none]) d_KReader_isWord_28 rfl rfl ?_
    refine k_iconst d_KReader_isWord_30 cI_0 ?_
    refine k_istore (lv' := [some (.inr 16), some (.inl a1), some (.inl a2), none, some (.inl s3), some (.inl 0)]) d_KReader_isWord_31 rfl rfl ?_
    refine k_sb (lv' := [some (.inr 16), some (.inl a1), some (.inl a2), none, some (.inl s3), some (.inl 0)]) (sb_s (sb_s (sb_s (sb_s (sb_s (sb_s sb_nil)))))) ?_
    refine k_loop (S := Int × Int) (st := fun _ => []) (lv := fun s7 => [some (.inr 16), some (.inl a1), some (.inl a2), none, some (.inl s7.1), some (.inl s7.2)]) (fun K5 hK6 s7 σ8 h => ?_) (s3, 0) _ h
    refine k_iload d_KReader_isWord_33 rfl ?_
    refine k_iload_n d_KReader_isWord_35 rfl ?_
    refine k_icge d_KReader_isWord_36 rfl (fun c9 => ?_) (fun c9 => ?_)
    · have h := ineg c9 h
      refine k_iload d_KReader_isWord_75 rfl ?_
      obtain ⟨p10, h⟩ := h
      exact k_iret d_KReader_isWord_77 (Or.inr ⟨rfl, p10⟩) h
    · have h := ipos c9 h
      refine k_iload d_KReader_isWord_39 rfl ?_
      refine k_join (S := Int) (pc' := 67) (st' := fun s13 => [.inl s13]) (lv' := fun s13 => [some (.inr 16), some (.inl a1), some (.inl a2), none, none, some (.inl s7.2)]) (fun s13 σ14 h => ?_) (fun J11 hJ12 h => ?_) h
      · refine k_istore (lv' := [some (.inr 16), some (.inl a1), some (.inl a2), none, some (.inl s13), some (.inl s7.2)]) d_KReader_isWord_67 rfl rfl ?_
        obtain ⟨p15, h⟩ := h
        refine k_iinc (lv' := [some (.inr 16), some (.inl a1), some (.inl a2), none, some (.inl s13), some (.inl (s7.2 + 1))]) d_KReader_isWord_69 cI_1 rfl rfl p15 rfl ?_
        refine k_goto d_KReader_isWord_72 rfl ?_
        exact k_sb (sb_s (sb_s (sb_s (sb_s (sb_s (sb_s sb_nil)))))) (hK6 (s13, (s7.2 + 1)) _ h)
      · refine k_join (S := Unit) (pc' := 66) (st' := fun s18 => []) (lv' := fun s18 => [some (.inr 16), some (.inl a1), some (.inl a2), none, none, some (.inl s7.2)]) (fun s18 σ19 h => ?_) (fun J16 hJ17 h => ?_) h
        · refine k_iconst d_KReader_isWord_66 cI_0 ?_
          exact k_sb (sb_s (sb_s (sb_s (sb_s (sb_s (sb_s sb_nil)))))) (hJ12 0 _ h)
        · refine k_ifeq d_KReader_isWord_41 rfl (fun c20 => ?_) (fun c20 => ?_)
          · have h := ipos c20 h
            exact k_sb (sb_s (sb_s (sb_s (sb_s (sb_n (sb_s sb_nil)))))) (hJ17 () _ h)
          · have h := ineg c20 h
            refine k_aload_n d_KReader_isWord_44 rfl ?_
            obtain ⟨y21, h⟩ := h
            refine k_getD (x := (σ8.1 16 2)) d_KReader_isWord_45 fl_15_150 ob_16 rfl rfl (dyD_pos y21) ?_
            refine k_getR d_KReader_isWord_48 fl_15_806 (doc_ob (dyD_doc y21)) (dfr_1 (dyD_doc y21)) ?_
            refine k_iload_n d_KReader_isWord_51 rfl ?_
            refine k_iload d_KReader_isWord_52 rfl ?_
            obtain ⟨p26, h⟩ := h
            refine k_iadd d_KReader_isWord_54 p26 ?_
            obtain ⟨p25, h⟩ := h
            refine k_ild (x := (σ8.2 (rfo (Int.toNat (σ8.1 16 2)) 1) (Int.toNat (a1 + s7.2)))) d_KReader_isWord_55 (drI_1 (dyD_doc y21)) p25 rfl ?_
            refine k_csi [.inl (σ8.2 (rfo (Int.toNat (σ8.1 16 2)) 1) (Int.toNat (a1 + s7.2)))] d_KReader_isWord_56 ml_15_303 (Or.inr rfl) rfl rfl rfl (s_K_isNaming hL (by omega)  h) (fun v23 σ22 h => ?_)
            refine k_ifeq d_KReader_isWord_59 rfl (fun c24 => ?_) (fun c24 => ?_)
            · have h := ipos c24 h
              exact k_sb (sb_s (sb_s (sb_s (sb_s (sb_n (sb_s sb_nil)))))) (hJ17 () _ h)
            · have h := ineg c24 h
              refine k_iconst d_KReader_isWord_62 cI_1 ?_
              refine k_goto d_KReader_isWord_63 rfl ?_
              exact k_sb (sb_s (sb_s (sb_s (sb_s (sb_n (sb_s sb_nil)))))) (hJ12 1 _ h)
  · refine k_join (S := Unit) (pc' := 27) (st' := fun s29 => []) (lv' := fun s29 => [some (.inr 16), some (.inl a1), some (.inl a2), none, none, none]) (fun s29 σ30 h => ?_) (fun J27 hJ28 h => ?_) h
    · refine k_iconst d_KReader_isWord_27 cI_0 ?_
      exact k_sb (sb_s (sb_s (sb_s (sb_s (sb_s (sb_s sb_nil)))))) (hJ2 0 _ h)
    · refine k_ifle d_KReader_isWord_1 rfl (fun c31 => ?_) (fun c31 => ?_)
      · have h := ineg c31 h
        exact k_sb (sb_s (sb_s (sb_s (sb_n (sb_s (sb_s sb_nil)))))) (hJ28 () _ h)
      · have h := ipos c31 h
        refine k_iload_n d_KReader_isWord_4 rfl ?_
        refine k_join (S := Unit) (pc' := 23) (st' := fun s34 => []) (lv' := fun s34 => [some (.inr 16), some (.inl a1), some (.inl a2), none, none, none]) (fun s34 σ35 h => ?_) (fun J32 hJ33 h => ?_) h
        · refine k_iconst d_KReader_isWord_23 cI_1 ?_
          refine k_goto d_KReader_isWord_24 rfl ?_
          exact k_sb (sb_s (sb_s (sb_s (sb_s (sb_s (sb_s sb_nil)))))) (hJ2 1 _ h)
        · refine k_ifeq d_KReader_isWord_5 rfl (fun c36 => ?_) (fun c36 => ?_)
          · have h := ipos c36 h
            exact k_sb (sb_s (sb_s (sb_s (sb_n (sb_s (sb_s sb_nil)))))) (hJ33 () _ h)
          · have h := ineg c36 h
            refine k_aload_n d_KReader_isWord_8 rfl ?_
            obtain ⟨y37, h⟩ := h
            refine k_getD (x := (σ.1 16 2)) d_KReader_isWord_9 fl_15_150 ob_16 rfl rfl (dyD_pos y37) ?_
            refine k_getR d_KReader_isWord_12 fl_15_806 (doc_ob (dyD_doc y37)) (dfr_1 (dyD_doc y37)) ?_
            refine k_iload_n d_KReader_isWord_15 rfl ?_
            obtain ⟨p41, h⟩ := h
            refine k_ild (x := (σ.2 (rfo (Int.toNat (σ.1 16 2)) 1) (Int.toNat a1))) d_KReader_isWord_16 (drI_1 (dyD_doc y37)) p41 rfl ?_
            refine k_csi [.inl (σ.2 (rfo (Int.toNat (σ.1 16 2)) 1) (Int.toNat a1))] d_KReader_isWord_17 ml_15_300 (Or.inr rfl) rfl rfl rfl (s_K_isStart hL (by omega)  h) (fun v39 σ38 h => ?_)
            refine k_ifeq d_KReader_isWord_20 rfl (fun c40 => ?_) (fun c40 => ?_)
            · have h := ipos c40 h
              exact k_sb (sb_s (sb_s (sb_s (sb_n (sb_s (sb_s sb_nil)))))) (hJ28 () _ h)
            · have h := ineg c40 h
              exact k_sb (sb_s (sb_s (sb_s (sb_n (sb_s (sb_s sb_nil)))))) (hJ33 () _ h)
theorem d_KReader_isWanted_0 : decode b_KReader_isWanted 0 = .ok (.aload_n 0, 1) := by decide +kernel
theorem d_KReader_isWanted_1 : decode b_KReader_isWanted 1 = .ok (.getfield 120, 3) := by decide +kernel
theorem d_KReader_isWanted_4 : decode b_KReader_isWanted 4 = .ok (.iload_n 1, 1) := by decide +kernel
theorem d_KReader_isWanted_5 : decode b_KReader_isWanted 5 = .ok (.baload, 1) := by decide +kernel
theorem d_KReader_isWanted_6 : decode b_KReader_isWanted 6 = .ok (.istore 4, 2) := by decide +kernel
theorem d_KReader_isWanted_8 : decode b_KReader_isWanted 8 = .ok (.iload 4, 2) := by decide +kernel
theorem d_KReader_isWanted_10 : decode b_KReader_isWanted 10 = .ok (.ifCond .ne 5, 3) := by decide +kernel
theorem d_KReader_isWanted_13 : decode b_KReader_isWanted 13 = .ok (.iconst 1, 1) := by decide +kernel
theorem d_KReader_isWanted_14 : decode b_KReader_isWanted 14 = .ok (.ireturn, 1) := by decide +kernel
theorem d_KReader_isWanted_15 : decode b_KReader_isWanted 15 = .ok (.iload 4, 2) := by decide +kernel
theorem d_KReader_isWanted_17 : decode b_KReader_isWanted 17 = .ok (.bipush 8, 2) := by decide +kernel
theorem d_KReader_isWanted_19 : decode b_KReader_isWanted 19 = .ok (.if_icmp .lt 77, 3) := by decide +kernel
theorem d_KReader_isWanted_22 : decode b_KReader_isWanted 22 = .ok (.iconst 0, 1) := by decide +kernel
theorem d_KReader_isWanted_23 : decode b_KReader_isWanted 23 = .ok (.istore 5, 2) := by decide +kernel
theorem d_KReader_isWanted_25 : decode b_KReader_isWanted 25 = .ok (.iconst 0, 1) := by decide +kernel
theorem d_KReader_isWanted_26 : decode b_KReader_isWanted 26 = .ok (.istore 6, 2) := by decide +kernel
theorem d_KReader_isWanted_28 : decode b_KReader_isWanted 28 = .ok (.iload 6, 2) := by decide +kernel
theorem d_KReader_isWanted_30 : decode b_KReader_isWanted 30 = .ok (.aload_n 0, 1) := by decide +kernel
theorem d_KReader_isWanted_31 : decode b_KReader_isWanted 31 = .ok (.getfield 135, 3) := by decide +kernel
theorem d_KReader_isWanted_34 : decode b_KReader_isWanted 34 = .ok (.iload_n 1, 1) := by decide +kernel
theorem d_KReader_isWanted_35 : decode b_KReader_isWanted 35 = .ok (.iaload, 1) := by decide +kernel
theorem d_KReader_isWanted_36 : decode b_KReader_isWanted 36 = .ok (.if_icmp .ge 57, 3) := by decide +kernel
theorem d_KReader_isWanted_39 : decode b_KReader_isWanted 39 = .ok (.iload 5, 2) := by decide +kernel
theorem d_KReader_isWanted_41 : decode b_KReader_isWanted 41 = .ok (.ifCond .ne 39, 3) := by decide +kernel
theorem d_KReader_isWanted_44 : decode b_KReader_isWanted 44 = .ok (.aload_n 0, 1) := by decide +kernel
theorem d_KReader_isWanted_45 : decode b_KReader_isWanted 45 = .ok (.getfield 150, 3) := by decide +kernel
theorem d_KReader_isWanted_48 : decode b_KReader_isWanted 48 = .ok (.getfield 227, 3) := by decide +kernel
theorem d_KReader_isWanted_51 : decode b_KReader_isWanted 51 = .ok (.aload_n 0, 1) := by decide +kernel
theorem d_KReader_isWanted_52 : decode b_KReader_isWanted 52 = .ok (.getfield 150, 3) := by decide +kernel
theorem d_KReader_isWanted_55 : decode b_KReader_isWanted 55 = .ok (.getfield 806, 3) := by decide +kernel
theorem d_KReader_isWanted_58 : decode b_KReader_isWanted 58 = .ok (.iload_n 2, 1) := by decide +kernel
theorem d_KReader_isWanted_59 : decode b_KReader_isWanted 59 = .ok (.iload_n 3, 1) := by decide +kernel
theorem d_KReader_isWanted_60 : decode b_KReader_isWanted 60 = .ok (.invokevirtual 529, 3) := by decide +kernel
theorem d_KReader_isWanted_63 : decode b_KReader_isWanted 63 = .ok (.aload_n 0, 1) := by decide +kernel
theorem d_KReader_isWanted_64 : decode b_KReader_isWanted 64 = .ok (.getfield 138, 3) := by decide +kernel
theorem d_KReader_isWanted_67 : decode b_KReader_isWanted 67 = .ok (.aload_n 0, 1) := by decide +kernel
theorem d_KReader_isWanted_68 : decode b_KReader_isWanted 68 = .ok (.getfield 132, 3) := by decide +kernel
theorem d_KReader_isWanted_71 : decode b_KReader_isWanted 71 = .ok (.iload_n 1, 1) := by decide +kernel
theorem d_KReader_isWanted_72 : decode b_KReader_isWanted 72 = .ok (.iaload, 1) := by decide +kernel
theorem d_KReader_isWanted_73 : decode b_KReader_isWanted 73 = .ok (.iload 6, 2) := by decide +kernel
theorem d_KReader_isWanted_75 : decode b_KReader_isWanted 75 = .ok (.iadd, 1) := by decide +kernel
theorem d_KReader_isWanted_76 : decode b_KReader_isWanted 76 = .ok (.iaload, 1) := by decide +kernel
theorem d_KReader_isWanted_77 : decode b_KReader_isWanted 77 = .ok (.if_icmp .ne 7, 3) := by decide +kernel
theorem d_KReader_isWanted_80 : decode b_KReader_isWanted 80 = .ok (.iconst 1, 1) := by decide +kernel
theorem d_KReader_isWanted_81 : decode b_KReader_isWanted 81 = .ok (.goto 4, 3) := by decide +kernel
theorem d_KReader_isWanted_84 : decode b_KReader_isWanted 84 = .ok (.iconst 0, 1) := by decide +kernel
theorem d_KReader_isWanted_85 : decode b_KReader_isWanted 85 = .ok (.istore 5, 2) := by decide +kernel
theorem d_KReader_isWanted_87 : decode b_KReader_isWanted 87 = .ok (.iinc 6 1, 3) := by decide +kernel
theorem d_KReader_isWanted_90 : decode b_KReader_isWanted 90 = .ok (.goto (-62), 3) := by decide +kernel
theorem d_KReader_isWanted_93 : decode b_KReader_isWanted 93 = .ok (.iload 5, 2) := by decide +kernel
theorem d_KReader_isWanted_95 : decode b_KReader_isWanted 95 = .ok (.ireturn, 1) := by decide +kernel
theorem d_KReader_isWanted_96 : decode b_KReader_isWanted 96 = .ok (.iload 4, 2) := by decide +kernel
theorem d_KReader_isWanted_98 : decode b_KReader_isWanted 98 = .ok (.bipush 6, 2) := by decide +kernel
theorem d_KReader_isWanted_100 : decode b_KReader_isWanted 100 = .ok (.if_icmp .eq 14, 3) := by decide +kernel
theorem d_KReader_isWanted_103 : decode b_KReader_isWanted 103 = .ok (.iload 4, 2) := by decide +kernel
theorem d_KReader_isWanted_105 : decode b_KReader_isWanted 105 = .ok (.bipush 7, 2) := by decide +kernel
theorem d_KReader_isWanted_107 : decode b_KReader_isWanted 107 = .ok (.if_icmp .eq 7, 3) := by decide +kernel
theorem d_KReader_isWanted_110 : decode b_KReader_isWanted 110 = .ok (.iconst 1, 1) := by decide +kernel
theorem d_KReader_isWanted_111 : decode b_KReader_isWanted 111 = .ok (.goto 4, 3) := by decide +kernel
theorem d_KReader_isWanted_114 : decode b_KReader_isWanted 114 = .ok (.iconst 0, 1) := by decide +kernel
theorem d_KReader_isWanted_115 : decode b_KReader_isWanted 115 = .ok (.istore 5, 2) := by decide +kernel
theorem d_KReader_isWanted_117 : decode b_KReader_isWanted 117 = .ok (.iload 4, 2) := by decide +kernel
theorem d_KReader_isWanted_119 : decode b_KReader_isWanted 119 = .ok (.iconst 3, 1) := by decide +kernel
theorem d_KReader_isWanted_120 : decode b_KReader_isWanted 120 = .ok (.if_icmp .eq 25, 3) := by decide +kernel
theorem d_KReader_isWanted_123 : decode b_KReader_isWanted 123 = .ok (.iload 4, 2) := by decide +kernel
theorem d_KReader_isWanted_125 : decode b_KReader_isWanted 125 = .ok (.iconst 5, 1) := by decide +kernel
theorem d_KReader_isWanted_126 : decode b_KReader_isWanted 126 = .ok (.if_icmp .eq 19, 3) := by decide +kernel
theorem d_KReader_isWanted_129 : decode b_KReader_isWanted 129 = .ok (.iload 4, 2) := by decide +kernel
theorem d_KReader_isWanted_131 : decode b_KReader_isWanted 131 = .ok (.bipush 7, 2) := by decide +kernel
theorem d_KReader_isWanted_133 : decode b_KReader_isWanted 133 = .ok (.if_icmp .eq 12, 3) := by decide +kernel
theorem d_KReader_isWanted_136 : decode b_KReader_isWanted 136 = .ok (.aload_n 0, 1) := by decide +kernel
theorem d_KReader_isWanted_137 : decode b_KReader_isWanted 137 = .ok (.iload_n 2, 1) := by decide +kernel
theorem d_KReader_isWanted_138 : decode b_KReader_isWanted 138 = .ok (.iload_n 3, 1) := by decide +kernel
theorem d_KReader_isWanted_139 : decode b_KReader_isWanted 139 = .ok (.iload 5, 2) := by decide +kernel
theorem d_KReader_isWanted_141 : decode b_KReader_isWanted 141 = .ok (.invokevirtual 809, 3) := by decide +kernel
theorem d_KReader_isWanted_144 : decode b_KReader_isWanted 144 = .ok (.ireturn, 1) := by decide +kernel
theorem d_KReader_isWanted_145 : decode b_KReader_isWanted 145 = .ok (.iconst 1, 1) := by decide +kernel
theorem d_KReader_isWanted_146 : decode b_KReader_isWanted 146 = .ok (.istore 6, 2) := by decide +kernel
theorem d_KReader_isWanted_148 : decode b_KReader_isWanted 148 = .ok (.iload_n 2, 1) := by decide +kernel
theorem d_KReader_isWanted_149 : decode b_KReader_isWanted 149 = .ok (.istore 7, 2) := by decide +kernel
theorem d_KReader_isWanted_151 : decode b_KReader_isWanted 151 = .ok (.iload_n 2, 1) := by decide +kernel
theorem d_KReader_isWanted_152 : decode b_KReader_isWanted 152 = .ok (.istore 8, 2) := by decide +kernel
theorem d_KReader_isWanted_154 : decode b_KReader_isWanted 154 = .ok (.iload 8, 2) := by decide +kernel
theorem d_KReader_isWanted_156 : decode b_KReader_isWanted 156 = .ok (.iload_n 2, 1) := by decide +kernel
theorem d_KReader_isWanted_157 : decode b_KReader_isWanted 157 = .ok (.iload_n 3, 1) := by decide +kernel
theorem d_KReader_isWanted_158 : decode b_KReader_isWanted 158 = .ok (.iadd, 1) := by decide +kernel
theorem d_KReader_isWanted_159 : decode b_KReader_isWanted 159 = .ok (.if_icmp .gt 66, 3) := by decide +kernel
theorem d_KReader_isWanted_162 : decode b_KReader_isWanted 162 = .ok (.iload 8, 2) := by decide +kernel
theorem d_KReader_isWanted_164 : decode b_KReader_isWanted 164 = .ok (.iload_n 2, 1) := by decide +kernel
theorem d_KReader_isWanted_165 : decode b_KReader_isWanted 165 = .ok (.iload_n 3, 1) := by decide +kernel
theorem d_KReader_isWanted_166 : decode b_KReader_isWanted 166 = .ok (.iadd, 1) := by decide +kernel
theorem d_KReader_isWanted_167 : decode b_KReader_isWanted 167 = .ok (.if_icmp .eq 18, 3) := by decide +kernel
theorem d_KReader_isWanted_170 : decode b_KReader_isWanted 170 = .ok (.aload_n 0, 1) := by decide +kernel
theorem d_KReader_isWanted_171 : decode b_KReader_isWanted 171 = .ok (.getfield 150, 3) := by decide +kernel
theorem d_KReader_isWanted_174 : decode b_KReader_isWanted 174 = .ok (.getfield 806, 3) := by decide +kernel
theorem d_KReader_isWanted_177 : decode b_KReader_isWanted 177 = .ok (.iload 8, 2) := by decide +kernel
theorem d_KReader_isWanted_179 : decode b_KReader_isWanted 179 = .ok (.iaload, 1) := by decide +kernel
theorem d_KReader_isWanted_180 : decode b_KReader_isWanted 180 = .ok (.bipush 32, 2) := by decide +kernel
theorem d_KReader_isWanted_182 : decode b_KReader_isWanted 182 = .ok (.if_icmp .ne 37, 3) := by decide +kernel
theorem d_KReader_isWanted_185 : decode b_KReader_isWanted 185 = .ok (.iload 6, 2) := by decide +kernel
theorem d_KReader_isWanted_187 : decode b_KReader_isWanted 187 = .ok (.ifCond .eq 23, 3) := by decide +kernel
theorem d_KReader_isWanted_190 : decode b_KReader_isWanted 190 = .ok (.aload_n 0, 1) := by decide +kernel
theorem d_KReader_isWanted_191 : decode b_KReader_isWanted 191 = .ok (.iload 7, 2) := by decide +kernel
theorem d_KReader_isWanted_193 : decode b_KReader_isWanted 193 = .ok (.iload 8, 2) := by decide +kernel
theorem d_KReader_isWanted_195 : decode b_KReader_isWanted 195 = .ok (.iload 7, 2) := by decide +kernel
theorem d_KReader_isWanted_197 : decode b_KReader_isWanted 197 = .ok (.isub, 1) := by decide +kernel
theorem d_KReader_isWanted_198 : decode b_KReader_isWanted 198 = .ok (.iload 5, 2) := by decide +kernel
theorem d_KReader_isWanted_200 : decode b_KReader_isWanted 200 = .ok (.invokevirtual 809, 3) := by decide +kernel
theorem d_KReader_isWanted_203 : decode b_KReader_isWanted 203 = .ok (.ifCond .eq 7, 3) := by decide +kernel
theorem d_KReader_isWanted_206 : decode b_KReader_isWanted 206 = .ok (.iconst 1, 1) := by decide +kernel
theorem d_KReader_isWanted_207 : decode b_KReader_isWanted 207 = .ok (.goto 4, 3) := by decide +kernel
theorem d_KReader_isWanted_210 : decode b_KReader_isWanted 210 = .ok (.iconst 0, 1) := by decide +kernel
theorem d_KReader_isWanted_211 : decode b_KReader_isWanted 211 = .ok (.istore 6, 2) := by decide +kernel
theorem d_KReader_isWanted_213 : decode b_KReader_isWanted 213 = .ok (.iload 8, 2) := by decide +kernel
theorem d_KReader_isWanted_215 : decode b_KReader_isWanted 215 = .ok (.iconst 1, 1) := by decide +kernel
theorem d_KReader_isWanted_216 : decode b_KReader_isWanted 216 = .ok (.iadd, 1) := by decide +kernel
theorem d_KReader_isWanted_217 : decode b_KReader_isWanted 217 = .ok (.istore 7, 2) := by decide +kernel
theorem d_KReader_isWanted_219 : decode b_KReader_isWanted 219 = .ok (.iinc 8 1, 3) := by decide +kernel
theorem d_KReader_isWanted_222 : decode b_KReader_isWanted 222 = .ok (.goto (-68), 3) := by decide +kernel
theorem d_KReader_isWanted_225 : decode b_KReader_isWanted 225 = .ok (.iload 6, 2) := by decide +kernel
theorem d_KReader_isWanted_227 : decode b_KReader_isWanted 227 = .ok (.ireturn, 1) := by decide +kernel
/-- KReader_isWanted -/
def w_KReader_isWanted (L : Nat → Nat) (a1 : Int) (a2 : Int) (a3 : Int) (Q : Int → IS → Prop) (σ : IS) : Prop := inL L 201 a1 ∧ if (σ.2 201 (Int.toNat a1)) = 0 then Q 1 σ else if (σ.2 201 (Int.toNat a1)) < 8 then if ¬ (σ.2 201 (Int.toNat a1)) = 3 ∧ (¬ (σ.2 201 (Int.toNat a1)) = 5 ∧ (¬ (σ.2 201 (Int.toNat a1)) = 7)) then w_KReader_isWord L a2 a3 (if (σ.2 201 (Int.toNat a1)) = 6 then (0 : Int) else (if (σ.2 201 (Int.toNat a1)) = 7 then (0 : Int) else (1 : Int))) (fun v4 σ3 => is01 v4 ∧ Q v4 σ3) σ else WL (fun (K6 : Int × Int × Int → IS → Prop) (s8 : Int × Int × Int) (σ9 : IS) => inR (a2 + a3) ∧ if (a2 + a3) < s8.2.2 then is01 s8.1 ∧ Q s8.1 σ9 else inR (a2 + a3) ∧ WJ (fun (s14 : Int × Int) (σ15 : IS) => inR (s8.2.2 + 1) ∧ K6 (s14.1, s14.2, (s8.2.2 + 1)) σ15) (fun J12 => ((¬ s8.2.2 = (a2 + a3) → (dyD (σ9.1 16 2) ∧ inL L (rfo (Int.toNat (σ9.1 16 2)) 1) s8.2.2))) ∧ if s8.2.2 = (a2 + a3) ∨ ((σ9.2 (rfo (Int.toNat (σ9.1 16 2)) 1) (Int.toNat s8.2.2)) = 32) then WJ (fun (s21 : Int) (σ22 : IS) => inR (s8.2.2 + 1) ∧ J12 (s21, (s8.2.2 + 1)) σ22) (fun J19 => WJ (fun (s26 : Unit) (σ27 : IS) => J19 0 σ27) (fun J24 => if s8.1 = 0 then J24 () σ9 else inR (s8.2.2 - s8.2.1) ∧ w_KReader_isWord L s8.2.1 (s8.2.2 - s8.2.1) (if (σ.2 201 (Int.toNat a1)) = 6 then (0 : Int) else (if (σ.2 201 (Int.toNat a1)) = 7 then (0 : Int) else (1 : Int))) (fun v30 σ29 => if v30 = 0 then J24 () σ29 else J19 1 σ29) σ9)) else J12 (s8.1, s8.2.1) σ9)) (1, a2, a2) σ else WL (fun (K55 : Int × Int → IS → Prop) (s57 : Int × Int) (σ58 : IS) => inL L 206 a1 ∧ if s57.2 < (σ58.2 206 (Int.toNat a1)) then WJ (fun (s63 : Int) (σ64 : IS) => inR (s57.2 + 1) ∧ K55 (s63, (s57.2 + 1)) σ64) (fun J61 => WJ (fun (s68 : Unit) (σ69 : IS) => J61 1 σ69) (fun J66 => if s57.1 = 0 then dyD (σ58.1 16 2) ∧ w_KBook_find L (rfo (Int.toNat (σ58.1 16 2)) 1) a2 a3 (fun v73 σ72 => inL L 205 a1 ∧ inR ((σ72.2 205 (Int.toNat a1)) + s57.2) ∧ inL L 207 ((σ72.2 205 (Int.toNat a1)) + s57.2) ∧ if v73 = (σ72.2 207 (Int.toNat ((σ72.2 205 (Int.toNat a1)) + s57.2))) then J66 () σ72 else J61 0 σ72) σ58 else J66 () σ58)) else is01 s57.1 ∧ Q s57.1 σ58) (0, 0) σ
set_option maxHeartbeats 4000000 in
set_option maxRecDepth 20000 in
theorem s_KReader_isWanted {L : Nat → Nat} (hL : ∀ r, L r < 2147483648) {d : Nat} (hd : 4 ≤ d) {a1 : Int} {a2 : Int} {a3 : Int} {Q : Int → IS → Prop} {σ : IS}  (h : w_KReader_isWanted L a1 a2 a3 Q σ) : OkI BF L d 15 b_KReader_isWanted 9 2 0 [] [some (.inr 16), some (.inl a1), some (.inl a2), some (.inl a3)] σ (qi Q) := by
  unfold w_KReader_isWanted at h
  obtain ⟨d, rfl⟩ : ∃ e, d = e + 1 := ⟨d - 1, by omega⟩
  refine k_sb (lv' := [some (.inr 16), some (.inl a1), some (.inl a2), some (.inl a3), none, none, none, none, none]) (sb_s (sb_s (sb_s (sb_s (sb_e (sb_e (sb_e (sb_e (sb_e sb_nil))))))))) ?_
  refine k_aload_n d_KReader_isWanted_0 rfl ?_
  refine k_getR d_KReader_isWanted_1 fl_15_120 ob_16 rfl ?_
  refine k_iload_n d_KReader_isWanted_4 rfl ?_
  obtain ⟨p79, h⟩ := h
  refine k_bld (x := (σ.2 201 (Int.toNat a1))) d_KReader_isWanted_5 rB_201 p79 rfl ?_
  refine k_istore (lv' := [some (.inr 16), some (.inl a1), some (.inl a2), some (.inl a3), some (.inl (σ.2 201 (Int.toNat a1))), none, none, none, none]) d_KReader_isWanted_6 rfl rfl ?_
  refine k_iload d_KReader_isWanted_8 rfl ?_
  refine k_ifne d_KReader_isWanted_10 rfl (fun c1 => ?_) (fun c1 => ?_)
  · have h := ineg c1 h
    refine k_iload d_KReader_isWanted_15 rfl ?_
    refine k_bipush d_KReader_isWanted_17 cB_8 ?_
    refine k_iclt d_KReader_isWanted_19 rfl (fun c2 => ?_) (fun c2 => ?_)
    · have h := ipos c2 h
      refine k_iload d_KReader_isWanted_96 rfl ?_
      refine k_bipush d_KReader_isWanted_98 cB_6 ?_
      have hV48 : OkI BF L (d + 1) 15 b_KReader_isWanted 9 2 115 [.inl (if (σ.2 201 (Int.toNat a1)) = 6 then (0 : Int) else (if (σ.2 201 (Int.toNat a1)) = 7 then (0 : Int) else (1 : Int)))] [some (.inr 16), some (.inl a1), some (.inl a2), some (.inl a3), some (.inl (σ.2 201 (Int.toNat a1))), none, none, none, none] σ (qi Q) := by
        refine k_istore (lv' := [some (.inr 16), some (.inl a1), some (.inl a2), some (.inl a3), some (.inl (σ.2 201 (Int.toNat a1))), some (.inl (if (σ.2 201 (Int.toNat a1)) = 6 then (0 : Int) else (if (σ.2 201 (Int.toNat a1)) = 7 then (0 : Int) else (1 : Int)))), none, none, none]) d_KReader_isWanted_115 rfl rfl ?_
        refine k_iload d_KReader_isWanted_117 rfl ?_
        refine k_iconst d_KReader_isWanted_119 cI_3 ?_
        have hX42 : (¬ (σ.2 201 (Int.toNat a1)) = 3 ∧ (¬ (σ.2 201 (Int.toNat a1)) = 5 ∧ (¬ (σ.2 201 (Int.toNat a1)) = 7))) → OkI BF L (d + 1) 15 b_KReader_isWanted 9 2 136 [] [some (.inr 16), some (.inl a1), some (.inl a2), some (.inl a3), some (.inl (σ.2 201 (Int.toNat a1))), some (.inl (if (σ.2 201 (Int.toNat a1)) = 6 then (0 : Int) else (if (σ.2 201 (Int.toNat a1)) = 7 then (0 : Int) else (1 : Int)))), none, none, none] σ (qi Q) := fun e44 => by
          have h := ipos e44 h
          refine k_aload_n d_KReader_isWanted_136 rfl ?_
          refine k_iload_n d_KReader_isWanted_137 rfl ?_
          refine k_iload_n d_KReader_isWanted_138 rfl ?_
          refine k_iload d_KReader_isWanted_139 rfl ?_
          refine k_cvi [.inl a2, .inl a3, .inl (if (σ.2 201 (Int.toNat a1)) = 6 then (0 : Int) else (if (σ.2 201 (Int.toNat a1)) = 7 then (0 : Int) else (1 : Int)))] d_KReader_isWanted_141 ml_15_809 rfl rfl ob_16 rfl (s_KReader_isWord hL (by omega)  h) (fun v4 σ3 h => ?_)
          obtain ⟨p5, h⟩ := h
          exact k_iret d_KReader_isWanted_144 (Or.inr ⟨rfl, p5⟩) h
        have hY43 : ¬ (¬ (σ.2 201 (Int.toNat a1)) = 3 ∧ (¬ (σ.2 201 (Int.toNat a1)) = 5 ∧ (¬ (σ.2 201 (Int.toNat a1)) = 7))) → OkI BF L (d + 1) 15 b_KReader_isWanted 9 2 145 [] [some (.inr 16), some (.inl a1), some (.inl a2), some (.inl a3), some (.inl (σ.2 201 (Int.toNat a1))), some (.inl (if (σ.2 201 (Int.toNat a1)) = 6 then (0 : Int) else (if (σ.2 201 (Int.toNat a1)) = 7 then (0 : Int) else (1 : Int)))), none, none, none] σ (qi Q) := fun e44 => by
          have h := ineg e44 h
          refine k_iconst d_KReader_isWanted_145 cI_1 ?_
          refine k_istore (lv' := [some (.inr 16), some (.inl a1), some (.inl a2), some (.inl a3), some (.inl (σ.2 201 (Int.toNat a1))), some (.inl (if (σ.2 201 (Int.toNat a1)) = 6 then (0 : Int) else (if (σ.2 201 (Int.toNat a1)) = 7 then (0 : Int) else (1 : Int)))), some (.inl 1), none, none]) d_KReader_isWanted_146 rfl rfl ?_
          refine k_iload_n d_KReader_isWanted_148 rfl ?_
          refine k_istore (lv' := [some (.inr 16), some (.inl a1), some (.inl a2), some (.inl a3), some (.inl (σ.2 201 (Int.toNat a1))), some (.inl (if (σ.2 201 (Int.toNat a1)) = 6 then (0 : Int) else (if (σ.2 201 (Int.toNat a1)) = 7 then (0 : Int) else (1 : Int)))), some (.inl 1), some (.inl a2), none]) d_KReader_isWanted_149 rfl rfl ?_
          refine k_iload_n d_KReader_isWanted_151 rfl ?_
          refine k_istore (lv' := [some (.inr 16), some (.inl a1), some (.inl a2), some (.inl a3), some (.inl (σ.2 201 (Int.toNat a1))), some (.inl (if (σ.2 201 (Int.toNat a1)) = 6 then (0 : Int) else (if (σ.2 201 (Int.toNat a1)) = 7 then (0 : Int) else (1 : Int)))), some (.inl 1), some (.inl a2), some (.inl a2)]) d_KReader_isWanted_152 rfl rfl ?_
          refine k_sb (lv' := [some (.inr 16), none, some (.inl a2), some (.inl a3), none, some (.inl (if (σ.2 201 (Int.toNat a1)) = 6 then (0 : Int) else (if (σ.2 201 (Int.toNat a1)) = 7 then (0 : Int) else (1 : Int)))), some (.inl 1), some (.inl a2), some (.inl a2)]) (sb_s (sb_n (sb_s (sb_s (sb_n (sb_s (sb_s (sb_s (sb_s sb_nil))))))))) ?_
          refine k_loop (S := Int × Int × Int) (st := fun _ => []) (lv := fun s8 => [some (.inr 16), none, some (.inl a2), some (.inl a3), none, some (.inl (if (σ.2 201 (Int.toNat a1)) = 6 then (0 : Int) else (if (σ.2 201 (Int.toNat a1)) = 7 then (0 : Int) else (1 : Int)))), some (.inl s8.1), some (.inl s8.2.1), some (.inl s8.2.2)]) (fun K6 hK7 s8 σ9 h => ?_) (1, a2, a2) _ h
          refine k_iload d_KReader_isWanted_154 rfl ?_
          refine k_iload_n d_KReader_isWanted_156 rfl ?_
          refine k_iload_n d_KReader_isWanted_157 rfl ?_
          obtain ⟨p41, h⟩ := h
          refine k_iadd d_KReader_isWanted_158 p41 ?_
          refine k_icgt d_KReader_isWanted_159 rfl (fun c10 => ?_) (fun c10 => ?_)
          · have h := ipos c10 h
            refine k_iload d_KReader_isWanted_225 rfl ?_
            obtain ⟨p11, h⟩ := h
            exact k_iret d_KReader_isWanted_227 (Or.inr ⟨rfl, p11⟩) h
          · have h := ineg c10 h
            refine k_iload d_KReader_isWanted_162 rfl ?_
            refine k_iload_n d_KReader_isWanted_164 rfl ?_
            refine k_iload_n d_KReader_isWanted_165 rfl ?_
            obtain ⟨p40, h⟩ := h
            refine k_iadd d_KReader_isWanted_166 p40 ?_
            refine k_join (S := Int × Int) (pc' := 219) (st' := fun s14 => []) (lv' := fun s14 => [some (.inr 16), none, some (.inl a2), some (.inl a3), none, some (.inl (if (σ.2 201 (Int.toNat a1)) = 6 then (0 : Int) else (if (σ.2 201 (Int.toNat a1)) = 7 then (0 : Int) else (1 : Int)))), some (.inl s14.1), some (.inl s14.2), some (.inl s8.2.2)]) (fun s14 σ15 h => ?_) (fun J12 hJ13 h => ?_) h
            · obtain ⟨p16, h⟩ := h
              refine k_iinc (lv' := [some (.inr 16), none, some (.inl a2), some (.inl a3), none, some (.inl (if (σ.2 201 (Int.toNat a1)) = 6 then (0 : Int) else (if (σ.2 201 (Int.toNat a1)) = 7 then (0 : Int) else (1 : Int)))), some (.inl s14.1), some (.inl s14.2), some (.inl (s8.2.2 + 1))]) d_KReader_isWanted_219 cI_1 rfl rfl p16 rfl ?_
              refine k_goto d_KReader_isWanted_222 rfl ?_
              exact k_sb (sb_s (sb_s (sb_s (sb_s (sb_s (sb_s (sb_s (sb_s (sb_s sb_nil))))))))) (hK7 (s14.1, s14.2, (s8.2.2 + 1)) _ h)
            · obtain ⟨pt36, h⟩ := h
              have hX33 : (s8.2.2 = (a2 + a3) ∨ ((σ9.2 (rfo (Int.toNat (σ9.1 16 2)) 1) (Int.toNat s8.2.2)) = 32)) → OkI BF L (d + 1) 15 b_KReader_isWanted 9 2 185 [] [some (.inr 16), none, some (.inl a2), some (.inl a3), none, some (.inl (if (σ.2 201 (Int.toNat a1)) = 6 then (0 : Int) else (if (σ.2 201 (Int.toNat a1)) = 7 then (0 : Int) else (1 : Int)))), some (.inl s8.1), some (.inl s8.2.1), some (.inl s8.2.2)] σ9 (qi Q) := fun e35 => by
                have h := ipos e35 h
                refine k_iload d_KReader_isWanted_185 rfl ?_
                refine k_join (S := Int) (pc' := 211) (st' := fun s21 => [.inl s21]) (lv' := fun s21 => [some (.inr 16), none, some (.inl a2), some (.inl a3), none, some (.inl (if (σ.2 201 (Int.toNat a1)) = 6 then (0 : Int) else (if (σ.2 201 (Int.toNat a1)) = 7 then (0 : Int) else (1 : Int)))), none, none, some (.inl s8.2.2)]) (fun s21 σ22 h => ?_) (fun J19 hJ20 h => ?_) h
                · refine k_istore (lv' := [some (.inr 16), none, some (.inl a2), some (.inl a3), none, some (.inl (if (σ.2 201 (Int.toNat a1)) = 6 then (0 : Int) else (if (σ.2 201 (Int.toNat a1)) = 7 then (0 : Int) else (1 : Int)))), some (.inl s21), none, some (.inl s8.2.2)]) d_KReader_isWanted_211 rfl rfl ?_
                  refine k_iload d_KReader_isWanted_213 rfl ?_
                  refine k_iconst d_KReader_isWanted_215 cI_1 ?_
                  obtain ⟨p23, h⟩ := h
                  refine k_iadd d_KReader_isWanted_216 p23 ?_
                  refine k_istore (lv' := [some (.inr 16), none, some (.inl a2), some (.inl a3), none, some (.inl (if (σ.2 201 (Int.toNat a1)) = 6 then (0 : Int) else (if (σ.2 201 (Int.toNat a1)) = 7 then (0 : Int) else (1 : Int)))), some (.inl s21), some (.inl (s8.2.2 + 1)), some (.inl s8.2.2)]) d_KReader_isWanted_217 rfl rfl ?_
                  exact k_sb (sb_s (sb_s (sb_s (sb_s (sb_s (sb_s (sb_s (sb_s (sb_s sb_nil))))))))) (hJ13 (s21, (s8.2.2 + 1)) _ h)
                · refine k_join (S := Unit) (pc' := 210) (st' := fun s26 => []) (lv' := fun s26 => [some (.inr 16), none, some (.inl a2), some (.inl a3), none, some (.inl (if (σ.2 201 (Int.toNat a1)) = 6 then (0 : Int) else (if (σ.2 201 (Int.toNat a1)) = 7 then (0 : Int) else (1 : Int)))), none, none, some (.inl s8.2.2)]) (fun s26 σ27 h => ?_) (fun J24 hJ25 h => ?_) h
                  · refine k_iconst d_KReader_isWanted_210 cI_0 ?_
                    exact k_sb (sb_s (sb_s (sb_s (sb_s (sb_s (sb_s (sb_s (sb_s (sb_s sb_nil))))))))) (hJ20 0 _ h)
                  · refine k_ifeq d_KReader_isWanted_187 rfl (fun c28 => ?_) (fun c28 => ?_)
                    · have h := ipos c28 h
                      exact k_sb (sb_s (sb_s (sb_s (sb_s (sb_s (sb_s (sb_n (sb_n (sb_s sb_nil))))))))) (hJ25 () _ h)
                    · have h := ineg c28 h
                      refine k_aload_n d_KReader_isWanted_190 rfl ?_
                      refine k_iload d_KReader_isWanted_191 rfl ?_
                      refine k_iload d_KReader_isWanted_193 rfl ?_
                      refine k_iload d_KReader_isWanted_195 rfl ?_
                      obtain ⟨p32, h⟩ := h
                      refine k_isub d_KReader_isWanted_197 p32 ?_
                      refine k_iload d_KReader_isWanted_198 rfl ?_
                      refine k_cvi [.inl s8.2.1, .inl (s8.2.2 - s8.2.1), .inl (if (σ.2 201 (Int.toNat a1)) = 6 then (0 : Int) else (if (σ.2 201 (Int.toNat a1)) = 7 then (0 : Int) else (1 : Int)))] d_KReader_isWanted_200 ml_15_809 rfl rfl ob_16 rfl (s_KReader_isWord hL (by omega)  h) (fun v30 σ29 h => ?_)
                      refine k_ifeq d_KReader_isWanted_203 rfl (fun c31 => ?_) (fun c31 => ?_)
                      · have h := ipos c31 h
                        exact k_sb (sb_s (sb_s (sb_s (sb_s (sb_s (sb_s (sb_n (sb_n (sb_s sb_nil))))))))) (hJ25 () _ h)
                      · have h := ineg c31 h
                        refine k_iconst d_KReader_isWanted_206 cI_1 ?_
                        refine k_goto d_KReader_isWanted_207 rfl ?_
                        exact k_sb (sb_s (sb_s (sb_s (sb_s (sb_s (sb_s (sb_n (sb_n (sb_s sb_nil))))))))) (hJ20 1 _ h)
              have hY34 : ¬ (s8.2.2 = (a2 + a3) ∨ ((σ9.2 (rfo (Int.toNat (σ9.1 16 2)) 1) (Int.toNat s8.2.2)) = 32)) → OkI BF L (d + 1) 15 b_KReader_isWanted 9 2 219 [] [some (.inr 16), none, some (.inl a2), some (.inl a3), none, some (.inl (if (σ.2 201 (Int.toNat a1)) = 6 then (0 : Int) else (if (σ.2 201 (Int.toNat a1)) = 7 then (0 : Int) else (1 : Int)))), some (.inl s8.1), some (.inl s8.2.1), some (.inl s8.2.2)] σ9 (qi Q) := fun e35 => by
                have h := ineg e35 h
                exact k_sb (sb_s (sb_s (sb_s (sb_s (sb_s (sb_s (sb_s (sb_s (sb_s sb_nil))))))))) (hJ13 (s8.1, s8.2.1) _ h)
              have pb37 := pt36
              refine k_iceq d_KReader_isWanted_167 rfl (fun c38 => ?_) (fun c38 => ?_)
              · exact hX33 (Or.inl c38)
              · have pb37 := pb37 c38
                obtain ⟨y17, p18⟩ := pb37
                refine k_aload_n d_KReader_isWanted_170 rfl ?_
                refine k_getD (x := (σ9.1 16 2)) d_KReader_isWanted_171 fl_15_150 ob_16 rfl rfl (dyD_pos y17) ?_
                refine k_getR d_KReader_isWanted_174 fl_15_806 (doc_ob (dyD_doc y17)) (dfr_1 (dyD_doc y17)) ?_
                refine k_iload d_KReader_isWanted_177 rfl ?_
                refine k_ild (x := (σ9.2 (rfo (Int.toNat (σ9.1 16 2)) 1) (Int.toNat s8.2.2))) d_KReader_isWanted_179 (drI_1 (dyD_doc y17)) p18 rfl ?_
                refine k_bipush d_KReader_isWanted_180 cB_32 ?_
                refine k_icne d_KReader_isWanted_182 rfl (fun c39 => ?_) (fun c39 => ?_)
                · exact hY34 (fun z => z.elim c38 (c39))
                · exact hX33 (Or.inr (c39))
        refine k_iceq d_KReader_isWanted_120 rfl (fun c45 => ?_) (fun c45 => ?_)
        · exact hY43 (fun z => z.1 c45)
        · refine k_iload d_KReader_isWanted_123 rfl ?_
          refine k_iconst d_KReader_isWanted_125 cI_5 ?_
          refine k_iceq d_KReader_isWanted_126 rfl (fun c46 => ?_) (fun c46 => ?_)
          · exact hY43 (fun z => (fun z => z.1 c46) z.2)
          · refine k_iload d_KReader_isWanted_129 rfl ?_
            refine k_bipush d_KReader_isWanted_131 cB_7 ?_
            refine k_iceq d_KReader_isWanted_133 rfl (fun c47 => ?_) (fun c47 => ?_)
            · exact hY43 (fun z => (fun z => (fun z => z c47) z.2) z.2)
            · exact hX42 (⟨c45, ⟨c46, c47⟩⟩)
      refine k_iceq d_KReader_isWanted_100 rfl (fun c49 => ?_) (fun c49 => ?_)
      · have hV50 := k_eqI (if_pos c49) hV48
        refine k_iconst d_KReader_isWanted_114 cI_0 ?_
        exact hV50
      · have hV51 := k_eqI (if_neg c49) hV48
        refine k_iload d_KReader_isWanted_103 rfl ?_
        refine k_bipush d_KReader_isWanted_105 cB_7 ?_
        refine k_iceq d_KReader_isWanted_107 rfl (fun c52 => ?_) (fun c52 => ?_)
        · have hV53 := k_eqI (if_pos c52) hV51
          refine k_iconst d_KReader_isWanted_114 cI_0 ?_
          exact hV53
        · have hV54 := k_eqI (if_neg c52) hV51
          refine k_iconst d_KReader_isWanted_110 cI_1 ?_
          refine k_goto d_KReader_isWanted_111 rfl ?_
          exact hV54
    · have h := ineg c2 h
      refine k_iconst d_KReader_isWanted_22 cI_0 ?_
      refine k_istore (lv' := [some (.inr 16), some (.inl a1), some (.inl a2), some (.inl a3), some (.inl (σ.2 201 (Int.toNat a1))), some (.inl 0), none, none, none]) d_KReader_isWanted_23 rfl rfl ?_
      refine k_iconst d_KReader_isWanted_25 cI_0 ?_
      refine k_istore (lv' := [some (.inr 16), some (.inl a1), some (.inl a2), some (.inl a3), some (.inl (σ.2 201 (Int.toNat a1))), some (.inl 0), some (.inl 0), none, none]) d_KReader_isWanted_26 rfl rfl ?_
      refine k_sb (lv' := [some (.inr 16), some (.inl a1), some (.inl a2), some (.inl a3), none, some (.inl 0), some (.inl 0), none, none]) (sb_s (sb_s (sb_s (sb_s (sb_n (sb_s (sb_s (sb_s (sb_s sb_nil))))))))) ?_
      refine k_loop (S := Int × Int) (st := fun _ => []) (lv := fun s57 => [some (.inr 16), some (.inl a1), some (.inl a2), some (.inl a3), none, some (.inl s57.1), some (.inl s57.2), none, none]) (fun K55 hK56 s57 σ58 h => ?_) (0, 0) _ h
      refine k_iload d_KReader_isWanted_28 rfl ?_
      refine k_aload_n d_KReader_isWanted_30 rfl ?_
      refine k_getR d_KReader_isWanted_31 fl_15_135 ob_16 rfl ?_
      refine k_iload_n d_KReader_isWanted_34 rfl ?_
      obtain ⟨p78, h⟩ := h
      refine k_ild (x := (σ58.2 206 (Int.toNat a1))) d_KReader_isWanted_35 rI_206 p78 rfl ?_
      refine k_icge d_KReader_isWanted_36 rfl (fun c59 => ?_) (fun c59 => ?_)
      · have h := ineg c59 h
        refine k_iload d_KReader_isWanted_93 rfl ?_
        obtain ⟨p60, h⟩ := h
        exact k_iret d_KReader_isWanted_95 (Or.inr ⟨rfl, p60⟩) h
      · have h := ipos c59 h
        refine k_iload d_KReader_isWanted_39 rfl ?_
        refine k_join (S := Int) (pc' := 85) (st' := fun s63 => [.inl s63]) (lv' := fun s63 => [some (.inr 16), some (.inl a1), some (.inl a2), some (.inl a3), none, none, some (.inl s57.2), none, none]) (fun s63 σ64 h => ?_) (fun J61 hJ62 h => ?_) h
        · refine k_istore (lv' := [some (.inr 16), some (.inl a1), some (.inl a2), some (.inl a3), none, some (.inl s63), some (.inl s57.2), none, none]) d_KReader_isWanted_85 rfl rfl ?_
          obtain ⟨p65, h⟩ := h
          refine k_iinc (lv' := [some (.inr 16), some (.inl a1), some (.inl a2), some (.inl a3), none, some (.inl s63), some (.inl (s57.2 + 1)), none, none]) d_KReader_isWanted_87 cI_1 rfl rfl p65 rfl ?_
          refine k_goto d_KReader_isWanted_90 rfl ?_
          exact k_sb (sb_s (sb_s (sb_s (sb_s (sb_s (sb_s (sb_s (sb_s (sb_s sb_nil))))))))) (hK56 (s63, (s57.2 + 1)) _ h)
        · refine k_join (S := Unit) (pc' := 80) (st' := fun s68 => []) (lv' := fun s68 => [some (.inr 16), some (.inl a1), some (.inl a2), some (.inl a3), none, none, some (.inl s57.2), none, none]) (fun s68 σ69 h => ?_) (fun J66 hJ67 h => ?_) h
          · refine k_iconst d_KReader_isWanted_80 cI_1 ?_
            refine k_goto d_KReader_isWanted_81 rfl ?_
            exact k_sb (sb_s (sb_s (sb_s (sb_s (sb_s (sb_s (sb_s (sb_s (sb_s sb_nil))))))))) (hJ62 1 _ h)
          · refine k_ifne d_KReader_isWanted_41 rfl (fun c70 => ?_) (fun c70 => ?_)
            · have h := ineg c70 h
              exact k_sb (sb_s (sb_s (sb_s (sb_s (sb_s (sb_n (sb_s (sb_s (sb_s sb_nil))))))))) (hJ67 () _ h)
            · have h := ipos c70 h
              refine k_aload_n d_KReader_isWanted_44 rfl ?_
              obtain ⟨y71, h⟩ := h
              refine k_getD (x := (σ58.1 16 2)) d_KReader_isWanted_45 fl_15_150 ob_16 rfl rfl (dyD_pos y71) ?_
              refine k_getR d_KReader_isWanted_48 fl_15_227 (doc_ob (dyD_doc y71)) (dfr_0 (dyD_doc y71)) ?_
              refine k_aload_n d_KReader_isWanted_51 rfl ?_
              refine k_getD (x := (σ58.1 16 2)) d_KReader_isWanted_52 fl_15_150 ob_16 rfl rfl (dyD_pos y71) ?_
              refine k_getR d_KReader_isWanted_55 fl_15_806 (doc_ob (dyD_doc y71)) (dfr_1 (dyD_doc y71)) ?_
              refine k_iload_n d_KReader_isWanted_58 rfl ?_
              refine k_iload_n d_KReader_isWanted_59 rfl ?_
              refine k_cvi [.inr (rfo (Int.toNat (σ58.1 16 2)) 1), .inl a2, .inl a3] d_KReader_isWanted_60 ml_15_529 rfl rfl ob_13 rfl (s_KBook_find hL (by omega) (drI_1 (dyD_doc y71)) h) (fun v73 σ72 h => ?_)
              refine k_aload_n d_KReader_isWanted_63 rfl ?_
              refine k_getR d_KReader_isWanted_64 fl_15_138 ob_16 rfl ?_
              refine k_aload_n d_KReader_isWanted_67 rfl ?_
              refine k_getR d_KReader_isWanted_68 fl_15_132 ob_16 rfl ?_
              refine k_iload_n d_KReader_isWanted_71 rfl ?_
              obtain ⟨p77, h⟩ := h
              refine k_ild (x := (σ72.2 205 (Int.toNat a1))) d_KReader_isWanted_72 rI_205 p77 rfl ?_
              refine k_iload d_KReader_isWanted_73 rfl ?_
              obtain ⟨p76, h⟩ := h
              refine k_iadd d_KReader_isWanted_75 p76 ?_
              obtain ⟨p75, h⟩ := h
              refine k_ild (x := (σ72.2 207 (Int.toNat ((σ72.2 205 (Int.toNat a1)) + s57.2)))) d_KReader_isWanted_76 rI_207 p75 rfl ?_
              refine k_icne d_KReader_isWanted_77 rfl (fun c74 => ?_) (fun c74 => ?_)
              · have h := ineg c74 h
                refine k_iconst d_KReader_isWanted_84 cI_0 ?_
                exact k_sb (sb_s (sb_s (sb_s (sb_s (sb_s (sb_n (sb_s (sb_s (sb_s sb_nil))))))))) (hJ62 0 _ h)
              · have h := ipos c74 h
                exact k_sb (sb_s (sb_s (sb_s (sb_s (sb_s (sb_n (sb_s (sb_s (sb_s sb_nil))))))))) (hJ67 () _ h)
  · have h := ipos c1 h
    refine k_iconst d_KReader_isWanted_13 cI_1 ?_
    exact k_iret d_KReader_isWanted_14 (Or.inr ⟨rfl, Or.inr rfl⟩) h
theorem d_KReader_define_0 : decode b_KReader_define 0 = .ok (.aload_n 0, 1) := by decide +kernel
theorem d_KReader_define_1 : decode b_KReader_define 1 = .ok (.getfield 613, 3) := by decide +kernel
theorem d_KReader_define_4 : decode b_KReader_define 4 = .ok (.istore_n 3, 1) := by decide +kernel
theorem d_KReader_define_5 : decode b_KReader_define 5 = .ok (.aload_n 0, 1) := by decide +kernel
theorem d_KReader_define_6 : decode b_KReader_define 6 = .ok (.getfield 616, 3) := by decide +kernel
theorem d_KReader_define_9 : decode b_KReader_define 9 = .ok (.istore 4, 2) := by decide +kernel
theorem d_KReader_define_11 : decode b_KReader_define 11 = .ok (.aload_n 0, 1) := by decide +kernel
theorem d_KReader_define_12 : decode b_KReader_define 12 = .ok (.getfield 649, 3) := by decide +kernel
theorem d_KReader_define_15 : decode b_KReader_define 15 = .ok (.istore 5, 2) := by decide +kernel
theorem d_KReader_define_17 : decode b_KReader_define 17 = .ok (.aload_n 0, 1) := by decide +kernel
theorem d_KReader_define_18 : decode b_KReader_define 18 = .ok (.getfield 150, 3) := by decide +kernel
theorem d_KReader_define_21 : decode b_KReader_define 21 = .ok (.getfield 489, 3) := by decide +kernel
theorem d_KReader_define_24 : decode b_KReader_define 24 = .ok (.istore 6, 2) := by decide +kernel
theorem d_KReader_define_26 : decode b_KReader_define 26 = .ok (.iconst 0, 1) := by decide +kernel
theorem d_KReader_define_27 : decode b_KReader_define 27 = .ok (.istore 7, 2) := by decide +kernel
theorem d_KReader_define_29 : decode b_KReader_define 29 = .ok (.aload_n 0, 1) := by decide +kernel
theorem d_KReader_define_30 : decode b_KReader_define 30 = .ok (.getfield 644, 3) := by decide +kernel
theorem d_KReader_define_33 : decode b_KReader_define 33 = .ok (.ifCond .lt 25, 3) := by decide +kernel
theorem d_KReader_define_36 : decode b_KReader_define 36 = .ok (.aload_n 0, 1) := by decide +kernel
theorem d_KReader_define_37 : decode b_KReader_define 37 = .ok (.aload_n 0, 1) := by decide +kernel
theorem d_KReader_define_38 : decode b_KReader_define 38 = .ok (.getfield 644, 3) := by decide +kernel
theorem d_KReader_define_41 : decode b_KReader_define 41 = .ok (.invokevirtual 671, 3) := by decide +kernel
theorem d_KReader_define_44 : decode b_KReader_define 44 = .ok (.ifCond .ne 4, 3) := by decide +kernel
theorem d_KReader_define_47 : decode b_KReader_define 47 = .ok (.return_, 1) := by decide +kernel
theorem d_KReader_define_48 : decode b_KReader_define 48 = .ok (.aload_n 0, 1) := by decide +kernel
theorem d_KReader_define_49 : decode b_KReader_define 49 = .ok (.iload 6, 2) := by decide +kernel
theorem d_KReader_define_51 : decode b_KReader_define 51 = .ok (.iload 4, 2) := by decide +kernel
theorem d_KReader_define_53 : decode b_KReader_define 53 = .ok (.invokevirtual 673, 3) := by decide +kernel
theorem d_KReader_define_56 : decode b_KReader_define 56 = .ok (.istore 7, 2) := by decide +kernel
theorem d_KReader_define_58 : decode b_KReader_define 58 = .ok (.aload_n 0, 1) := by decide +kernel
theorem d_KReader_define_59 : decode b_KReader_define 59 = .ok (.iload_n 1, 1) := by decide +kernel
theorem d_KReader_define_60 : decode b_KReader_define 60 = .ok (.iload_n 2, 1) := by decide +kernel
theorem d_KReader_define_61 : decode b_KReader_define 61 = .ok (.invokevirtual 676, 3) := by decide +kernel
theorem d_KReader_define_64 : decode b_KReader_define 64 = .ok (.ifCond .lt 18, 3) := by decide +kernel
theorem d_KReader_define_67 : decode b_KReader_define 67 = .ok (.aload_n 0, 1) := by decide +kernel
theorem d_KReader_define_68 : decode b_KReader_define 68 = .ok (.iload_n 3, 1) := by decide +kernel
theorem d_KReader_define_69 : decode b_KReader_define 69 = .ok (.putfield 218, 3) := by decide +kernel
theorem d_KReader_define_72 : decode b_KReader_define 72 = .ok (.aload_n 0, 1) := by decide +kernel
theorem d_KReader_define_73 : decode b_KReader_define 73 = .ok (.getfield 150, 3) := by decide +kernel
theorem d_KReader_define_76 : decode b_KReader_define 76 = .ok (.iload 6, 2) := by decide +kernel
theorem d_KReader_define_78 : decode b_KReader_define 78 = .ok (.putfield 489, 3) := by decide +kernel
theorem d_KReader_define_81 : decode b_KReader_define 81 = .ok (.return_, 1) := by decide +kernel
theorem d_KReader_define_82 : decode b_KReader_define 82 = .ok (.aload_n 0, 1) := by decide +kernel
theorem d_KReader_define_83 : decode b_KReader_define 83 = .ok (.getfield 215, 3) := by decide +kernel
theorem d_KReader_define_86 : decode b_KReader_define 86 = .ok (.istore 8, 2) := by decide +kernel
theorem d_KReader_define_88 : decode b_KReader_define 88 = .ok (.aload_n 0, 1) := by decide +kernel
theorem d_KReader_define_89 : decode b_KReader_define 89 = .ok (.dup, 1) := by decide +kernel
theorem d_KReader_define_90 : decode b_KReader_define 90 = .ok (.getfield 215, 3) := by decide +kernel
theorem d_KReader_define_93 : decode b_KReader_define 93 = .ok (.iconst 1, 1) := by decide +kernel
theorem d_KReader_define_94 : decode b_KReader_define 94 = .ok (.iadd, 1) := by decide +kernel
theorem d_KReader_define_95 : decode b_KReader_define 95 = .ok (.putfield 215, 3) := by decide +kernel
theorem d_KReader_define_98 : decode b_KReader_define 98 = .ok (.aload_n 0, 1) := by decide +kernel
theorem d_KReader_define_99 : decode b_KReader_define 99 = .ok (.getfield 114, 3) := by decide +kernel
theorem d_KReader_define_102 : decode b_KReader_define 102 = .ok (.iload 8, 2) := by decide +kernel
theorem d_KReader_define_104 : decode b_KReader_define 104 = .ok (.iload_n 1, 1) := by decide +kernel
theorem d_KReader_define_105 : decode b_KReader_define 105 = .ok (.iastore, 1) := by decide +kernel
theorem d_KReader_define_106 : decode b_KReader_define 106 = .ok (.aload_n 0, 1) := by decide +kernel
theorem d_KReader_define_107 : decode b_KReader_define 107 = .ok (.getfield 117, 3) := by decide +kernel
theorem d_KReader_define_110 : decode b_KReader_define 110 = .ok (.iload 8, 2) := by decide +kernel
theorem d_KReader_define_112 : decode b_KReader_define 112 = .ok (.iload_n 2, 1) := by decide +kernel
theorem d_KReader_define_113 : decode b_KReader_define 113 = .ok (.iastore, 1) := by decide +kernel
theorem d_KReader_define_114 : decode b_KReader_define 114 = .ok (.aload_n 0, 1) := by decide +kernel
theorem d_KReader_define_115 : decode b_KReader_define 115 = .ok (.getfield 120, 3) := by decide +kernel
theorem d_KReader_define_118 : decode b_KReader_define 118 = .ok (.iload 8, 2) := by decide +kernel
theorem d_KReader_define_120 : decode b_KReader_define 120 = .ok (.iload 4, 2) := by decide +kernel
theorem d_KReader_define_122 : decode b_KReader_define 122 = .ok (.i2b, 1) := by decide +kernel
theorem d_KReader_define_123 : decode b_KReader_define 123 = .ok (.bastore, 1) := by decide +kernel
theorem d_KReader_define_124 : decode b_KReader_define 124 = .ok (.aload_n 0, 1) := by decide +kernel
theorem d_KReader_define_125 : decode b_KReader_define 125 = .ok (.getfield 123, 3) := by decide +kernel
theorem d_KReader_define_128 : decode b_KReader_define 128 = .ok (.iload 8, 2) := by decide +kernel
theorem d_KReader_define_130 : decode b_KReader_define 130 = .ok (.iload 5, 2) := by decide +kernel
theorem d_KReader_define_132 : decode b_KReader_define 132 = .ok (.i2b, 1) := by decide +kernel
theorem d_KReader_define_133 : decode b_KReader_define 133 = .ok (.bastore, 1) := by decide +kernel
theorem d_KReader_define_134 : decode b_KReader_define 134 = .ok (.aload_n 0, 1) := by decide +kernel
theorem d_KReader_define_135 : decode b_KReader_define 135 = .ok (.getfield 126, 3) := by decide +kernel
theorem d_KReader_define_138 : decode b_KReader_define 138 = .ok (.iload 8, 2) := by decide +kernel
theorem d_KReader_define_140 : decode b_KReader_define 140 = .ok (.iload 6, 2) := by decide +kernel
theorem d_KReader_define_142 : decode b_KReader_define 142 = .ok (.iastore, 1) := by decide +kernel
theorem d_KReader_define_143 : decode b_KReader_define 143 = .ok (.aload_n 0, 1) := by decide +kernel
theorem d_KReader_define_144 : decode b_KReader_define 144 = .ok (.getfield 129, 3) := by decide +kernel
theorem d_KReader_define_147 : decode b_KReader_define 147 = .ok (.iload 8, 2) := by decide +kernel
theorem d_KReader_define_149 : decode b_KReader_define 149 = .ok (.iload 7, 2) := by decide +kernel
theorem d_KReader_define_151 : decode b_KReader_define 151 = .ok (.iastore, 1) := by decide +kernel
theorem d_KReader_define_152 : decode b_KReader_define 152 = .ok (.aload_n 0, 1) := by decide +kernel
theorem d_KReader_define_153 : decode b_KReader_define 153 = .ok (.getfield 132, 3) := by decide +kernel
theorem d_KReader_define_156 : decode b_KReader_define 156 = .ok (.iload 8, 2) := by decide +kernel
theorem d_KReader_define_158 : decode b_KReader_define 158 = .ok (.iload_n 3, 1) := by decide +kernel
theorem d_KReader_define_159 : decode b_KReader_define 159 = .ok (.iastore, 1) := by decide +kernel
theorem d_KReader_define_160 : decode b_KReader_define 160 = .ok (.aload_n 0, 1) := by decide +kernel
theorem d_KReader_define_161 : decode b_KReader_define 161 = .ok (.getfield 135, 3) := by decide +kernel
theorem d_KReader_define_164 : decode b_KReader_define 164 = .ok (.iload 8, 2) := by decide +kernel
theorem d_KReader_define_166 : decode b_KReader_define 166 = .ok (.aload_n 0, 1) := by decide +kernel
theorem d_KReader_define_167 : decode b_KReader_define 167 = .ok (.getfield 218, 3) := by decide +kernel
theorem d_KReader_define_170 : decode b_KReader_define 170 = .ok (.iload_n 3, 1) := by decide +kernel
theorem d_KReader_define_171 : decode b_KReader_define 171 = .ok (.isub, 1) := by decide +kernel
theorem d_KReader_define_172 : decode b_KReader_define 172 = .ok (.iastore, 1) := by decide +kernel
theorem d_KReader_define_173 : decode b_KReader_define 173 = .ok (.iload 5, 2) := by decide +kernel
theorem d_KReader_define_175 : decode b_KReader_define 175 = .ok (.iconst 3, 1) := by decide +kernel
theorem d_KReader_define_176 : decode b_KReader_define 176 = .ok (.if_icmp .eq 9, 3) := by decide +kernel
theorem d_KReader_define_179 : decode b_KReader_define 179 = .ok (.iload 5, 2) := by decide +kernel
theorem d_KReader_define_181 : decode b_KReader_define 181 = .ok (.iconst 4, 1) := by decide +kernel
theorem d_KReader_define_182 : decode b_KReader_define 182 = .ok (.if_icmp .ne 7, 3) := by decide +kernel
theorem d_KReader_define_185 : decode b_KReader_define 185 = .ok (.iconst 1, 1) := by decide +kernel
theorem d_KReader_define_186 : decode b_KReader_define 186 = .ok (.goto 4, 3) := by decide +kernel
theorem d_KReader_define_189 : decode b_KReader_define 189 = .ok (.iconst 0, 1) := by decide +kernel
theorem d_KReader_define_190 : decode b_KReader_define 190 = .ok (.istore 9, 2) := by decide +kernel
theorem d_KReader_define_192 : decode b_KReader_define 192 = .ok (.aload_n 0, 1) := by decide +kernel
theorem d_KReader_define_193 : decode b_KReader_define 193 = .ok (.getfield 150, 3) := by decide +kernel
theorem d_KReader_define_196 : decode b_KReader_define 196 = .ok (.getfield 561, 3) := by decide +kernel
theorem d_KReader_define_199 : decode b_KReader_define 199 = .ok (.bipush 13, 2) := by decide +kernel
theorem d_KReader_define_201 : decode b_KReader_define 201 = .ok (.dup2, 1) := by decide +kernel
theorem d_KReader_define_202 : decode b_KReader_define 202 = .ok (.iaload, 1) := by decide +kernel
theorem d_KReader_define_203 : decode b_KReader_define 203 = .ok (.iload 4, 2) := by decide +kernel
theorem d_KReader_define_205 : decode b_KReader_define 205 = .ok (.iconst 1, 1) := by decide +kernel
theorem d_KReader_define_206 : decode b_KReader_define 206 = .ok (.if_icmp .ne 18, 3) := by decide +kernel
theorem d_KReader_define_209 : decode b_KReader_define 209 = .ok (.aload_n 0, 1) := by decide +kernel
theorem d_KReader_define_210 : decode b_KReader_define 210 = .ok (.iload_n 1, 1) := by decide +kernel
theorem d_KReader_define_211 : decode b_KReader_define 211 = .ok (.iload 8, 2) := by decide +kernel
theorem d_KReader_define_213 : decode b_KReader_define 213 = .ok (.iconst 1, 1) := by decide +kernel
theorem d_KReader_define_214 : decode b_KReader_define 214 = .ok (.invokevirtual 679, 3) := by decide +kernel
theorem d_KReader_define_217 : decode b_KReader_define 217 = .ok (.ifCond .eq 7, 3) := by decide +kernel
theorem d_KReader_define_220 : decode b_KReader_define 220 = .ok (.iconst 1, 1) := by decide +kernel
theorem d_KReader_define_221 : decode b_KReader_define 221 = .ok (.goto 4, 3) := by decide +kernel
theorem d_KReader_define_224 : decode b_KReader_define 224 = .ok (.iconst 0, 1) := by decide +kernel
theorem d_KReader_define_225 : decode b_KReader_define 225 = .ok (.iadd, 1) := by decide +kernel
theorem d_KReader_define_226 : decode b_KReader_define 226 = .ok (.iastore, 1) := by decide +kernel
theorem d_KReader_define_227 : decode b_KReader_define 227 = .ok (.aload_n 0, 1) := by decide +kernel
theorem d_KReader_define_228 : decode b_KReader_define 228 = .ok (.getfield 150, 3) := by decide +kernel
theorem d_KReader_define_231 : decode b_KReader_define 231 = .ok (.getfield 561, 3) := by decide +kernel
theorem d_KReader_define_234 : decode b_KReader_define 234 = .ok (.bipush 14, 2) := by decide +kernel
theorem d_KReader_define_236 : decode b_KReader_define 236 = .ok (.dup2, 1) := by decide +kernel
theorem d_KReader_define_237 : decode b_KReader_define 237 = .ok (.iaload, 1) := by decide +kernel
theorem d_KReader_define_238 : decode b_KReader_define 238 = .ok (.iload 4, 2) := by decide +kernel
theorem d_KReader_define_240 : decode b_KReader_define 240 = .ok (.iconst 1, 1) := by decide +kernel
theorem d_KReader_define_241 : decode b_KReader_define 241 = .ok (.if_icmp .ne 12, 3) := by decide +kernel
theorem d_KReader_define_244 : decode b_KReader_define 244 = .ok (.iload 9, 2) := by decide +kernel
theorem d_KReader_define_246 : decode b_KReader_define 246 = .ok (.ifCond .eq 7, 3) := by decide +kernel
theorem d_KReader_define_249 : decode b_KReader_define 249 = .ok (.iconst 1, 1) := by decide +kernel
theorem d_KReader_define_250 : decode b_KReader_define 250 = .ok (.goto 4, 3) := by decide +kernel
theorem d_KReader_define_253 : decode b_KReader_define 253 = .ok (.iconst 0, 1) := by decide +kernel
theorem d_KReader_define_254 : decode b_KReader_define 254 = .ok (.iadd, 1) := by decide +kernel
theorem d_KReader_define_255 : decode b_KReader_define 255 = .ok (.iastore, 1) := by decide +kernel
theorem d_KReader_define_256 : decode b_KReader_define 256 = .ok (.aload_n 0, 1) := by decide +kernel
theorem d_KReader_define_257 : decode b_KReader_define 257 = .ok (.getfield 150, 3) := by decide +kernel
theorem d_KReader_define_260 : decode b_KReader_define 260 = .ok (.getfield 561, 3) := by decide +kernel
theorem d_KReader_define_263 : decode b_KReader_define 263 = .ok (.bipush 17, 2) := by decide +kernel
theorem d_KReader_define_265 : decode b_KReader_define 265 = .ok (.dup2, 1) := by decide +kernel
theorem d_KReader_define_266 : decode b_KReader_define 266 = .ok (.iaload, 1) := by decide +kernel
theorem d_KReader_define_267 : decode b_KReader_define 267 = .ok (.iload 4, 2) := by decide +kernel
theorem d_KReader_define_269 : decode b_KReader_define 269 = .ok (.bipush 8, 2) := by decide +kernel
theorem d_KReader_define_271 : decode b_KReader_define 271 = .ok (.if_icmp .ne 19, 3) := by decide +kernel
theorem d_KReader_define_274 : decode b_KReader_define 274 = .ok (.aload_n 0, 1) := by decide +kernel
theorem d_KReader_define_275 : decode b_KReader_define 275 = .ok (.iload_n 1, 1) := by decide +kernel
theorem d_KReader_define_276 : decode b_KReader_define 276 = .ok (.iload 8, 2) := by decide +kernel
theorem d_KReader_define_278 : decode b_KReader_define 278 = .ok (.bipush 8, 2) := by decide +kernel
theorem d_KReader_define_280 : decode b_KReader_define 280 = .ok (.invokevirtual 679, 3) := by decide +kernel
theorem d_KReader_define_283 : decode b_KReader_define 283 = .ok (.ifCond .eq 7, 3) := by decide +kernel
theorem d_KReader_define_286 : decode b_KReader_define 286 = .ok (.iconst 1, 1) := by decide +kernel
theorem d_KReader_define_287 : decode b_KReader_define 287 = .ok (.goto 4, 3) := by decide +kernel
theorem d_KReader_define_290 : decode b_KReader_define 290 = .ok (.iconst 0, 1) := by decide +kernel
theorem d_KReader_define_291 : decode b_KReader_define 291 = .ok (.iadd, 1) := by decide +kernel
theorem d_KReader_define_292 : decode b_KReader_define 292 = .ok (.iastore, 1) := by decide +kernel
theorem d_KReader_define_293 : decode b_KReader_define 293 = .ok (.aload_n 0, 1) := by decide +kernel
theorem d_KReader_define_294 : decode b_KReader_define 294 = .ok (.getfield 150, 3) := by decide +kernel
theorem d_KReader_define_297 : decode b_KReader_define 297 = .ok (.getfield 561, 3) := by decide +kernel
theorem d_KReader_define_300 : decode b_KReader_define 300 = .ok (.bipush 19, 2) := by decide +kernel
theorem d_KReader_define_302 : decode b_KReader_define 302 = .ok (.dup2, 1) := by decide +kernel
theorem d_KReader_define_303 : decode b_KReader_define 303 = .ok (.iaload, 1) := by decide +kernel
theorem d_KReader_define_304 : decode b_KReader_define 304 = .ok (.aload_n 0, 1) := by decide +kernel
theorem d_KReader_define_305 : decode b_KReader_define 305 = .ok (.iload_n 3, 1) := by decide +kernel
theorem d_KReader_define_306 : decode b_KReader_define 306 = .ok (.aload_n 0, 1) := by decide +kernel
theorem d_KReader_define_307 : decode b_KReader_define 307 = .ok (.getfield 218, 3) := by decide +kernel
theorem d_KReader_define_310 : decode b_KReader_define 310 = .ok (.iload_n 3, 1) := by decide +kernel
theorem d_KReader_define_311 : decode b_KReader_define 311 = .ok (.isub, 1) := by decide +kernel
theorem d_KReader_define_312 : decode b_KReader_define 312 = .ok (.invokevirtual 564, 3) := by decide +kernel
theorem d_KReader_define_315 : decode b_KReader_define 315 = .ok (.iadd, 1) := by decide +kernel
theorem d_KReader_define_316 : decode b_KReader_define 316 = .ok (.iastore, 1) := by decide +kernel
theorem d_KReader_define_317 : decode b_KReader_define 317 = .ok (.aload_n 0, 1) := by decide +kernel
theorem d_KReader_define_318 : decode b_KReader_define 318 = .ok (.getfield 150, 3) := by decide +kernel
theorem d_KReader_define_321 : decode b_KReader_define 321 = .ok (.getfield 561, 3) := by decide +kernel
theorem d_KReader_define_324 : decode b_KReader_define 324 = .ok (.bipush 15, 2) := by decide +kernel
theorem d_KReader_define_326 : decode b_KReader_define 326 = .ok (.dup2, 1) := by decide +kernel
theorem d_KReader_define_327 : decode b_KReader_define 327 = .ok (.iaload, 1) := by decide +kernel
theorem d_KReader_define_328 : decode b_KReader_define 328 = .ok (.iload 9, 2) := by decide +kernel
theorem d_KReader_define_330 : decode b_KReader_define 330 = .ok (.ifCond .eq 20, 3) := by decide +kernel
theorem d_KReader_define_333 : decode b_KReader_define 333 = .ok (.aload_n 0, 1) := by decide +kernel
theorem d_KReader_define_334 : decode b_KReader_define 334 = .ok (.iload 8, 2) := by decide +kernel
theorem d_KReader_define_336 : decode b_KReader_define 336 = .ok (.iload 6, 2) := by decide +kernel
theorem d_KReader_define_338 : decode b_KReader_define 338 = .ok (.iload 7, 2) := by decide +kernel
theorem d_KReader_define_340 : decode b_KReader_define 340 = .ok (.invokevirtual 682, 3) := by decide +kernel
theorem d_KReader_define_343 : decode b_KReader_define 343 = .ok (.ifCond .ne 7, 3) := by decide +kernel
theorem d_KReader_define_346 : decode b_KReader_define 346 = .ok (.iconst 1, 1) := by decide +kernel
theorem d_KReader_define_347 : decode b_KReader_define 347 = .ok (.goto 4, 3) := by decide +kernel
theorem d_KReader_define_350 : decode b_KReader_define 350 = .ok (.iconst 0, 1) := by decide +kernel
theorem d_KReader_define_351 : decode b_KReader_define 351 = .ok (.iadd, 1) := by decide +kernel
theorem d_KReader_define_352 : decode b_KReader_define 352 = .ok (.iastore, 1) := by decide +kernel
theorem d_KReader_define_353 : decode b_KReader_define 353 = .ok (.return_, 1) := by decide +kernel
/-- KReader_define -/
def w_KReader_define (L : Nat → Nat) (a1 : Int) (a2 : Int) (Q : IS → Prop) (σ : IS) : Prop := dyD (σ.1 16 2) ∧ WJ (fun (s4 : Int) (σ5 : IS) => w_KReader_attributeOf L a1 a2 (fun v7 σ6 => if v7 < 0 then inR ((σ6.1 16 56) + 1) ∧ inL L 199 (σ6.1 16 56) ∧ inL L 200 (σ6.1 16 56) ∧ inL L 201 (σ6.1 16 56) ∧ inL L 202 (σ6.1 16 56) ∧ inL L 203 (σ6.1 16 56) ∧ inL L 204 (σ6.1 16 56) ∧ inL L 205 (σ6.1 16 56) ∧ inR ((σ6.1 16 58) - (σ.1 16 79)) ∧ inL L 206 (σ6.1 16 56) ∧ dyD (σ6.1 16 2) ∧ inL L (rfo (Int.toNat (σ6.1 16 2)) 18) 13 ∧ WJ (fun (s12 : Int) (σ13 : IS) => inR (((pr (pr (pr (pr (pr (pr (pr (pr (pf σ6 16 56 ((σ6.1 16 56) + 1)) 199 (Int.toNat (σ6.1 16 56)) a1) 200 (Int.toNat (σ6.1 16 56)) a2) 201 (Int.toNat (σ6.1 16 56)) (nb (σ.1 16 78))) 202 (Int.toNat (σ6.1 16 56)) (nb (σ.1 16 81))) 203 (Int.toNat (σ6.1 16 56)) (σ.1 (Int.toNat (σ.1 16 2)) 2)) 204 (Int.toNat (σ6.1 16 56)) s4) 205 (Int.toNat (σ6.1 16 56)) (σ.1 16 79)) 206 (Int.toNat (σ6.1 16 56)) ((σ6.1 16 58) - (σ.1 16 79))).2 (rfo (Int.toNat (σ6.1 16 2)) 18) (Int.toNat 13)) + s12) ∧ inL L (rfo (Int.toNat (σ6.1 16 2)) 18) 13 ∧ dyD (σ13.1 16 2) ∧ inL L (rfo (Int.toNat (σ13.1 16 2)) 18) 14 ∧ inR (((pr σ13 (rfo (Int.toNat (σ6.1 16 2)) 18) (Int.toNat 13) (((pr (pr (pr (pr (pr (pr (pr (pr (pf σ6 16 56 ((σ6.1 16 56) + 1)) 199 (Int.toNat (σ6.1 16 56)) a1) 200 (Int.toNat (σ6.1 16 56)) a2) 201 (Int.toNat (σ6.1 16 56)) (nb (σ.1 16 78))) 202 (Int.toNat (σ6.1 16 56)) (nb (σ.1 16 81))) 203 (Int.toNat (σ6.1 16 56)) (σ.1 (Int.toNat (σ.1 16 2)) 2)) 204 (Int.toNat (σ6.1 16 56)) s4) 205 (Int.toNat (σ6.1 16 56)) (σ.1 16 79)) 206 (Int.toNat (σ6.1 16 56)) ((σ6.1 16 58) - (σ.1 16 79))).2 (rfo (Int.toNat (σ6.1 16 2)) 18) (Int.toNat 13)) + s12)).2 (rfo (Int.toNat (σ13.1 16 2)) 18) (Int.toNat 14)) + (if (σ.1 16 78) = 1 then (if (if (σ.1 16 81) = 3 then (1 : Int) else (if (σ.1 16 81) = 4 then (1 : Int) else (0 : Int))) = 0 then (0 : Int) else (1 : Int)) else (0 : Int))) ∧ inL L (rfo (Int.toNat (σ13.1 16 2)) 18) 14 ∧ LETH (pr (pr σ13 (rfo (Int.toNat (σ6.1 16 2)) 18) (Int.toNat 13) (((pr (pr (pr (pr (pr (pr (pr (pr (pf σ6 16 56 ((σ6.1 16 56) + 1)) 199 (Int.toNat (σ6.1 16 56)) a1) 200 (Int.toNat (σ6.1 16 56)) a2) 201 (Int.toNat (σ6.1 16 56)) (nb (σ.1 16 78))) 202 (Int.toNat (σ6.1 16 56)) (nb (σ.1 16 81))) 203 (Int.toNat (σ6.1 16 56)) (σ.1 (Int.toNat (σ.1 16 2)) 2)) 204 (Int.toNat (σ6.1 16 56)) s4) 205 (Int.toNat (σ6.1 16 56)) (σ.1 16 79)) 206 (Int.toNat (σ6.1 16 56)) ((σ6.1 16 58) - (σ.1 16 79))).2 (rfo (Int.toNat (σ6.1 16 2)) 18) (Int.toNat 13)) + s12)) (rfo (Int.toNat (σ13.1 16 2)) 18) (Int.toNat 14) (((pr σ13 (rfo (Int.toNat (σ6.1 16 2)) 18) (Int.toNat 13) (((pr (pr (pr (pr (pr (pr (pr (pr (pf σ6 16 56 ((σ6.1 16 56) + 1)) 199 (Int.toNat (σ6.1 16 56)) a1) 200 (Int.toNat (σ6.1 16 56)) a2) 201 (Int.toNat (σ6.1 16 56)) (nb (σ.1 16 78))) 202 (Int.toNat (σ6.1 16 56)) (nb (σ.1 16 81))) 203 (Int.toNat (σ6.1 16 56)) (σ.1 (Int.toNat (σ.1 16 2)) 2)) 204 (Int.toNat (σ6.1 16 56)) s4) 205 (Int.toNat (σ6.1 16 56)) (σ.1 16 79)) 206 (Int.toNat (σ6.1 16 56)) ((σ6.1 16 58) - (σ.1 16 79))).2 (rfo (Int.toNat (σ6.1 16 2)) 18) (Int.toNat 13)) + s12)).2 (rfo (Int.toNat (σ13.1 16 2)) 18) (Int.toNat 14)) + (if (σ.1 16 78) = 1 then (if (if (σ.1 16 81) = 3 then (1 : Int) else (if (σ.1 16 81) = 4 then (1 : Int) else (0 : Int))) = 0 then (0 : Int) else (1 : Int)) else (0 : Int)))) (fun σ15 => dyD (σ15.1 16 2) ∧ inL L (rfo (Int.toNat (σ15.1 16 2)) 18) 17 ∧ WJ (fun (s19 : Int) (σ20 : IS) => inR ((σ15.2 (rfo (Int.toNat (σ15.1 16 2)) 18) (Int.toNat 17)) + s19) ∧ inL L (rfo (Int.toNat (σ15.1 16 2)) 18) 17 ∧ dyD (σ20.1 16 2) ∧ inL L (rfo (Int.toNat (σ20.1 16 2)) 18) 19 ∧ inR ((σ20.1 16 58) - (σ.1 16 79)) ∧ w_KReader_doubles L (σ.1 16 79) ((σ20.1 16 58) - (σ.1 16 79)) (fun v23 σ22 => inR (((pr σ20 (rfo (Int.toNat (σ15.1 16 2)) 18) (Int.toNat 17) ((σ15.2 (rfo (Int.toNat (σ15.1 16 2)) 18) (Int.toNat 17)) + s19)).2 (rfo (Int.toNat (σ20.1 16 2)) 18) (Int.toNat 19)) + v23) ∧ inL L (rfo (Int.toNat (σ20.1 16 2)) 18) 19 ∧ dyD (σ22.1 16 2) ∧ inL L (rfo (Int.toNat (σ22.1 16 2)) 18) 15 ∧ WJ (fun (s27 : Int) (σ28 : IS) => inR (((pr σ22 (rfo (Int.toNat (σ20.1 16 2)) 18) (Int.toNat 19) (((pr σ20 (rfo (Int.toNat (σ15.1 16 2)) 18) (Int.toNat 17) ((σ15.2 (rfo (Int.toNat (σ15.1 16 2)) 18) (Int.toNat 17)) + s19)).2 (rfo (Int.toNat (σ20.1 16 2)) 18) (Int.toNat 19)) + v23)).2 (rfo (Int.toNat (σ22.1 16 2)) 18) (Int.toNat 15)) + s27) ∧ inL L (rfo (Int.toNat (σ22.1 16 2)) 18) 15 ∧ Q (pr σ28 (rfo (Int.toNat (σ22.1 16 2)) 18) (Int.toNat 15) (((pr σ22 (rfo (Int.toNat (σ20.1 16 2)) 18) (Int.toNat 19) (((pr σ20 (rfo (Int.toNat (σ15.1 16 2)) 18) (Int.toNat 17) ((σ15.2 (rfo (Int.toNat (σ15.1 16 2)) 18) (Int.toNat 17)) + s19)).2 (rfo (Int.toNat (σ20.1 16 2)) 18) (Int.toNat 19)) + v23)).2 (rfo (Int.toNat (σ22.1 16 2)) 18) (Int.toNat 15)) + s27))) (fun J25 => WJ (fun (s33 : Unit) (σ34 : IS) => J25 0 σ34) (fun J31 => if (if (σ.1 16 81) = 3 then (1 : Int) else (if (σ.1 16 81) = 4 then (1 : Int) else (0 : Int))) = 0 then J31 () (pr σ22 (rfo (Int.toNat (σ20.1 16 2)) 18) (Int.toNat 19) (((pr σ20 (rfo (Int.toNat (σ15.1 16 2)) 18) (Int.toNat 17) ((σ15.2 (rfo (Int.toNat (σ15.1 16 2)) 18) (Int.toNat 17)) + s19)).2 (rfo (Int.toNat (σ20.1 16 2)) 18) (Int.toNat 19)) + v23)) else w_KReader_isWanted L (σ6.1 16 56) (σ.1 (Int.toNat (σ.1 16 2)) 2) s4 (fun v37 σ36 => if v37 = 0 then J25 1 σ36 else J31 () σ36) (pr σ22 (rfo (Int.toNat (σ20.1 16 2)) 18) (Int.toNat 19) (((pr σ20 (rfo (Int.toNat (σ15.1 16 2)) 18) (Int.toNat 17) ((σ15.2 (rfo (Int.toNat (σ15.1 16 2)) 18) (Int.toNat 17)) + s19)).2 (rfo (Int.toNat (σ20.1 16 2)) 18) (Int.toNat 19)) + v23))))) (pr σ20 (rfo (Int.toNat (σ15.1 16 2)) 18) (Int.toNat 17) ((σ15.2 (rfo (Int.toNat (σ15.1 16 2)) 18) (Int.toNat 17)) + s19))) (fun J17 => WJ (fun (s48 : Unit) (σ49 : IS) => J17 0 σ49) (fun J46 => if (σ.1 16 78) = 8 then w_KReader_hasType L a1 (σ6.1 16 56) 8 (fun v52 σ51 => if v52 = 0 then J46 () σ51 else J17 1 σ51) σ15 else J46 () σ15)))) (fun J10 => WJ (fun (s69 : Unit) (σ70 : IS) => J10 0 σ70) (fun J67 => if (σ.1 16 78) = 1 then w_KReader_hasType L a1 (σ6.1 16 56) 1 (fun v73 σ72 => if v73 = 0 then J67 () σ72 else J10 1 σ72) (pr (pr (pr (pr (pr (pr (pr (pr (pf σ6 16 56 ((σ6.1 16 56) + 1)) 199 (Int.toNat (σ6.1 16 56)) a1) 200 (Int.toNat (σ6.1 16 56)) a2) 201 (Int.toNat (σ6.1 16 56)) (nb (σ.1 16 78))) 202 (Int.toNat (σ6.1 16 56)) (nb (σ.1 16 81))) 203 (Int.toNat (σ6.1 16 56)) (σ.1 (Int.toNat (σ.1 16 2)) 2)) 204 (Int.toNat (σ6.1 16 56)) s4) 205 (Int.toNat (σ6.1 16 56)) (σ.1 16 79)) 206 (Int.toNat (σ6.1 16 56)) ((σ6.1 16 58) - (σ.1 16 79))) else J67 () (pr (pr (pr (pr (pr (pr (pr (pr (pf σ6 16 56 ((σ6.1 16 56) + 1)) 199 (Int.toNat (σ6.1 16 56)) a1) 200 (Int.toNat (σ6.1 16 56)) a2) 201 (Int.toNat (σ6.1 16 56)) (nb (σ.1 16 78))) 202 (Int.toNat (σ6.1 16 56)) (nb (σ.1 16 81))) 203 (Int.toNat (σ6.1 16 56)) (σ.1 (Int.toNat (σ.1 16 2)) 2)) 204 (Int.toNat (σ6.1 16 56)) s4) 205 (Int.toNat (σ6.1 16 56)) (σ.1 16 79)) 206 (Int.toNat (σ6.1 16 56)) ((σ6.1 16 58) - (σ.1 16 79))))) else dyD (σ6.1 16 2) ∧ Q (pf (pf σ6 16 58 (σ.1 16 79)) (Int.toNat (σ6.1 16 2)) 2 (σ.1 (Int.toNat (σ.1 16 2)) 2))) σ5) (fun J2 => if (σ.1 16 82) < 0 then J2 0 σ else w_KReader_find L (σ.1 16 82) (fun v96 σ95 => if v96 = 0 then Q σ95 else w_KReader_normalise L (σ.1 (Int.toNat (σ.1 16 2)) 2) (σ.1 16 78) (fun v99 σ98 => J2 v99 σ98) σ95) σ)
set_option maxHeartbeats 4000000 in
set_option maxRecDepth 20000 in
theorem s_KReader_define {L : Nat → Nat} (hL : ∀ r, L r < 2147483648) {d : Nat} (hd : 8 ≤ d) {a1 : Int} {a2 : Int} {Q : IS → Prop} {σ : IS}  (h : w_KReader_define L a1 a2 Q σ) : OkI BF L d 15 b_KReader_define 10 0 0 [] [some (.inr 16), some (.inl a1), some (.inl a2)] σ (qv Q) := by
  unfold w_KReader_define at h
  obtain ⟨d, rfl⟩ : ∃ e, d = e + 1 := ⟨d - 1, by omega⟩
  refine k_sb (lv' := [some (.inr 16), some (.inl a1), some (.inl a2), none, none, none, none, none, none, none]) (sb_s (sb_s (sb_s (sb_e (sb_e (sb_e (sb_e (sb_e (sb_e (sb_e sb_nil)))))))))) ?_
  refine k_aload_n d_KReader_define_0 rfl ?_
  refine k_getI (x := (σ.1 16 79)) d_KReader_define_1 fl_15_613 ob_16 rfl rfl ?_
  refine k_istore_n (lv' := [some (.inr 16), some (.inl a1), some (.inl a2), some (.inl (σ.1 16 79)), none, none, none, none, none, none]) d_KReader_define_4 rfl rfl ?_
  refine k_aload_n d_KReader_define_5 rfl ?_
  refine k_getI (x := (σ.1 16 78)) d_KReader_define_6 fl_15_616 ob_16 rfl rfl ?_
  refine k_istore (lv' := [some (.inr 16), some (.inl a1), some (.inl a2), some (.inl (σ.1 16 79)), some (.inl (σ.1 16 78)), none, none, none, none, none]) d_KReader_define_9 rfl rfl ?_
  refine k_aload_n d_KReader_define_11 rfl ?_
  refine k_getI (x := (σ.1 16 81)) d_KReader_define_12 fl_15_649 ob_16 rfl rfl ?_
  refine k_istore (lv' := [some (.inr 16), some (.inl a1), some (.inl a2), some (.inl (σ.1 16 79)), some (.inl (σ.1 16 78)), some (.inl (σ.1 16 81)), none, none, none, none]) d_KReader_define_15 rfl rfl ?_
  refine k_aload_n d_KReader_define_17 rfl ?_
  obtain ⟨y1, h⟩ := h
  refine k_getD (x := (σ.1 16 2)) d_KReader_define_18 fl_15_150 ob_16 rfl rfl (dyD_pos y1) ?_
  refine k_getI (x := (σ.1 (Int.toNat (σ.1 16 2)) 2)) d_KReader_define_21 fl_15_489 (doc_ob (dyD_doc y1)) (dfi_2 (dyD_doc y1)) rfl ?_
  refine k_istore (lv' := [some (.inr 16), some (.inl a1), some (.inl a2), some (.inl (σ.1 16 79)), some (.inl (σ.1 16 78)), some (.inl (σ.1 16 81)), some (.inl (σ.1 (Int.toNat (σ.1 16 2)) 2)), none, none, none]) d_KReader_define_24 rfl rfl ?_
  refine k_iconst d_KReader_define_26 cI_0 ?_
  refine k_istore (lv' := [some (.inr 16), some (.inl a1), some (.inl a2), some (.inl (σ.1 16 79)), some (.inl (σ.1 16 78)), some (.inl (σ.1 16 81)), some (.inl (σ.1 (Int.toNat (σ.1 16 2)) 2)), some (.inl 0), none, none]) d_KReader_define_27 rfl rfl ?_
  refine k_aload_n d_KReader_define_29 rfl ?_
  refine k_getI (x := (σ.1 16 82)) d_KReader_define_30 fl_15_644 ob_16 rfl rfl ?_
  refine k_join (S := Int) (pc' := 58) (st' := fun s4 => []) (lv' := fun s4 => [some (.inr 16), some (.inl a1), some (.inl a2), some (.inl (σ.1 16 79)), some (.inl (σ.1 16 78)), some (.inl (σ.1 16 81)), some (.inl (σ.1 (Int.toNat (σ.1 16 2)) 2)), some (.inl s4), none, none]) (fun s4 σ5 h => ?_) (fun J2 hJ3 h => ?_) h
  · refine k_aload_n d_KReader_define_58 rfl ?_
    refine k_iload_n d_KReader_define_59 rfl ?_
    refine k_iload_n d_KReader_define_60 rfl ?_
    refine k_cvi [.inl a1, .inl a2] d_KReader_define_61 ml_15_676 rfl rfl ob_16 rfl (s_KReader_attributeOf hL (by omega)  h) (fun v7 σ6 h => ?_)
    refine k_iflt d_KReader_define_64 rfl (fun c8 => ?_) (fun c8 => ?_)
    · have h := ipos c8 h
      refine k_aload_n d_KReader_define_82 rfl ?_
      refine k_getI (x := (σ6.1 16 56)) d_KReader_define_83 fl_15_215 ob_16 rfl rfl ?_
      refine k_istore (lv' := [some (.inr 16), some (.inl a1), some (.inl a2), some (.inl (σ.1 16 79)), some (.inl (σ.1 16 78)), some (.inl (σ.1 16 81)), some (.inl (σ.1 (Int.toNat (σ.1 16 2)) 2)), some (.inl s4), some (.inl (σ6.1 16 56)), none]) d_KReader_define_86 rfl rfl ?_
      refine k_aload_n d_KReader_define_88 rfl ?_
      refine k_dup d_KReader_define_89 ?_
      refine k_getI (x := (σ6.1 16 56)) d_KReader_define_90 fl_15_215 ob_16 rfl rfl ?_
      refine k_iconst d_KReader_define_93 cI_1 ?_
      obtain ⟨p92, h⟩ := h
      refine k_iadd d_KReader_define_94 p92 ?_
      refine k_putI d_KReader_define_95 fl_15_215 ob_16 rfl ?_
      refine k_aload_n d_KReader_define_98 rfl ?_
      refine k_getR d_KReader_define_99 fl_15_114 ob_16 rfl ?_
      refine k_iload d_KReader_define_102 rfl ?_
      refine k_iload_n d_KReader_define_104 rfl ?_
      obtain ⟨p91, h⟩ := h
      refine k_ist d_KReader_define_105 rI_199 p91 ?_
      refine k_aload_n d_KReader_define_106 rfl ?_
      refine k_getR d_KReader_define_107 fl_15_117 ob_16 rfl ?_
      refine k_iload d_KReader_define_110 rfl ?_
      refine k_iload_n d_KReader_define_112 rfl ?_
      obtain ⟨p90, h⟩ := h
      refine k_ist d_KReader_define_113 rI_200 p90 ?_
      refine k_aload_n d_KReader_define_114 rfl ?_
      refine k_getR d_KReader_define_115 fl_15_120 ob_16 rfl ?_
      refine k_iload d_KReader_define_118 rfl ?_
      refine k_iload d_KReader_define_120 rfl ?_
      refine k_i2b d_KReader_define_122 ?_
      obtain ⟨p89, h⟩ := h
      refine k_bst d_KReader_define_123 rb_201 p89 (nb_in _) ?_
      refine k_aload_n d_KReader_define_124 rfl ?_
      refine k_getR d_KReader_define_125 fl_15_123 ob_16 rfl ?_
      refine k_iload d_KReader_define_128 rfl ?_
      refine k_iload d_KReader_define_130 rfl ?_
      refine k_i2b d_KReader_define_132 ?_
      obtain ⟨p88, h⟩ := h
      refine k_bst d_KReader_define_133 rb_202 p88 (nb_in _) ?_
      refine k_aload_n d_KReader_define_134 rfl ?_
      refine k_getR d_KReader_define_135 fl_15_126 ob_16 rfl ?_
      refine k_iload d_KReader_define_138 rfl ?_
      refine k_iload d_KReader_define_140 rfl ?_
      obtain ⟨p87, h⟩ := h
      refine k_ist d_KReader_define_142 rI_203 p87 ?_
      refine k_aload_n d_KReader_define_143 rfl ?_
      refine k_getR d_KReader_define_144 fl_15_129 ob_16 rfl ?_
      refine k_iload d_KReader_define_147 rfl ?_
      refine k_iload d_KReader_define_149 rfl ?_
      obtain ⟨p86, h⟩ := h
      refine k_ist d_KReader_define_151 rI_204 p86 ?_
      refine k_aload_n d_KReader_define_152 rfl ?_
      refine k_getR d_KReader_define_153 fl_15_132 ob_16 rfl ?_
      refine k_iload d_KReader_define_156 rfl ?_
      refine k_iload_n d_KReader_define_158 rfl ?_
      obtain ⟨p85, h⟩ := h
      refine k_ist d_KReader_define_159 rI_205 p85 ?_
      refine k_aload_n d_KReader_define_160 rfl ?_
      refine k_getR d_KReader_define_161 fl_15_135 ob_16 rfl ?_
      refine k_iload d_KReader_define_164 rfl ?_
      refine k_aload_n d_KReader_define_166 rfl ?_
      refine k_getI (x := (σ6.1 16 58)) d_KReader_define_167 fl_15_218 ob_16 rfl rfl ?_
      refine k_iload_n d_KReader_define_170 rfl ?_
      obtain ⟨p84, h⟩ := h
      refine k_isub d_KReader_define_171 p84 ?_
      obtain ⟨p83, h⟩ := h
      refine k_ist d_KReader_define_172 rI_206 p83 ?_
      refine k_iload d_KReader_define_173 rfl ?_
      refine k_iconst d_KReader_define_175 cI_3 ?_
      have hV76 : OkI BF L (d + 1) 15 b_KReader_define 10 0 190 [.inl (if (σ.1 16 81) = 3 then (1 : Int) else (if (σ.1 16 81) = 4 then (1 : Int) else (0 : Int)))] [some (.inr 16), some (.inl a1), some (.inl a2), some (.inl (σ.1 16 79)), some (.inl (σ.1 16 78)), some (.inl (σ.1 16 81)), some (.inl (σ.1 (Int.toNat (σ.1 16 2)) 2)), some (.inl s4), some (.inl (σ6.1 16 56)), none] (pr (pr (pr (pr (pr (pr (pr (pr (pf σ6 16 56 ((σ6.1 16 56) + 1)) 199 (Int.toNat (σ6.1 16 56)) a1) 200 (Int.toNat (σ6.1 16 56)) a2) 201 (Int.toNat (σ6.1 16 56)) (nb (σ.1 16 78))) 202 (Int.toNat (σ6.1 16 56)) (nb (σ.1 16 81))) 203 (Int.toNat (σ6.1 16 56)) (σ.1 (Int.toNat (σ.1 16 2)) 2)) 204 (Int.toNat (σ6.1 16 56)) s4) 205 (Int.toNat (σ6.1 16 56)) (σ.1 16 79)) 206 (Int.toNat (σ6.1 16 56)) ((σ6.1 16 58) - (σ.1 16 79))) (qv Q) := by
        refine k_istore (lv' := [some (.inr 16), some (.inl a1), some (.inl a2), some (.inl (σ.1 16 79)), some (.inl (σ.1 16 78)), some (.inl (σ.1 16 81)), some (.inl (σ.1 (Int.toNat (σ.1 16 2)) 2)), some (.inl s4), some (.inl (σ6.1 16 56)), some (.inl (if (σ.1 16 81) = 3 then (1 : Int) else (if (σ.1 16 81) = 4 then (1 : Int) else (0 : Int))))]) d_KReader_define_190 rfl rfl ?_
        refine k_aload_n d_KReader_define_192 rfl ?_
        obtain ⟨y9, h⟩ := h
        refine k_getD (x := (σ6.1 16 2)) d_KReader_define_193 fl_15_150 ob_16 rfl rfl (dyD_pos y9) ?_
        refine k_getR d_KReader_define_196 fl_15_561 (doc_ob (dyD_doc y9)) (dfr_18 (dyD_doc y9)) ?_
        refine k_bipush d_KReader_define_199 cB_13 ?_
        refine k_dup2 d_KReader_define_201 ?_
        obtain ⟨p75, h⟩ := h
        refine k_ild (x := ((pr (pr (pr (pr (pr (pr (pr (pr (pf σ6 16 56 ((σ6.1 16 56) + 1)) 199 (Int.toNat (σ6.1 16 56)) a1) 200 (Int.toNat (σ6.1 16 56)) a2) 201 (Int.toNat (σ6.1 16 56)) (nb (σ.1 16 78))) 202 (Int.toNat (σ6.1 16 56)) (nb (σ.1 16 81))) 203 (Int.toNat (σ6.1 16 56)) (σ.1 (Int.toNat (σ.1 16 2)) 2)) 204 (Int.toNat (σ6.1 16 56)) s4) 205 (Int.toNat (σ6.1 16 56)) (σ.1 16 79)) 206 (Int.toNat (σ6.1 16 56)) ((σ6.1 16 58) - (σ.1 16 79))).2 (rfo (Int.toNat (σ6.1 16 2)) 18) (Int.toNat 13))) d_KReader_define_202 (drI_18 (dyD_doc y9)) p75 rfl ?_
        refine k_iload d_KReader_define_203 rfl ?_
        refine k_iconst d_KReader_define_205 cI_1 ?_
        refine k_join (S := Int) (pc' := 225) (st' := fun s12 => [.inl s12, .inl ((pr (pr (pr (pr (pr (pr (pr (pr (pf σ6 16 56 ((σ6.1 16 56) + 1)) 199 (Int.toNat (σ6.1 16 56)) a1) 200 (Int.toNat (σ6.1 16 56)) a2) 201 (Int.toNat (σ6.1 16 56)) (nb (σ.1 16 78))) 202 (Int.toNat (σ6.1 16 56)) (nb (σ.1 16 81))) 203 (Int.toNat (σ6.1 16 56)) (σ.1 (Int.toNat (σ.1 16 2)) 2)) 204 (Int.toNat (σ6.1 16 56)) s4) 205 (Int.toNat (σ6.1 16 56)) (σ.1 16 79)) 206 (Int.toNat (σ6.1 16 56)) ((σ6.1 16 58) - (σ.1 16 79))).2 (rfo (Int.toNat (σ6.1 16 2)) 18) (Int.toNat 13)), .inl 13, .inr (rfo (Int.toNat (σ6.1 16 2)) 18)]) (lv' := fun s12 => [some (.inr 16), some (.inl a1), none, some (.inl (σ.1 16 79)), some (.inl (σ.1 16 78)), none, some (.inl (σ.1 (Int.toNat (σ.1 16 2)) 2)), some (.inl s4), some (.inl (σ6.1 16 56)), some (.inl (if (σ.1 16 81) = 3 then (1 : Int) else (if (σ.1 16 81) = 4 then (1 : Int) else (0 : Int))))]) (fun s12 σ13 h => ?_) (fun J10 hJ11 h => ?_) h
        · obtain ⟨p66, h⟩ := h
          refine k_iadd d_KReader_define_225 p66 ?_
          obtain ⟨p65, h⟩ := h
          refine k_ist d_KReader_define_226 (drI_18 (dyD_doc y9)) p65 ?_
          refine k_aload_n d_KReader_define_227 rfl ?_
          obtain ⟨y14, h⟩ := h
          refine k_getD (x := (σ13.1 16 2)) d_KReader_define_228 fl_15_150 ob_16 rfl rfl (dyD_pos y14) ?_
          refine k_getR d_KReader_define_231 fl_15_561 (doc_ob (dyD_doc y14)) (dfr_18 (dyD_doc y14)) ?_
          refine k_bipush d_KReader_define_234 cB_14 ?_
          refine k_dup2 d_KReader_define_236 ?_
          obtain ⟨p64, h⟩ := h
          refine k_ild (x := ((pr σ13 (rfo (Int.toNat (σ6.1 16 2)) 18) (Int.toNat 13) (((pr (pr (pr (pr (pr (pr (pr (pr (pf σ6 16 56 ((σ6.1 16 56) + 1)) 199 (Int.toNat (σ6.1 16 56)) a1) 200 (Int.toNat (σ6.1 16 56)) a2) 201 (Int.toNat (σ6.1 16 56)) (nb (σ.1 16 78))) 202 (Int.toNat (σ6.1 16 56)) (nb (σ.1 16 81))) 203 (Int.toNat (σ6.1 16 56)) (σ.1 (Int.toNat (σ.1 16 2)) 2)) 204 (Int.toNat (σ6.1 16 56)) s4) 205 (Int.toNat (σ6.1 16 56)) (σ.1 16 79)) 206 (Int.toNat (σ6.1 16 56)) ((σ6.1 16 58) - (σ.1 16 79))).2 (rfo (Int.toNat (σ6.1 16 2)) 18) (Int.toNat 13)) + s12)).2 (rfo (Int.toNat (σ13.1 16 2)) 18) (Int.toNat 14))) d_KReader_define_237 (drI_18 (dyD_doc y14)) p64 rfl ?_
          refine k_iload d_KReader_define_238 rfl ?_
          refine k_iconst d_KReader_define_240 cI_1 ?_
          have hV57 : OkI BF L (d + 1) 15 b_KReader_define 10 0 254 [.inl (if (σ.1 16 78) = 1 then (if (if (σ.1 16 81) = 3 then (1 : Int) else (if (σ.1 16 81) = 4 then (1 : Int) else (0 : Int))) = 0 then (0 : Int) else (1 : Int)) else (0 : Int)), .inl ((pr σ13 (rfo (Int.toNat (σ6.1 16 2)) 18) (Int.toNat 13) (((pr (pr (pr (pr (pr (pr (pr (pr (pf σ6 16 56 ((σ6.1 16 56) + 1)) 199 (Int.toNat (σ6.1 16 56)) a1) 200 (Int.toNat (σ6.1 16 56)) a2) 201 (Int.toNat (σ6.1 16 56)) (nb (σ.1 16 78))) 202 (Int.toNat (σ6.1 16 56)) (nb (σ.1 16 81))) 203 (Int.toNat (σ6.1 16 56)) (σ.1 (Int.toNat (σ.1 16 2)) 2)) 204 (Int.toNat (σ6.1 16 56)) s4) 205 (Int.toNat (σ6.1 16 56)) (σ.1 16 79)) 206 (Int.toNat (σ6.1 16 56)) ((σ6.1 16 58) - (σ.1 16 79))).2 (rfo (Int.toNat (σ6.1 16 2)) 18) (Int.toNat 13)) + s12)).2 (rfo (Int.toNat (σ13.1 16 2)) 18) (Int.toNat 14)), .inl 14, .inr (rfo (Int.toNat (σ13.1 16 2)) 18)] [some (.inr 16), some (.inl a1), none, some (.inl (σ.1 16 79)), some (.inl (σ.1 16 78)), none, some (.inl (σ.1 (Int.toNat (σ.1 16 2)) 2)), some (.inl s4), some (.inl (σ6.1 16 56)), some (.inl (if (σ.1 16 81) = 3 then (1 : Int) else (if (σ.1 16 81) = 4 then (1 : Int) else (0 : Int))))] (pr σ13 (rfo (Int.toNat (σ6.1 16 2)) 18) (Int.toNat 13) (((pr (pr (pr (pr (pr (pr (pr (pr (pf σ6 16 56 ((σ6.1 16 56) + 1)) 199 (Int.toNat (σ6.1 16 56)) a1) 200 (Int.toNat (σ6.1 16 56)) a2) 201 (Int.toNat (σ6.1 16 56)) (nb (σ.1 16 78))) 202 (Int.toNat (σ6.1 16 56)) (nb (σ.1 16 81))) 203 (Int.toNat (σ6.1 16 56)) (σ.1 (Int.toNat (σ.1 16 2)) 2)) 204 (Int.toNat (σ6.1 16 56)) s4) 205 (Int.toNat (σ6.1 16 56)) (σ.1 16 79)) 206 (Int.toNat (σ6.1 16 56)) ((σ6.1 16 58) - (σ.1 16 79))).2 (rfo (Int.toNat (σ6.1 16 2)) 18) (Int.toNat 13)) + s12)) (qv Q) := by
            obtain ⟨p56, h⟩ := h
            refine k_iadd d_KReader_define_254 p56 ?_
            obtain ⟨p55, h⟩ := h
            refine k_ist d_KReader_define_255 (drI_18 (dyD_doc y14)) p55 ?_
            refine k_letH (fun σ15 _ h => ?_) h
            refine k_aload_n d_KReader_define_256 rfl ?_
            obtain ⟨y16, h⟩ := h
            refine k_getD (x := (σ15.1 16 2)) d_KReader_define_257 fl_15_150 ob_16 rfl rfl (dyD_pos y16) ?_
            refine k_getR d_KReader_define_260 fl_15_561 (doc_ob (dyD_doc y16)) (dfr_18 (dyD_doc y16)) ?_
            refine k_bipush d_KReader_define_263 cB_17 ?_
            refine k_dup2 d_KReader_define_265 ?_
            obtain ⟨p54, h⟩ := h
            refine k_ild (x := (σ15.2 (rfo (Int.toNat (σ15.1 16 2)) 18) (Int.toNat 17))) d_KReader_define_266 (drI_18 (dyD_doc y16)) p54 rfl ?_
            refine k_iload d_KReader_define_267 rfl ?_
            refine k_bipush d_KReader_define_269 cB_8 ?_
            refine k_join (S := Int) (pc' := 291) (st' := fun s19 => [.inl s19, .inl (σ15.2 (rfo (Int.toNat (σ15.1 16 2)) 18) (Int.toNat 17)), .inl 17, .inr (rfo (Int.toNat (σ15.1 16 2)) 18)]) (lv' := fun s19 => [some (.inr 16), none, none, some (.inl (σ.1 16 79)), none, none, some (.inl (σ.1 (Int.toNat (σ.1 16 2)) 2)), some (.inl s4), some (.inl (σ6.1 16 56)), some (.inl (if (σ.1 16 81) = 3 then (1 : Int) else (if (σ.1 16 81) = 4 then (1 : Int) else (0 : Int))))]) (fun s19 σ20 h => ?_) (fun J17 hJ18 h => ?_) h
            · obtain ⟨p45, h⟩ := h
              refine k_iadd d_KReader_define_291 p45 ?_
              obtain ⟨p44, h⟩ := h
              refine k_ist d_KReader_define_292 (drI_18 (dyD_doc y16)) p44 ?_
              refine k_aload_n d_KReader_define_293 rfl ?_
              obtain ⟨y21, h⟩ := h
              refine k_getD (x := (σ20.1 16 2)) d_KReader_define_294 fl_15_150 ob_16 rfl rfl (dyD_pos y21) ?_
              refine k_getR d_KReader_define_297 fl_15_561 (doc_ob (dyD_doc y21)) (dfr_18 (dyD_doc y21)) ?_
              refine k_bipush d_KReader_define_300 cB_19 ?_
              refine k_dup2 d_KReader_define_302 ?_
              obtain ⟨p43, h⟩ := h
              refine k_ild (x := ((pr σ20 (rfo (Int.toNat (σ15.1 16 2)) 18) (Int.toNat 17) ((σ15.2 (rfo (Int.toNat (σ15.1 16 2)) 18) (Int.toNat 17)) + s19)).2 (rfo (Int.toNat (σ20.1 16 2)) 18) (Int.toNat 19))) d_KReader_define_303 (drI_18 (dyD_doc y21)) p43 rfl ?_
              refine k_aload_n d_KReader_define_304 rfl ?_
              refine k_iload_n d_KReader_define_305 rfl ?_
              refine k_aload_n d_KReader_define_306 rfl ?_
              refine k_getI (x := (σ20.1 16 58)) d_KReader_define_307 fl_15_218 ob_16 rfl rfl ?_
              refine k_iload_n d_KReader_define_310 rfl ?_
              obtain ⟨p42, h⟩ := h
              refine k_isub d_KReader_define_311 p42 ?_
              refine k_cvi [.inl (σ.1 16 79), .inl ((σ20.1 16 58) - (σ.1 16 79))] d_KReader_define_312 ml_15_564 rfl rfl ob_16 rfl (s_KReader_doubles hL (by omega)  h) (fun v23 σ22 h => ?_)
              obtain ⟨p41, h⟩ := h
              refine k_iadd d_KReader_define_315 p41 ?_
              obtain ⟨p40, h⟩ := h
              refine k_ist d_KReader_define_316 (drI_18 (dyD_doc y21)) p40 ?_
              refine k_aload_n d_KReader_define_317 rfl ?_
              obtain ⟨y24, h⟩ := h
              refine k_getD (x := (σ22.1 16 2)) d_KReader_define_318 fl_15_150 ob_16 rfl rfl (dyD_pos y24) ?_
              refine k_getR d_KReader_define_321 fl_15_561 (doc_ob (dyD_doc y24)) (dfr_18 (dyD_doc y24)) ?_
              refine k_bipush d_KReader_define_324 cB_15 ?_
              refine k_dup2 d_KReader_define_326 ?_
              obtain ⟨p39, h⟩ := h
              refine k_ild (x := ((pr σ22 (rfo (Int.toNat (σ20.1 16 2)) 18) (Int.toNat 19) (((pr σ20 (rfo (Int.toNat (σ15.1 16 2)) 18) (Int.toNat 17) ((σ15.2 (rfo (Int.toNat (σ15.1 16 2)) 18) (Int.toNat 17)) + s19)).2 (rfo (Int.toNat (σ20.1 16 2)) 18) (Int.toNat 19)) + v23)).2 (rfo (Int.toNat (σ22.1 16 2)) 18) (Int.toNat 15))) d_KReader_define_327 (drI_18 (dyD_doc y24)) p39 rfl ?_
              refine k_iload d_KReader_define_328 rfl ?_
              refine k_join (S := Int) (pc' := 351) (st' := fun s27 => [.inl s27, .inl ((pr σ22 (rfo (Int.toNat (σ20.1 16 2)) 18) (Int.toNat 19) (((pr σ20 (rfo (Int.toNat (σ15.1 16 2)) 18) (Int.toNat 17) ((σ15.2 (rfo (Int.toNat (σ15.1 16 2)) 18) (Int.toNat 17)) + s19)).2 (rfo (Int.toNat (σ20.1 16 2)) 18) (Int.toNat 19)) + v23)).2 (rfo (Int.toNat (σ22.1 16 2)) 18) (Int.toNat 15)), .inl 15, .inr (rfo (Int.toNat (σ22.1 16 2)) 18)]) (lv' := fun s27 => [none, none, none, none, none, none, none, none, none, none]) (fun s27 σ28 h => ?_) (fun J25 hJ26 h => ?_) h
              · obtain ⟨p30, h⟩ := h
                refine k_iadd d_KReader_define_351 p30 ?_
                obtain ⟨p29, h⟩ := h
                refine k_ist d_KReader_define_352 (drI_18 (dyD_doc y24)) p29 ?_
                exact k_ret d_KReader_define_353 h
              · refine k_join (S := Unit) (pc' := 350) (st' := fun s33 => [.inl ((pr σ22 (rfo (Int.toNat (σ20.1 16 2)) 18) (Int.toNat 19) (((pr σ20 (rfo (Int.toNat (σ15.1 16 2)) 18) (Int.toNat 17) ((σ15.2 (rfo (Int.toNat (σ15.1 16 2)) 18) (Int.toNat 17)) + s19)).2 (rfo (Int.toNat (σ20.1 16 2)) 18) (Int.toNat 19)) + v23)).2 (rfo (Int.toNat (σ22.1 16 2)) 18) (Int.toNat 15)), .inl 15, .inr (rfo (Int.toNat (σ22.1 16 2)) 18)]) (lv' := fun s33 => [none, none, none, none, none, none, none, none, none, none]) (fun s33 σ34 h => ?_) (fun J31 hJ32 h => ?_) h
                · refine k_iconst d_KReader_define_350 cI_0 ?_
                  exact k_sb (sb_s (sb_s (sb_s (sb_s (sb_s (sb_s (sb_s (sb_s (sb_s (sb_s sb_nil)))))))))) (hJ26 0 _ h)
                · refine k_ifeq d_KReader_define_330 rfl (fun c35 => ?_) (fun c35 => ?_)
                  · have h := ipos c35 h
                    exact k_sb (sb_n (sb_s (sb_s (sb_n (sb_s (sb_s (sb_n (sb_n (sb_n (sb_n sb_nil)))))))))) (hJ32 () _ h)
                  · have h := ineg c35 h
                    refine k_aload_n d_KReader_define_333 rfl ?_
                    refine k_iload d_KReader_define_334 rfl ?_
                    refine k_iload d_KReader_define_336 rfl ?_
                    refine k_iload d_KReader_define_338 rfl ?_
                    refine k_cvi [.inl (σ6.1 16 56), .inl (σ.1 (Int.toNat (σ.1 16 2)) 2), .inl s4] d_KReader_define_340 ml_15_682 rfl rfl ob_16 rfl (s_KReader_isWanted hL (by omega)  h) (fun v37 σ36 h => ?_)
                    refine k_ifne d_KReader_define_343 rfl (fun c38 => ?_) (fun c38 => ?_)
                    · have h := ineg c38 h
                      exact k_sb (sb_n (sb_s (sb_s (sb_n (sb_s (sb_s (sb_n (sb_n (sb_n (sb_n sb_nil)))))))))) (hJ32 () _ h)
                    · have h := ipos c38 h
                      refine k_iconst d_KReader_define_346 cI_1 ?_
                      refine k_goto d_KReader_define_347 rfl ?_
                      exact k_sb (sb_n (sb_s (sb_s (sb_n (sb_s (sb_s (sb_n (sb_n (sb_n (sb_n sb_nil)))))))))) (hJ26 1 _ h)
            · refine k_join (S := Unit) (pc' := 290) (st' := fun s48 => [.inl (σ15.2 (rfo (Int.toNat (σ15.1 16 2)) 18) (Int.toNat 17)), .inl 17, .inr (rfo (Int.toNat (σ15.1 16 2)) 18)]) (lv' := fun s48 => [some (.inr 16), none, none, some (.inl (σ.1 16 79)), none, none, some (.inl (σ.1 (Int.toNat (σ.1 16 2)) 2)), some (.inl s4), some (.inl (σ6.1 16 56)), some (.inl (if (σ.1 16 81) = 3 then (1 : Int) else (if (σ.1 16 81) = 4 then (1 : Int) else (0 : Int))))]) (fun s48 σ49 h => ?_) (fun J46 hJ47 h => ?_) h
              · refine k_iconst d_KReader_define_290 cI_0 ?_
                exact k_sb (sb_s (sb_s (sb_s (sb_s (sb_s (sb_s (sb_s (sb_s (sb_s (sb_s sb_nil)))))))))) (hJ18 0 _ h)
              · refine k_icne d_KReader_define_271 rfl (fun c50 => ?_) (fun c50 => ?_)
                · have h := ineg c50 h
                  exact k_sb (sb_s (sb_n (sb_s (sb_s (sb_n (sb_s (sb_s (sb_s (sb_s (sb_s sb_nil)))))))))) (hJ47 () _ h)
                · have h := ipos c50 h
                  refine k_aload_n d_KReader_define_274 rfl ?_
                  refine k_iload_n d_KReader_define_275 rfl ?_
                  refine k_iload d_KReader_define_276 rfl ?_
                  refine k_bipush d_KReader_define_278 cB_8 ?_
                  refine k_cvi [.inl a1, .inl (σ6.1 16 56), .inl 8] d_KReader_define_280 ml_15_679 rfl rfl ob_16 rfl (s_KReader_hasType hL (by omega)  h) (fun v52 σ51 h => ?_)
                  refine k_ifeq d_KReader_define_283 rfl (fun c53 => ?_) (fun c53 => ?_)
                  · have h := ipos c53 h
                    exact k_sb (sb_s (sb_n (sb_s (sb_s (sb_n (sb_s (sb_s (sb_s (sb_s (sb_s sb_nil)))))))))) (hJ47 () _ h)
                  · have h := ineg c53 h
                    refine k_iconst d_KReader_define_286 cI_1 ?_
                    refine k_goto d_KReader_define_287 rfl ?_
                    exact k_sb (sb_s (sb_n (sb_s (sb_s (sb_n (sb_s (sb_s (sb_s (sb_s (sb_s sb_nil)))))))))) (hJ18 1 _ h)
          refine k_icne d_KReader_define_241 rfl (fun c58 => ?_) (fun c58 => ?_)
          · have hV63 := k_eqI (if_neg c58) hV57
            refine k_iconst d_KReader_define_253 cI_0 ?_
            exact hV63
          · have hV59 := k_eqI (if_pos c58) hV57
            refine k_iload d_KReader_define_244 rfl ?_
            refine k_ifeq d_KReader_define_246 rfl (fun c60 => ?_) (fun c60 => ?_)
            · have hV61 := k_eqI (if_pos c60) hV59
              refine k_iconst d_KReader_define_253 cI_0 ?_
              exact hV61
            · have hV62 := k_eqI (if_neg c60) hV59
              refine k_iconst d_KReader_define_249 cI_1 ?_
              refine k_goto d_KReader_define_250 rfl ?_
              exact hV62
        · refine k_join (S := Unit) (pc' := 224) (st' := fun s69 => [.inl ((pr (pr (pr (pr (pr (pr (pr (pr (pf σ6 16 56 ((σ6.1 16 56) + 1)) 199 (Int.toNat (σ6.1 16 56)) a1) 200 (Int.toNat (σ6.1 16 56)) a2) 201 (Int.toNat (σ6.1 16 56)) (nb (σ.1 16 78))) 202 (Int.toNat (σ6.1 16 56)) (nb (σ.1 16 81))) 203 (Int.toNat (σ6.1 16 56)) (σ.1 (Int.toNat (σ.1 16 2)) 2)) 204 (Int.toNat (σ6.1 16 56)) s4) 205 (Int.toNat (σ6.1 16 56)) (σ.1 16 79)) 206 (Int.toNat (σ6.1 16 56)) ((σ6.1 16 58) - (σ.1 16 79))).2 (rfo (Int.toNat (σ6.1 16 2)) 18) (Int.toNat 13)), .inl 13, .inr (rfo (Int.toNat (σ6.1 16 2)) 18)]) (lv' := fun s69 => [some (.inr 16), some (.inl a1), none, some (.inl (σ.1 16 79)), some (.inl (σ.1 16 78)), none, some (.inl (σ.1 (Int.toNat (σ.1 16 2)) 2)), some (.inl s4), some (.inl (σ6.1 16 56)), some (.inl (if (σ.1 16 81) = 3 then (1 : Int) else (if (σ.1 16 81) = 4 then (1 : Int) else (0 : Int))))]) (fun s69 σ70 h => ?_) (fun J67 hJ68 h => ?_) h
          · refine k_iconst d_KReader_define_224 cI_0 ?_
            exact k_sb (sb_s (sb_s (sb_s (sb_s (sb_s (sb_s (sb_s (sb_s (sb_s (sb_s sb_nil)))))))))) (hJ11 0 _ h)
          · refine k_icne d_KReader_define_206 rfl (fun c71 => ?_) (fun c71 => ?_)
            · have h := ineg c71 h
              exact k_sb (sb_s (sb_s (sb_n (sb_s (sb_s (sb_n (sb_s (sb_s (sb_s (sb_s sb_nil)))))))))) (hJ68 () _ h)
            · have h := ipos c71 h
              refine k_aload_n d_KReader_define_209 rfl ?_
              refine k_iload_n d_KReader_define_210 rfl ?_
              refine k_iload d_KReader_define_211 rfl ?_
              refine k_iconst d_KReader_define_213 cI_1 ?_
              refine k_cvi [.inl a1, .inl (σ6.1 16 56), .inl 1] d_KReader_define_214 ml_15_679 rfl rfl ob_16 rfl (s_KReader_hasType hL (by omega)  h) (fun v73 σ72 h => ?_)
              refine k_ifeq d_KReader_define_217 rfl (fun c74 => ?_) (fun c74 => ?_)
              · have h := ipos c74 h
                exact k_sb (sb_s (sb_s (sb_n (sb_s (sb_s (sb_n (sb_s (sb_s (sb_s (sb_s sb_nil)))))))))) (hJ68 () _ h)
              · have h := ineg c74 h
                refine k_iconst d_KReader_define_220 cI_1 ?_
                refine k_goto d_KReader_define_221 rfl ?_
                exact k_sb (sb_s (sb_s (sb_n (sb_s (sb_s (sb_n (sb_s (sb_s (sb_s (sb_s sb_nil)))))))))) (hJ11 1 _ h)
      refine k_iceq d_KReader_define_176 rfl (fun c77 => ?_) (fun c77 => ?_)
      · have hV78 := k_eqI (if_pos c77) hV76
        refine k_iconst d_KReader_define_185 cI_1 ?_
        refine k_goto d_KReader_define_186 rfl ?_
        exact hV78
      · have hV79 := k_eqI (if_neg c77) hV76
        refine k_iload d_KReader_define_179 rfl ?_
        refine k_iconst d_KReader_define_181 cI_4 ?_
        refine k_icne d_KReader_define_182 rfl (fun c80 => ?_) (fun c80 => ?_)
        · have hV82 := k_eqI (if_neg c80) hV79
          refine k_iconst d_KReader_define_189 cI_0 ?_
          exact hV82
        · have hV81 := k_eqI (if_pos c80) hV79
          refine k_iconst d_KReader_define_185 cI_1 ?_
          refine k_goto d_KReader_define_186 rfl ?_
          exact hV81
    · have h := ineg c8 h
      refine k_aload_n d_KReader_define_67 rfl ?_
      refine k_iload_n d_KReader_define_68 rfl ?_
      refine k_putI d_KReader_define_69 fl_15_218 ob_16 rfl ?_
      refine k_aload_n d_KReader_define_72 rfl ?_
      obtain ⟨y93, h⟩ := h
      refine k_getD (x := (σ6.1 16 2)) d_KReader_define_73 fl_15_150 ob_16 rfl rfl (dyD_pos y93) ?_
      refine k_iload d_KReader_define_76 rfl ?_
      refine k_putI d_KReader_define_78 fl_15_489 (doc_ob (dyD_doc y93)) (dfz_2 (dyD_doc y93)) ?_
      exact k_ret d_KReader_define_81 h
  · refine k_iflt d_KReader_define_33 rfl (fun c94 => ?_) (fun c94 => ?_)
    · have h := ipos c94 h
      exact k_sb (sb_s (sb_s (sb_s (sb_s (sb_s (sb_s (sb_s (sb_s (sb_s (sb_s sb_nil)))))))))) (hJ3 0 _ h)
    · have h := ineg c94 h
      refine k_aload_n d_KReader_define_36 rfl ?_
      refine k_aload_n d_KReader_define_37 rfl ?_
      refine k_getI (x := (σ.1 16 82)) d_KReader_define_38 fl_15_644 ob_16 rfl rfl ?_
      refine k_cvi [.inl (σ.1 16 82)] d_KReader_define_41 ml_15_671 rfl rfl ob_16 rfl (s_KReader_find hL (by omega)  h) (fun v96 σ95 h => ?_)
      refine k_ifne d_KReader_define_44 rfl (fun c97 => ?_) (fun c97 => ?_)
      · have h := ineg c97 h
        refine k_aload_n d_KReader_define_48 rfl ?_
        refine k_iload d_KReader_define_49 rfl ?_
        refine k_iload d_KReader_define_51 rfl ?_
        refine k_cvi [.inl (σ.1 (Int.toNat (σ.1 16 2)) 2), .inl (σ.1 16 78)] d_KReader_define_53 ml_15_673 rfl rfl ob_16 rfl (s_KReader_normalise hL (by omega)  h) (fun v99 σ98 h => ?_)
        refine k_istore (lv' := [some (.inr 16), some (.inl a1), some (.inl a2), some (.inl (σ.1 16 79)), some (.inl (σ.1 16 78)), some (.inl (σ.1 16 81)), some (.inl (σ.1 (Int.toNat (σ.1 16 2)) 2)), some (.inl v99), none, none]) d_KReader_define_56 rfl rfl ?_
        exact k_sb (sb_s (sb_s (sb_s (sb_s (sb_s (sb_s (sb_s (sb_s (sb_s (sb_s sb_nil)))))))))) (hJ3 v99 _ h)
      · have h := ipos c97 h
        exact k_ret d_KReader_define_47 h
theorem d_KReader_attributes_0 : decode b_KReader_attributes 0 = .ok (.aload_n 0, 1) := by decide +kernel
theorem d_KReader_attributes_1 : decode b_KReader_attributes 1 = .ok (.aload_n 0, 1) := by decide +kernel
theorem d_KReader_attributes_2 : decode b_KReader_attributes 2 = .ok (.getfield 379, 3) := by decide +kernel
theorem d_KReader_attributes_5 : decode b_KReader_attributes 5 = .ok (.bipush 9, 2) := by decide +kernel
theorem d_KReader_attributes_7 : decode b_KReader_attributes 7 = .ok (.iadd, 1) := by decide +kernel
theorem d_KReader_attributes_8 : decode b_KReader_attributes 8 = .ok (.invokevirtual 333, 3) := by decide +kernel
theorem d_KReader_attributes_11 : decode b_KReader_attributes 11 = .ok (.istore_n 1, 1) := by decide +kernel
theorem d_KReader_attributes_12 : decode b_KReader_attributes 12 = .ok (.aload_n 0, 1) := by decide +kernel
theorem d_KReader_attributes_13 : decode b_KReader_attributes 13 = .ok (.iload_n 1, 1) := by decide +kernel
theorem d_KReader_attributes_14 : decode b_KReader_attributes 14 = .ok (.invokevirtual 341, 3) := by decide +kernel
theorem d_KReader_attributes_17 : decode b_KReader_attributes 17 = .ok (.istore_n 2, 1) := by decide +kernel
theorem d_KReader_attributes_18 : decode b_KReader_attributes 18 = .ok (.aload_n 0, 1) := by decide +kernel
theorem d_KReader_attributes_19 : decode b_KReader_attributes 19 = .ok (.getfield 218, 3) := by decide +kernel
theorem d_KReader_attributes_22 : decode b_KReader_attributes 22 = .ok (.istore_n 3, 1) := by decide +kernel
theorem d_KReader_attributes_23 : decode b_KReader_attributes 23 = .ok (.iload_n 2, 1) := by decide +kernel
theorem d_KReader_attributes_24 : decode b_KReader_attributes 24 = .ok (.istore 4, 2) := by decide +kernel
theorem d_KReader_attributes_26 : decode b_KReader_attributes 26 = .ok (.aload_n 0, 1) := by decide +kernel
theorem d_KReader_attributes_27 : decode b_KReader_attributes 27 = .ok (.iload 4, 2) := by decide +kernel
theorem d_KReader_attributes_29 : decode b_KReader_attributes 29 = .ok (.invokevirtual 333, 3) := by decide +kernel
theorem d_KReader_attributes_32 : decode b_KReader_attributes 32 = .ok (.istore 5, 2) := by decide +kernel
theorem d_KReader_attributes_34 : decode b_KReader_attributes 34 = .ok (.iload 5, 2) := by decide +kernel
theorem d_KReader_attributes_36 : decode b_KReader_attributes 36 = .ok (.ifCond .lt 31, 3) := by decide +kernel
theorem d_KReader_attributes_39 : decode b_KReader_attributes 39 = .ok (.aload_n 0, 1) := by decide +kernel
theorem d_KReader_attributes_40 : decode b_KReader_attributes 40 = .ok (.iload 5, 2) := by decide +kernel
theorem d_KReader_attributes_42 : decode b_KReader_attributes 42 = .ok (.invokevirtual 341, 3) := by decide +kernel
theorem d_KReader_attributes_45 : decode b_KReader_attributes 45 = .ok (.ifCond .lt 22, 3) := by decide +kernel
theorem d_KReader_attributes_48 : decode b_KReader_attributes 48 = .ok (.aload_n 0, 1) := by decide +kernel
theorem d_KReader_attributes_49 : decode b_KReader_attributes 49 = .ok (.iload 5, 2) := by decide +kernel
theorem d_KReader_attributes_51 : decode b_KReader_attributes 51 = .ok (.invokevirtual 665, 3) := by decide +kernel
theorem d_KReader_attributes_54 : decode b_KReader_attributes 54 = .ok (.istore 4, 2) := by decide +kernel
theorem d_KReader_attributes_56 : decode b_KReader_attributes 56 = .ok (.aload_n 0, 1) := by decide +kernel
theorem d_KReader_attributes_57 : decode b_KReader_attributes 57 = .ok (.iload 4, 2) := by decide +kernel
theorem d_KReader_attributes_59 : decode b_KReader_attributes 59 = .ok (.invokevirtual 333, 3) := by decide +kernel
theorem d_KReader_attributes_62 : decode b_KReader_attributes 62 = .ok (.istore 5, 2) := by decide +kernel
theorem d_KReader_attributes_64 : decode b_KReader_attributes 64 = .ok (.goto (-30), 3) := by decide +kernel
theorem d_KReader_attributes_67 : decode b_KReader_attributes 67 = .ok (.iload 4, 2) := by decide +kernel
theorem d_KReader_attributes_69 : decode b_KReader_attributes 69 = .ok (.ifCond .ge 7, 3) := by decide +kernel
theorem d_KReader_attributes_72 : decode b_KReader_attributes 72 = .ok (.iconst (-1), 1) := by decide +kernel
theorem d_KReader_attributes_73 : decode b_KReader_attributes 73 = .ok (.goto 16, 3) := by decide +kernel
theorem d_KReader_attributes_76 : decode b_KReader_attributes 76 = .ok (.aload_n 0, 1) := by decide +kernel
theorem d_KReader_attributes_77 : decode b_KReader_attributes 77 = .ok (.aload_n 0, 1) := by decide +kernel
theorem d_KReader_attributes_78 : decode b_KReader_attributes 78 = .ok (.iload 4, 2) := by decide +kernel
theorem d_KReader_attributes_80 : decode b_KReader_attributes 80 = .ok (.invokevirtual 297, 3) := by decide +kernel
theorem d_KReader_attributes_83 : decode b_KReader_attributes 83 = .ok (.ldc_w 527, 3) := by decide +kernel
theorem d_KReader_attributes_86 : decode b_KReader_attributes 86 = .ok (.invokevirtual 329, 3) := by decide +kernel
theorem d_KReader_attributes_89 : decode b_KReader_attributes 89 = .ok (.istore 4, 2) := by decide +kernel
theorem d_KReader_attributes_91 : decode b_KReader_attributes 91 = .ok (.aload_n 0, 1) := by decide +kernel
theorem d_KReader_attributes_92 : decode b_KReader_attributes 92 = .ok (.iload_n 3, 1) := by decide +kernel
theorem d_KReader_attributes_93 : decode b_KReader_attributes 93 = .ok (.putfield 218, 3) := by decide +kernel
theorem d_KReader_attributes_96 : decode b_KReader_attributes 96 = .ok (.aload_n 0, 1) := by decide +kernel
theorem d_KReader_attributes_97 : decode b_KReader_attributes 97 = .ok (.iload 4, 2) := by decide +kernel
theorem d_KReader_attributes_99 : decode b_KReader_attributes 99 = .ok (.invokevirtual 437, 3) := by decide +kernel
theorem d_KReader_attributes_102 : decode b_KReader_attributes 102 = .ok (.ifCond .ne 4, 3) := by decide +kernel
theorem d_KReader_attributes_105 : decode b_KReader_attributes 105 = .ok (.return_, 1) := by decide +kernel
theorem d_KReader_attributes_106 : decode b_KReader_attributes 106 = .ok (.aload_n 0, 1) := by decide +kernel
theorem d_KReader_attributes_107 : decode b_KReader_attributes 107 = .ok (.iload_n 1, 1) := by decide +kernel
theorem d_KReader_attributes_108 : decode b_KReader_attributes 108 = .ok (.iload_n 2, 1) := by decide +kernel
theorem d_KReader_attributes_109 : decode b_KReader_attributes 109 = .ok (.iload_n 1, 1) := by decide +kernel
theorem d_KReader_attributes_110 : decode b_KReader_attributes 110 = .ok (.isub, 1) := by decide +kernel
theorem d_KReader_attributes_111 : decode b_KReader_attributes 111 = .ok (.invokevirtual 470, 3) := by decide +kernel
theorem d_KReader_attributes_114 : decode b_KReader_attributes 114 = .ok (.istore 6, 2) := by decide +kernel
theorem d_KReader_attributes_116 : decode b_KReader_attributes 116 = .ok (.aload_n 0, 1) := by decide +kernel
theorem d_KReader_attributes_117 : decode b_KReader_attributes 117 = .ok (.iload_n 2, 1) := by decide +kernel
theorem d_KReader_attributes_118 : decode b_KReader_attributes 118 = .ok (.invokevirtual 333, 3) := by decide +kernel
theorem d_KReader_attributes_121 : decode b_KReader_attributes 121 = .ok (.istore 5, 2) := by decide +kernel
theorem d_KReader_attributes_123 : decode b_KReader_attributes 123 = .ok (.aload_n 0, 1) := by decide +kernel
theorem d_KReader_attributes_124 : decode b_KReader_attributes 124 = .ok (.getfield 166, 3) := by decide +kernel
theorem d_KReader_attributes_127 : decode b_KReader_attributes 127 = .ok (.ifCond .ne 65, 3) := by decide +kernel
theorem d_KReader_attributes_130 : decode b_KReader_attributes 130 = .ok (.iload 5, 2) := by decide +kernel
theorem d_KReader_attributes_132 : decode b_KReader_attributes 132 = .ok (.ifCond .lt 60, 3) := by decide +kernel
theorem d_KReader_attributes_135 : decode b_KReader_attributes 135 = .ok (.aload_n 0, 1) := by decide +kernel
theorem d_KReader_attributes_136 : decode b_KReader_attributes 136 = .ok (.iload 5, 2) := by decide +kernel
theorem d_KReader_attributes_138 : decode b_KReader_attributes 138 = .ok (.invokevirtual 341, 3) := by decide +kernel
theorem d_KReader_attributes_141 : decode b_KReader_attributes 141 = .ok (.ifCond .lt 51, 3) := by decide +kernel
theorem d_KReader_attributes_144 : decode b_KReader_attributes 144 = .ok (.aload_n 0, 1) := by decide +kernel
theorem d_KReader_attributes_145 : decode b_KReader_attributes 145 = .ok (.iload 5, 2) := by decide +kernel
theorem d_KReader_attributes_147 : decode b_KReader_attributes 147 = .ok (.invokevirtual 341, 3) := by decide +kernel
theorem d_KReader_attributes_150 : decode b_KReader_attributes 150 = .ok (.istore 7, 2) := by decide +kernel
theorem d_KReader_attributes_152 : decode b_KReader_attributes 152 = .ok (.aload_n 0, 1) := by decide +kernel
theorem d_KReader_attributes_153 : decode b_KReader_attributes 153 = .ok (.iload 5, 2) := by decide +kernel
theorem d_KReader_attributes_155 : decode b_KReader_attributes 155 = .ok (.iload 7, 2) := by decide +kernel
theorem d_KReader_attributes_157 : decode b_KReader_attributes 157 = .ok (.iload 5, 2) := by decide +kernel
theorem d_KReader_attributes_159 : decode b_KReader_attributes 159 = .ok (.isub, 1) := by decide +kernel
theorem d_KReader_attributes_160 : decode b_KReader_attributes 160 = .ok (.invokevirtual 470, 3) := by decide +kernel
theorem d_KReader_attributes_163 : decode b_KReader_attributes 163 = .ok (.istore 8, 2) := by decide +kernel
theorem d_KReader_attributes_165 : decode b_KReader_attributes 165 = .ok (.aload_n 0, 1) := by decide +kernel
theorem d_KReader_attributes_166 : decode b_KReader_attributes 166 = .ok (.iload 5, 2) := by decide +kernel
theorem d_KReader_attributes_168 : decode b_KReader_attributes 168 = .ok (.invokevirtual 665, 3) := by decide +kernel
theorem d_KReader_attributes_171 : decode b_KReader_attributes 171 = .ok (.istore 9, 2) := by decide +kernel
theorem d_KReader_attributes_173 : decode b_KReader_attributes 173 = .ok (.aload_n 0, 1) := by decide +kernel
theorem d_KReader_attributes_174 : decode b_KReader_attributes 174 = .ok (.iload 6, 2) := by decide +kernel
theorem d_KReader_attributes_176 : decode b_KReader_attributes 176 = .ok (.iload 8, 2) := by decide +kernel
theorem d_KReader_attributes_178 : decode b_KReader_attributes 178 = .ok (.invokevirtual 668, 3) := by decide +kernel
theorem d_KReader_attributes_181 : decode b_KReader_attributes 181 = .ok (.aload_n 0, 1) := by decide +kernel
theorem d_KReader_attributes_182 : decode b_KReader_attributes 182 = .ok (.iload 9, 2) := by decide +kernel
theorem d_KReader_attributes_184 : decode b_KReader_attributes 184 = .ok (.invokevirtual 333, 3) := by decide +kernel
theorem d_KReader_attributes_187 : decode b_KReader_attributes 187 = .ok (.istore 5, 2) := by decide +kernel
theorem d_KReader_attributes_189 : decode b_KReader_attributes 189 = .ok (.goto (-66), 3) := by decide +kernel
theorem d_KReader_attributes_192 : decode b_KReader_attributes 192 = .ok (.aload_n 0, 1) := by decide +kernel
theorem d_KReader_attributes_193 : decode b_KReader_attributes 193 = .ok (.iload 4, 2) := by decide +kernel
theorem d_KReader_attributes_195 : decode b_KReader_attributes 195 = .ok (.putfield 379, 3) := by decide +kernel
theorem d_KReader_attributes_198 : decode b_KReader_attributes 198 = .ok (.return_, 1) := by decide +kernel
/-- KReader_attributes -/
def w_KReader_attributes (L : Nat → Nat)  (Q : IS → Prop) (σ : IS) : Prop := inR ((σ.1 16 16) + 9) ∧ w_KReader_spaces L ((σ.1 16 16) + 9) (fun v2 σ1 => w_KReader_name L v2 (fun v4 σ3 => w_KReader_spaces L v4 (fun v6 σ5 => WL (fun (K7 : Int × Int → IS → Prop) (s9 : Int × Int) (σ10 : IS) => WJ (fun (s13 : Unit) (σ14 : IS) => WJ (fun (s17 : Int) (σ18 : IS) => w_KReader_written L s17 (fun v20 σ19 => if v20 = 0 then Q σ19 else inR (v4 - v2) ∧ w_KReader_keep L v2 (v4 - v2) (fun v23 σ22 => w_KReader_spaces L v4 (fun v25 σ24 => WL (fun (K26 : Int → IS → Prop) (s28 : Int) (σ29 : IS) => WJ (fun (s32 : Unit) (σ33 : IS) => Q (pf σ33 16 16 s17)) (fun J30 => if (σ29.1 16 3) = 0 ∧ (¬ s28 < 0) then w_KReader_name L s28 (fun v35 σ34 => if v35 < 0 then J30 () σ34 else w_KReader_name L s28 (fun v38 σ37 => inR (v38 - s28) ∧ w_KReader_keep L s28 (v38 - s28) (fun v40 σ39 => w_KReader_definition L s28 (fun v42 σ41 => w_KReader_define L v23 v40 (fun σ43 => w_KReader_spaces L v42 (fun v46 σ45 => K26 v46 σ45) σ43) σ41) σ39) σ37) σ34) σ29 else J30 () σ29)) v25 σ24) σ22) σ19) (pf σ18 16 58 (σ3.1 16 58))) (fun J15 => if s9.1 < 0 then J15 (-1) σ14 else w_KReader_anySpaces L s9.1 (fun v56 σ55 => w_KReader_word L v56 1124 (fun v58 σ57 => J15 v58 σ57) σ55) σ14)) (fun J11 => if s9.2 < 0 then J11 () σ10 else w_KReader_name L s9.2 (fun v61 σ60 => if v61 < 0 then J11 () σ60 else w_KReader_definition L s9.2 (fun v64 σ63 => w_KReader_spaces L v64 (fun v66 σ65 => K7 (v64, v66) σ65) σ63) σ60) σ10)) (v4, v6) σ5) σ3) σ1) σ
set_option maxHeartbeats 4000000 in
set_option maxRecDepth 20000 in
theorem s_KReader_attributes {L : Nat → Nat} (hL : ∀ r, L r < 2147483648) {d : Nat} (hd : 9 ≤ d)  {Q : IS → Prop} {σ : IS}  (h : w_KReader_attributes L  Q σ) : OkI BF L d 15 b_KReader_attributes 10 0 0 [] [some (.inr 16)] σ (qv Q) := by
  unfold w_KReader_attributes at h
  obtain ⟨d, rfl⟩ : ∃ e, d = e + 1 := ⟨d - 1, by omega⟩
  refine k_sb (lv' := [some (.inr 16), none, none, none, none, none, none, none, none, none]) (sb_s (sb_e (sb_e (sb_e (sb_e (sb_e (sb_e (sb_e (sb_e (sb_e sb_nil)))))))))) ?_
  refine k_aload_n d_KReader_attributes_0 rfl ?_
  refine k_aload_n d_KReader_attributes_1 rfl ?_
  refine k_getI (x := (σ.1 16 16)) d_KReader_attributes_2 fl_15_379 ob_16 rfl rfl ?_
  refine k_bipush d_KReader_attributes_5 cB_9 ?_
  obtain ⟨p67, h⟩ := h
  refine k_iadd d_KReader_attributes_7 p67 ?_
  refine k_cvi [.inl ((σ.1 16 16) + 9)] d_KReader_attributes_8 ml_15_333 rfl rfl ob_16 rfl (s_KReader_spaces hL (by omega)  h) (fun v2 σ1 h => ?_)
  refine k_istore_n (lv' := [some (.inr 16), some (.inl v2), none, none, none, none, none, none, none, none]) d_KReader_attributes_11 rfl rfl ?_
  refine k_aload_n d_KReader_attributes_12 rfl ?_
  refine k_iload_n d_KReader_attributes_13 rfl ?_
  refine k_cvi [.inl v2] d_KReader_attributes_14 ml_15_341 rfl rfl ob_16 rfl (s_KReader_name hL (by omega)  h) (fun v4 σ3 h => ?_)
  refine k_istore_n (lv' := [some (.inr 16), some (.inl v2), some (.inl v4), none, none, none, none, none, none, none]) d_KReader_attributes_17 rfl rfl ?_
  refine k_aload_n d_KReader_attributes_18 rfl ?_
  refine k_getI (x := (σ3.1 16 58)) d_KReader_attributes_19 fl_15_218 ob_16 rfl rfl ?_
  refine k_istore_n (lv' := [some (.inr 16), some (.inl v2), some (.inl v4), some (.inl (σ3.1 16 58)), none, none, none, none, none, none]) d_KReader_attributes_22 rfl rfl ?_
  refine k_iload_n d_KReader_attributes_23 rfl ?_
  refine k_istore (lv' := [some (.inr 16), some (.inl v2), some (.inl v4), some (.inl (σ3.1 16 58)), some (.inl v4), none, none, none, none, none]) d_KReader_attributes_24 rfl rfl ?_
  refine k_aload_n d_KReader_attributes_26 rfl ?_
  refine k_iload d_KReader_attributes_27 rfl ?_
  refine k_cvi [.inl v4] d_KReader_attributes_29 ml_15_333 rfl rfl ob_16 rfl (s_KReader_spaces hL (by omega)  h) (fun v6 σ5 h => ?_)
  refine k_istore (lv' := [some (.inr 16), some (.inl v2), some (.inl v4), some (.inl (σ3.1 16 58)), some (.inl v4), some (.inl v6), none, none, none, none]) d_KReader_attributes_32 rfl rfl ?_
  refine k_sb (lv' := [some (.inr 16), some (.inl v2), some (.inl v4), some (.inl (σ3.1 16 58)), some (.inl v4), some (.inl v6), none, none, none, none]) (sb_s (sb_s (sb_s (sb_s (sb_s (sb_s (sb_s (sb_s (sb_s (sb_s sb_nil)))))))))) ?_
  refine k_loop (S := Int × Int) (st := fun _ => []) (lv := fun s9 => [some (.inr 16), some (.inl v2), some (.inl v4), some (.inl (σ3.1 16 58)), some (.inl s9.1), some (.inl s9.2), none, none, none, none]) (fun K7 hK8 s9 σ10 h => ?_) (v4, v6) _ h
  refine k_iload d_KReader_attributes_34 rfl ?_
  refine k_join (S := Unit) (pc' := 67) (st' := fun s13 => []) (lv' := fun s13 => [some (.inr 16), some (.inl v2), some (.inl v4), some (.inl (σ3.1 16 58)), some (.inl s9.1), none, none, none, none, none]) (fun s13 σ14 h => ?_) (fun J11 hJ12 h => ?_) h
  · refine k_iload d_KReader_attributes_67 rfl ?_
    refine k_join (S := Int) (pc' := 89) (st' := fun s17 => [.inl s17]) (lv' := fun s17 => [some (.inr 16), some (.inl v2), some (.inl v4), some (.inl (σ3.1 16 58)), none, none, none, none, none, none]) (fun s17 σ18 h => ?_) (fun J15 hJ16 h => ?_) h
    · refine k_istore (lv' := [some (.inr 16), some (.inl v2), some (.inl v4), some (.inl (σ3.1 16 58)), some (.inl s17), none, none, none, none, none]) d_KReader_attributes_89 rfl rfl ?_
      refine k_aload_n d_KReader_attributes_91 rfl ?_
      refine k_iload_n d_KReader_attributes_92 rfl ?_
      refine k_putI d_KReader_attributes_93 fl_15_218 ob_16 rfl ?_
      refine k_aload_n d_KReader_attributes_96 rfl ?_
      refine k_iload d_KReader_attributes_97 rfl ?_
      refine k_cvi [.inl s17] d_KReader_attributes_99 ml_15_437 rfl rfl ob_16 rfl (s_KReader_written hL (by omega)  h) (fun v20 σ19 h => ?_)
      refine k_ifne d_KReader_attributes_102 rfl (fun c21 => ?_) (fun c21 => ?_)
      · have h := ineg c21 h
        refine k_aload_n d_KReader_attributes_106 rfl ?_
        refine k_iload_n d_KReader_attributes_107 rfl ?_
        refine k_iload_n d_KReader_attributes_108 rfl ?_
        refine k_iload_n d_KReader_attributes_109 rfl ?_
        obtain ⟨p53, h⟩ := h
        refine k_isub d_KReader_attributes_110 p53 ?_
        refine k_cvi [.inl v2, .inl (v4 - v2)] d_KReader_attributes_111 ml_15_470 rfl rfl ob_16 rfl (s_KReader_keep hL (by omega)  h) (fun v23 σ22 h => ?_)
        refine k_istore (lv' := [some (.inr 16), some (.inl v2), some (.inl v4), some (.inl (σ3.1 16 58)), some (.inl s17), none, some (.inl v23), none, none, none]) d_KReader_attributes_114 rfl rfl ?_
        refine k_aload_n d_KReader_attributes_116 rfl ?_
        refine k_iload_n d_KReader_attributes_117 rfl ?_
        refine k_cvi [.inl v4] d_KReader_attributes_118 ml_15_333 rfl rfl ob_16 rfl (s_KReader_spaces hL (by omega)  h) (fun v25 σ24 h => ?_)
        refine k_istore (lv' := [some (.inr 16), some (.inl v2), some (.inl v4), some (.inl (σ3.1 16 58)), some (.inl s17), some (.inl v25), some (.inl v23), none, none, none]) d_KReader_attributes_121 rfl rfl ?_
        refine k_sb (lv' := [some (.inr 16), none, none, none, some (.inl s17), some (.inl v25), some (.inl v23), none, none, none]) (sb_s (sb_n (sb_n (sb_n (sb_s (sb_s (sb_s (sb_s (sb_s (sb_s sb_nil)))))))))) ?_
        refine k_loop (S := Int) (st := fun _ => []) (lv := fun s28 => [some (.inr 16), none, none, none, some (.inl s17), some (.inl s28), some (.inl v23), none, none, none]) (fun K26 hK27 s28 σ29 h => ?_) v25 _ h
        refine k_aload_n d_KReader_attributes_123 rfl ?_
        refine k_getI (x := (σ29.1 16 3)) d_KReader_attributes_124 fl_15_166 ob_16 rfl rfl ?_
        refine k_join (S := Unit) (pc' := 192) (st' := fun s32 => []) (lv' := fun s32 => [some (.inr 16), none, none, none, some (.inl s17), none, none, none, none, none]) (fun s32 σ33 h => ?_) (fun J30 hJ31 h => ?_) h
        · refine k_aload_n d_KReader_attributes_192 rfl ?_
          refine k_iload d_KReader_attributes_193 rfl ?_
          refine k_putI d_KReader_attributes_195 fl_15_379 ob_16 rfl ?_
          exact k_ret d_KReader_attributes_198 h
        · have hX48 : ((σ29.1 16 3) = 0 ∧ (¬ s28 < 0)) → OkI BF L (d + 1) 15 b_KReader_attributes 10 0 135 [] [some (.inr 16), none, none, none, some (.inl s17), some (.inl s28), some (.inl v23), none, none, none] σ29 (qv Q) := fun e50 => by
            have h := ipos e50 h
            refine k_aload_n d_KReader_attributes_135 rfl ?_
            refine k_iload d_KReader_attributes_136 rfl ?_
            refine k_cvi [.inl s28] d_KReader_attributes_138 ml_15_341 rfl rfl ob_16 rfl (s_KReader_name hL (by omega)  h) (fun v35 σ34 h => ?_)
            refine k_iflt d_KReader_attributes_141 rfl (fun c36 => ?_) (fun c36 => ?_)
            · have h := ipos c36 h
              exact k_sb (sb_s (sb_s (sb_s (sb_s (sb_s (sb_n (sb_n (sb_s (sb_s (sb_s sb_nil)))))))))) (hJ31 () _ h)
            · have h := ineg c36 h
              refine k_aload_n d_KReader_attributes_144 rfl ?_
              refine k_iload d_KReader_attributes_145 rfl ?_
              refine k_cvi [.inl s28] d_KReader_attributes_147 ml_15_341 rfl rfl ob_16 rfl (s_KReader_name hL (by omega)  h) (fun v38 σ37 h => ?_)
              refine k_istore (lv' := [some (.inr 16), none, none, none, some (.inl s17), some (.inl s28), some (.inl v23), some (.inl v38), none, none]) d_KReader_attributes_150 rfl rfl ?_
              refine k_aload_n d_KReader_attributes_152 rfl ?_
              refine k_iload d_KReader_attributes_153 rfl ?_
              refine k_iload d_KReader_attributes_155 rfl ?_
              refine k_iload d_KReader_attributes_157 rfl ?_
              obtain ⟨p47, h⟩ := h
              refine k_isub d_KReader_attributes_159 p47 ?_
              refine k_cvi [.inl s28, .inl (v38 - s28)] d_KReader_attributes_160 ml_15_470 rfl rfl ob_16 rfl (s_KReader_keep hL (by omega)  h) (fun v40 σ39 h => ?_)
              refine k_istore (lv' := [some (.inr 16), none, none, none, some (.inl s17), some (.inl s28), some (.inl v23), some (.inl v38), some (.inl v40), none]) d_KReader_attributes_163 rfl rfl ?_
              refine k_aload_n d_KReader_attributes_165 rfl ?_
              refine k_iload d_KReader_attributes_166 rfl ?_
              refine k_cvi [.inl s28] d_KReader_attributes_168 ml_15_665 rfl rfl ob_16 rfl (s_KReader_definition hL (by omega)  h) (fun v42 σ41 h => ?_)
              refine k_istore (lv' := [some (.inr 16), none, none, none, some (.inl s17), some (.inl s28), some (.inl v23), some (.inl v38), some (.inl v40), some (.inl v42)]) d_KReader_attributes_171 rfl rfl ?_
              refine k_aload_n d_KReader_attributes_173 rfl ?_
              refine k_iload d_KReader_attributes_174 rfl ?_
              refine k_iload d_KReader_attributes_176 rfl ?_
              refine k_cvv [.inl v23, .inl v40] d_KReader_attributes_178 ml_15_668 rfl rfl ob_16 rfl (s_KReader_define hL (by omega)  h) (fun σ43 h => ?_)
              refine k_aload_n d_KReader_attributes_181 rfl ?_
              refine k_iload d_KReader_attributes_182 rfl ?_
              refine k_cvi [.inl v42] d_KReader_attributes_184 ml_15_333 rfl rfl ob_16 rfl (s_KReader_spaces hL (by omega)  h) (fun v46 σ45 h => ?_)
              refine k_istore (lv' := [some (.inr 16), none, none, none, some (.inl s17), some (.inl v46), some (.inl v23), some (.inl v38), some (.inl v40), some (.inl v42)]) d_KReader_attributes_187 rfl rfl ?_
              refine k_goto d_KReader_attributes_189 rfl ?_
              exact k_sb (sb_s (sb_s (sb_s (sb_s (sb_s (sb_s (sb_s (sb_n (sb_n (sb_n sb_nil)))))))))) (hK27 v46 _ h)
          have hY49 : ¬ ((σ29.1 16 3) = 0 ∧ (¬ s28 < 0)) → OkI BF L (d + 1) 15 b_KReader_attributes 10 0 192 [] [some (.inr 16), none, none, none, some (.inl s17), some (.inl s28), some (.inl v23), none, none, none] σ29 (qv Q) := fun e50 => by
            have h := ineg e50 h
            exact k_sb (sb_s (sb_s (sb_s (sb_s (sb_s (sb_n (sb_n (sb_s (sb_s (sb_s sb_nil)))))))))) (hJ31 () _ h)
          refine k_ifne d_KReader_attributes_127 rfl (fun c51 => ?_) (fun c51 => ?_)
          · exact hY49 (fun z => c51 z.1)
          · refine k_iload d_KReader_attributes_130 rfl ?_
            refine k_iflt d_KReader_attributes_132 rfl (fun c52 => ?_) (fun c52 => ?_)
            · exact hY49 (fun z => (fun z => z c52) z.2)
            · exact hX48 (⟨c51, c52⟩)
      · have h := ipos c21 h
        exact k_ret d_KReader_attributes_105 h
    · refine k_ifge d_KReader_attributes_69 rfl (fun c54 => ?_) (fun c54 => ?_)
      · have h := ineg c54 h
        refine k_aload_n d_KReader_attributes_76 rfl ?_
        refine k_aload_n d_KReader_attributes_77 rfl ?_
        refine k_iload d_KReader_attributes_78 rfl ?_
        refine k_cvi [.inl s9.1] d_KReader_attributes_80 ml_15_297 rfl rfl ob_16 rfl (s_KReader_anySpaces hL (by omega)  h) (fun v56 σ55 h => ?_)
        refine k_ldcw d_KReader_attributes_83 ks_15_527 rfl ?_
        refine k_cvi [.inl v56, .inr 1124] d_KReader_attributes_86 ml_15_329 rfl rfl ob_16 rfl (s_KReader_word hL (by omega) it_1124 h) (fun v58 σ57 h => ?_)
        exact k_sb (sb_s (sb_s (sb_s (sb_s (sb_n (sb_s (sb_s (sb_s (sb_s (sb_s sb_nil)))))))))) (hJ16 v58 _ h)
      · have h := ipos c54 h
        refine k_iconst d_KReader_attributes_72 cI_m1 ?_
        refine k_goto d_KReader_attributes_73 rfl ?_
        exact k_sb (sb_s (sb_s (sb_s (sb_s (sb_n (sb_s (sb_s (sb_s (sb_s (sb_s sb_nil)))))))))) (hJ16 (-1) _ h)
  · refine k_iflt d_KReader_attributes_36 rfl (fun c59 => ?_) (fun c59 => ?_)
    · have h := ipos c59 h
      exact k_sb (sb_s (sb_s (sb_s (sb_s (sb_s (sb_n (sb_s (sb_s (sb_s (sb_s sb_nil)))))))))) (hJ12 () _ h)
    · have h := ineg c59 h
      refine k_aload_n d_KReader_attributes_39 rfl ?_
      refine k_iload d_KReader_attributes_40 rfl ?_
      refine k_cvi [.inl s9.2] d_KReader_attributes_42 ml_15_341 rfl rfl ob_16 rfl (s_KReader_name hL (by omega)  h) (fun v61 σ60 h => ?_)
      refine k_iflt d_KReader_attributes_45 rfl (fun c62 => ?_) (fun c62 => ?_)
      · have h := ipos c62 h
        exact k_sb (sb_s (sb_s (sb_s (sb_s (sb_s (sb_n (sb_s (sb_s (sb_s (sb_s sb_nil)))))))))) (hJ12 () _ h)
      · have h := ineg c62 h
        refine k_aload_n d_KReader_attributes_48 rfl ?_
        refine k_iload d_KReader_attributes_49 rfl ?_
        refine k_cvi [.inl s9.2] d_KReader_attributes_51 ml_15_665 rfl rfl ob_16 rfl (s_KReader_definition hL (by omega)  h) (fun v64 σ63 h => ?_)
        refine k_istore (lv' := [some (.inr 16), some (.inl v2), some (.inl v4), some (.inl (σ3.1 16 58)), some (.inl v64), some (.inl s9.2), none, none, none, none]) d_KReader_attributes_54 rfl rfl ?_
        refine k_aload_n d_KReader_attributes_56 rfl ?_
        refine k_iload d_KReader_attributes_57 rfl ?_
        refine k_cvi [.inl v64] d_KReader_attributes_59 ml_15_333 rfl rfl ob_16 rfl (s_KReader_spaces hL (by omega)  h) (fun v66 σ65 h => ?_)
        refine k_istore (lv' := [some (.inr 16), some (.inl v2), some (.inl v4), some (.inl (σ3.1 16 58)), some (.inl v64), some (.inl v66), none, none, none, none]) d_KReader_attributes_62 rfl rfl ?_
        refine k_goto d_KReader_attributes_64 rfl ?_
        exact k_sb (sb_s (sb_s (sb_s (sb_s (sb_s (sb_s (sb_s (sb_s (sb_s (sb_s sb_nil)))))))))) (hK8 (v64, v66) _ h)
theorem d_KReader_entityText_0 : decode b_KReader_entityText 0 = .ok (.iload_n 1, 1) := by decide +kernel
theorem d_KReader_entityText_1 : decode b_KReader_entityText 1 = .ok (.ifCond .ge 7, 3) := by decide +kernel
theorem d_KReader_entityText_4 : decode b_KReader_entityText 4 = .ok (.iconst 0, 1) := by decide +kernel
theorem d_KReader_entityText_5 : decode b_KReader_entityText 5 = .ok (.goto 8, 3) := by decide +kernel
theorem d_KReader_entityText_8 : decode b_KReader_entityText 8 = .ok (.aload_n 0, 1) := by decide +kernel
theorem d_KReader_entityText_9 : decode b_KReader_entityText 9 = .ok (.iload_n 1, 1) := by decide +kernel
theorem d_KReader_entityText_10 : decode b_KReader_entityText 10 = .ok (.invokevirtual 282, 3) := by decide +kernel
theorem d_KReader_entityText_13 : decode b_KReader_entityText 13 = .ok (.istore_n 2, 1) := by decide +kernel
theorem d_KReader_entityText_14 : decode b_KReader_entityText 14 = .ok (.iload_n 2, 1) := by decide +kernel
theorem d_KReader_entityText_15 : decode b_KReader_entityText 15 = .ok (.invokestatic 310, 3) := by decide +kernel
theorem d_KReader_entityText_18 : decode b_KReader_entityText 18 = .ok (.ifCond .ne 5, 3) := by decide +kernel
theorem d_KReader_entityText_21 : decode b_KReader_entityText 21 = .ok (.iconst (-1), 1) := by decide +kernel
theorem d_KReader_entityText_22 : decode b_KReader_entityText 22 = .ok (.ireturn, 1) := by decide +kernel
theorem d_KReader_entityText_23 : decode b_KReader_entityText 23 = .ok (.iload_n 1, 1) := by decide +kernel
theorem d_KReader_entityText_24 : decode b_KReader_entityText 24 = .ok (.iconst 1, 1) := by decide +kernel
theorem d_KReader_entityText_25 : decode b_KReader_entityText 25 = .ok (.iadd, 1) := by decide +kernel
theorem d_KReader_entityText_26 : decode b_KReader_entityText 26 = .ok (.istore_n 3, 1) := by decide +kernel
theorem d_KReader_entityText_27 : decode b_KReader_entityText 27 = .ok (.iload_n 3, 1) := by decide +kernel
theorem d_KReader_entityText_28 : decode b_KReader_entityText 28 = .ok (.ifCond .lt 75, 3) := by decide +kernel
theorem d_KReader_entityText_31 : decode b_KReader_entityText 31 = .ok (.iload_n 3, 1) := by decide +kernel
theorem d_KReader_entityText_32 : decode b_KReader_entityText 32 = .ok (.aload_n 0, 1) := by decide +kernel
theorem d_KReader_entityText_33 : decode b_KReader_entityText 33 = .ok (.getfield 273, 3) := by decide +kernel
theorem d_KReader_entityText_36 : decode b_KReader_entityText 36 = .ok (.if_icmp .ge 67, 3) := by decide +kernel
theorem d_KReader_entityText_39 : decode b_KReader_entityText 39 = .ok (.aload_n 0, 1) := by decide +kernel
theorem d_KReader_entityText_40 : decode b_KReader_entityText 40 = .ok (.getfield 45, 3) := by decide +kernel
theorem d_KReader_entityText_43 : decode b_KReader_entityText 43 = .ok (.iload_n 3, 1) := by decide +kernel
theorem d_KReader_entityText_44 : decode b_KReader_entityText 44 = .ok (.iaload, 1) := by decide +kernel
theorem d_KReader_entityText_45 : decode b_KReader_entityText 45 = .ok (.iload_n 2, 1) := by decide +kernel
theorem d_KReader_entityText_46 : decode b_KReader_entityText 46 = .ok (.if_icmp .eq 57, 3) := by decide +kernel
theorem d_KReader_entityText_49 : decode b_KReader_entityText 49 = .ok (.aload_n 0, 1) := by decide +kernel
theorem d_KReader_entityText_50 : decode b_KReader_entityText 50 = .ok (.getfield 45, 3) := by decide +kernel
theorem d_KReader_entityText_53 : decode b_KReader_entityText 53 = .ok (.iload_n 3, 1) := by decide +kernel
theorem d_KReader_entityText_54 : decode b_KReader_entityText 54 = .ok (.iaload, 1) := by decide +kernel
theorem d_KReader_entityText_55 : decode b_KReader_entityText 55 = .ok (.istore 4, 2) := by decide +kernel
theorem d_KReader_entityText_57 : decode b_KReader_entityText 57 = .ok (.iload 4, 2) := by decide +kernel
theorem d_KReader_entityText_59 : decode b_KReader_entityText 59 = .ok (.bipush 38, 2) := by decide +kernel
theorem d_KReader_entityText_61 : decode b_KReader_entityText 61 = .ok (.if_icmp .ne 11, 3) := by decide +kernel
theorem d_KReader_entityText_64 : decode b_KReader_entityText 64 = .ok (.aload_n 0, 1) := by decide +kernel
theorem d_KReader_entityText_65 : decode b_KReader_entityText 65 = .ok (.iload_n 3, 1) := by decide +kernel
theorem d_KReader_entityText_66 : decode b_KReader_entityText 66 = .ok (.invokevirtual 350, 3) := by decide +kernel
theorem d_KReader_entityText_69 : decode b_KReader_entityText 69 = .ok (.goto 30, 3) := by decide +kernel
theorem d_KReader_entityText_72 : decode b_KReader_entityText 72 = .ok (.iload 4, 2) := by decide +kernel
theorem d_KReader_entityText_74 : decode b_KReader_entityText 74 = .ok (.bipush 37, 2) := by decide +kernel
theorem d_KReader_entityText_76 : decode b_KReader_entityText 76 = .ok (.if_icmp .ne 20, 3) := by decide +kernel
theorem d_KReader_entityText_79 : decode b_KReader_entityText 79 = .ok (.aload_n 0, 1) := by decide +kernel
theorem d_KReader_entityText_80 : decode b_KReader_entityText 80 = .ok (.aload_n 0, 1) := by decide +kernel
theorem d_KReader_entityText_81 : decode b_KReader_entityText 81 = .ok (.iload_n 3, 1) := by decide +kernel
theorem d_KReader_entityText_82 : decode b_KReader_entityText 82 = .ok (.iconst 1, 1) := by decide +kernel
theorem d_KReader_entityText_83 : decode b_KReader_entityText 83 = .ok (.iadd, 1) := by decide +kernel
theorem d_KReader_entityText_84 : decode b_KReader_entityText 84 = .ok (.invokevirtual 341, 3) := by decide +kernel
theorem d_KReader_entityText_87 : decode b_KReader_entityText 87 = .ok (.ldc_w 344, 3) := by decide +kernel
theorem d_KReader_entityText_90 : decode b_KReader_entityText 90 = .ok (.invokevirtual 329, 3) := by decide +kernel
theorem d_KReader_entityText_93 : decode b_KReader_entityText 93 = .ok (.goto 6, 3) := by decide +kernel
theorem d_KReader_entityText_96 : decode b_KReader_entityText 96 = .ok (.iload_n 3, 1) := by decide +kernel
theorem d_KReader_entityText_97 : decode b_KReader_entityText 97 = .ok (.iconst 1, 1) := by decide +kernel
theorem d_KReader_entityText_98 : decode b_KReader_entityText 98 = .ok (.iadd, 1) := by decide +kernel
theorem d_KReader_entityText_99 : decode b_KReader_entityText 99 = .ok (.istore_n 3, 1) := by decide +kernel
theorem d_KReader_entityText_100 : decode b_KReader_entityText 100 = .ok (.goto (-73), 3) := by decide +kernel
theorem d_KReader_entityText_103 : decode b_KReader_entityText 103 = .ok (.iload_n 3, 1) := by decide +kernel
theorem d_KReader_entityText_104 : decode b_KReader_entityText 104 = .ok (.ifCond .lt 17, 3) := by decide +kernel
theorem d_KReader_entityText_107 : decode b_KReader_entityText 107 = .ok (.iload_n 3, 1) := by decide +kernel
theorem d_KReader_entityText_108 : decode b_KReader_entityText 108 = .ok (.aload_n 0, 1) := by decide +kernel
theorem d_KReader_entityText_109 : decode b_KReader_entityText 109 = .ok (.getfield 273, 3) := by decide +kernel
theorem d_KReader_entityText_112 : decode b_KReader_entityText 112 = .ok (.if_icmp .ge 9, 3) := by decide +kernel
theorem d_KReader_entityText_115 : decode b_KReader_entityText 115 = .ok (.iload_n 3, 1) := by decide +kernel
theorem d_KReader_entityText_116 : decode b_KReader_entityText 116 = .ok (.iconst 1, 1) := by decide +kernel
theorem d_KReader_entityText_117 : decode b_KReader_entityText 117 = .ok (.iadd, 1) := by decide +kernel
theorem d_KReader_entityText_118 : decode b_KReader_entityText 118 = .ok (.goto 4, 3) := by decide +kernel
theorem d_KReader_entityText_121 : decode b_KReader_entityText 121 = .ok (.iconst (-1), 1) := by decide +kernel
theorem d_KReader_entityText_122 : decode b_KReader_entityText 122 = .ok (.ireturn, 1) := by decide +kernel
/-- KReader_entityText -/
def w_KReader_entityText (L : Nat → Nat) (a1 : Int) (Q : Int → IS → Prop) (σ : IS) : Prop := WJ (fun (s3 : Int) (σ4 : IS) => w_KReader_isQuote L s3 (fun v6 σ5 => if v6 = 0 then Q (-1) σ5 else inR (a1 + 1) ∧ WL (fun (K8 : Int → IS → Prop) (s10 : Int) (σ11 : IS) => ((¬ s10 < 0 → (s10 < (σ11.1 16 17) → inL L 176 s10))) ∧ if ¬ s10 < 0 ∧ (s10 < (σ11.1 16 17) ∧ (¬ (σ11.2 176 (Int.toNat s10)) = s3)) then inL L 176 s10 ∧ WJ (fun (s15 : Int) (σ16 : IS) => K8 s15 σ16) (fun J13 => if (σ11.2 176 (Int.toNat s10)) = 38 then w_KReader_reference L s10 (fun v26 σ25 => J13 v26 σ25) σ11 else if (σ11.2 176 (Int.toNat s10)) = 37 then inR (s10 + 1) ∧ w_KReader_name L (s10 + 1) (fun v21 σ20 => w_KReader_word L v21 1100 (fun v23 σ22 => J13 v23 σ22) σ20) σ11 else inR (s10 + 1) ∧ J13 (s10 + 1) σ11) else ((¬ s10 < 0 → (s10 < (σ11.1 16 17) → inR (s10 + 1)))) ∧ Q (if s10 < 0 then ((-1) : Int) else (if s10 < (σ11.1 16 17) then (s10 + 1) else ((-1) : Int))) σ11) (a1 + 1) σ5) σ4) (fun J1 => if a1 < 0 then J1 0 σ else w_KReader_look L a1 (fun v51 σ50 => J1 v51 σ50) σ)
set_option maxHeartbeats 4000000 in
set_option maxRecDepth 20000 in
theorem s_KReader_entityText {L : Nat → Nat} (hL : ∀ r, L r < 2147483648) {d : Nat} (hd : 6 ≤ d) {a1 : Int} {Q : Int → IS → Prop} {σ : IS}  (h : w_KReader_entityText L a1 Q σ) : OkI BF L d 15 b_KReader_entityText 5 1 0 [] [some (.inr 16), some (.inl a1)] σ (qi Q) := by
  unfold w_KReader_entityText at h
  obtain ⟨d, rfl⟩ : ∃ e, d = e + 1 := ⟨d - 1, by omega⟩
  refine k_sb (lv' := [some (.inr 16), some (.inl a1), none, none, none]) (sb_s (sb_s (sb_e (sb_e (sb_e sb_nil))))) ?_
  refine k_iload_n d_KReader_entityText_0 rfl ?_
  refine k_join (S := Int) (pc' := 13) (st' := fun s3 => [.inl s3]) (lv' := fun s3 => [some (.inr 16), some (.inl a1), none, none, none]) (fun s3 σ4 h => ?_) (fun J1 hJ2 h => ?_) h
  · refine k_istore_n (lv' := [some (.inr 16), some (.inl a1), some (.inl s3), none, none]) d_KReader_entityText_13 rfl rfl ?_
    refine k_iload_n d_KReader_entityText_14 rfl ?_
    refine k_csi [.inl s3] d_KReader_entityText_15 ml_15_310 (Or.inl rfl) rfl rfl rfl (s_KReader_isQuote hL (by omega)  h) (fun v6 σ5 h => ?_)
    refine k_ifne d_KReader_entityText_18 rfl (fun c7 => ?_) (fun c7 => ?_)
    · have h := ineg c7 h
      refine k_iload_n d_KReader_entityText_23 rfl ?_
      refine k_iconst d_KReader_entityText_24 cI_1 ?_
      obtain ⟨p48, h⟩ := h
      refine k_iadd d_KReader_entityText_25 p48 ?_
      refine k_istore_n (lv' := [some (.inr 16), some (.inl a1), some (.inl s3), some (.inl (a1 + 1)), none]) d_KReader_entityText_26 rfl rfl ?_
      refine k_sb (lv' := [some (.inr 16), none, some (.inl s3), some (.inl (a1 + 1)), none]) (sb_s (sb_n (sb_s (sb_s (sb_s sb_nil))))) ?_
      refine k_loop (S := Int) (st := fun _ => []) (lv := fun s10 => [some (.inr 16), none, some (.inl s3), some (.inl s10), none]) (fun K8 hK9 s10 σ11 h => ?_) (a1 + 1) _ h
      refine k_iload_n d_KReader_entityText_27 rfl ?_
      obtain ⟨pt42, h⟩ := h
      have hX39 : (¬ s10 < 0 ∧ (s10 < (σ11.1 16 17) ∧ (¬ (σ11.2 176 (Int.toNat s10)) = s3))) → OkI BF L (d + 1) 15 b_KReader_entityText 5 1 49 [] [some (.inr 16), none, some (.inl s3), some (.inl s10), none] σ11 (qi Q) := fun e41 => by
        have h := ipos e41 h
        refine k_aload_n d_KReader_entityText_49 rfl ?_
        refine k_getR d_KReader_entityText_50 fl_15_45 ob_16 rfl ?_
        refine k_iload_n d_KReader_entityText_53 rfl ?_
        obtain ⟨p27, h⟩ := h
        refine k_ild (x := (σ11.2 176 (Int.toNat s10))) d_KReader_entityText_54 rI_176 p27 rfl ?_
        refine k_istore (lv' := [some (.inr 16), none, some (.inl s3), some (.inl s10), some (.inl (σ11.2 176 (Int.toNat s10)))]) d_KReader_entityText_55 rfl rfl ?_
        refine k_iload d_KReader_entityText_57 rfl ?_
        refine k_bipush d_KReader_entityText_59 cB_38 ?_
        refine k_join (S := Int) (pc' := 99) (st' := fun s15 => [.inl s15]) (lv' := fun s15 => [some (.inr 16), none, some (.inl s3), none, none]) (fun s15 σ16 h => ?_) (fun J13 hJ14 h => ?_) h
        · refine k_istore_n (lv' := [some (.inr 16), none, some (.inl s3), some (.inl s15), none]) d_KReader_entityText_99 rfl rfl ?_
          refine k_goto d_KReader_entityText_100 rfl ?_
          exact k_sb (sb_s (sb_s (sb_s (sb_s (sb_s sb_nil))))) (hK9 s15 _ h)
        · refine k_icne d_KReader_entityText_61 rfl (fun c17 => ?_) (fun c17 => ?_)
          · have h := ineg c17 h
            refine k_iload d_KReader_entityText_72 rfl ?_
            refine k_bipush d_KReader_entityText_74 cB_37 ?_
            refine k_icne d_KReader_entityText_76 rfl (fun c18 => ?_) (fun c18 => ?_)
            · have h := ineg c18 h
              refine k_iload_n d_KReader_entityText_96 rfl ?_
              refine k_iconst d_KReader_entityText_97 cI_1 ?_
              obtain ⟨p19, h⟩ := h
              refine k_iadd d_KReader_entityText_98 p19 ?_
              exact k_sb (sb_s (sb_s (sb_s (sb_n (sb_n sb_nil))))) (hJ14 (s10 + 1) _ h)
            · have h := ipos c18 h
              refine k_aload_n d_KReader_entityText_79 rfl ?_
              refine k_aload_n d_KReader_entityText_80 rfl ?_
              refine k_iload_n d_KReader_entityText_81 rfl ?_
              refine k_iconst d_KReader_entityText_82 cI_1 ?_
              obtain ⟨p24, h⟩ := h
              refine k_iadd d_KReader_entityText_83 p24 ?_
              refine k_cvi [.inl (s10 + 1)] d_KReader_entityText_84 ml_15_341 rfl rfl ob_16 rfl (s_KReader_name hL (by omega)  h) (fun v21 σ20 h => ?_)
              refine k_ldcw d_KReader_entityText_87 ks_15_344 rfl ?_
              refine k_cvi [.inl v21, .inr 1100] d_KReader_entityText_90 ml_15_329 rfl rfl ob_16 rfl (s_KReader_word hL (by omega) it_1100 h) (fun v23 σ22 h => ?_)
              refine k_goto d_KReader_entityText_93 rfl ?_
              exact k_sb (sb_s (sb_s (sb_s (sb_n (sb_n sb_nil))))) (hJ14 v23 _ h)
          · have h := ipos c17 h
            refine k_aload_n d_KReader_entityText_64 rfl ?_
            refine k_iload_n d_KReader_entityText_65 rfl ?_
            refine k_cvi [.inl s10] d_KReader_entityText_66 ml_15_350 rfl rfl ob_16 rfl (s_KReader_reference hL (by omega)  h) (fun v26 σ25 h => ?_)
            refine k_goto d_KReader_entityText_69 rfl ?_
            exact k_sb (sb_s (sb_s (sb_s (sb_n (sb_n sb_nil))))) (hJ14 v26 _ h)
      have hY40 : ¬ (¬ s10 < 0 ∧ (s10 < (σ11.1 16 17) ∧ (¬ (σ11.2 176 (Int.toNat s10)) = s3))) → OkI BF L (d + 1) 15 b_KReader_entityText 5 1 103 [] [some (.inr 16), none, some (.inl s3), some (.inl s10), none] σ11 (qi Q) := fun e41 => by
        have h := ineg e41 h
        refine k_iload_n d_KReader_entityText_103 rfl ?_
        obtain ⟨pt30, h⟩ := h
        have hV29 : OkI BF L (d + 1) 15 b_KReader_entityText 5 1 122 [.inl (if s10 < 0 then ((-1) : Int) else (if s10 < (σ11.1 16 17) then (s10 + 1) else ((-1) : Int)))] [some (.inr 16), none, some (.inl s3), some (.inl s10), none] σ11 (qi Q) := by
          exact k_iret d_KReader_entityText_122 (Or.inl rfl) h
        have pb31 := pt30
        refine k_iflt d_KReader_entityText_104 rfl (fun c32 => ?_) (fun c32 => ?_)
        · have hV33 := k_eqI (if_pos c32) hV29
          refine k_iconst d_KReader_entityText_121 cI_m1 ?_
          exact hV33
        · have pb31 := pb31 c32
          have hV34 := k_eqI (if_neg c32) hV29
          have pa35 := pb31
          refine k_iload_n d_KReader_entityText_107 rfl ?_
          refine k_aload_n d_KReader_entityText_108 rfl ?_
          refine k_getI (x := (σ11.1 16 17)) d_KReader_entityText_109 fl_15_273 ob_16 rfl rfl ?_
          refine k_icge d_KReader_entityText_112 rfl (fun c36 => ?_) (fun c36 => ?_)
          · have hV38 := k_eqI (if_neg c36) hV34
            refine k_iconst d_KReader_entityText_121 cI_m1 ?_
            exact hV38
          · have pa35 := pa35 c36
            have hV37 := k_eqI (if_pos c36) hV34
            have p28 := pa35
            refine k_iload_n d_KReader_entityText_115 rfl ?_
            refine k_iconst d_KReader_entityText_116 cI_1 ?_
            refine k_iadd d_KReader_entityText_117 p28 ?_
            refine k_goto d_KReader_entityText_118 rfl ?_
            exact hV37
      have pb43 := pt42
      refine k_iflt d_KReader_entityText_28 rfl (fun c44 => ?_) (fun c44 => ?_)
      · exact hY40 (fun z => z.1 c44)
      · have pb43 := pb43 c44
        have pa45 := pb43
        refine k_iload_n d_KReader_entityText_31 rfl ?_
        refine k_aload_n d_KReader_entityText_32 rfl ?_
        refine k_getI (x := (σ11.1 16 17)) d_KReader_entityText_33 fl_15_273 ob_16 rfl rfl ?_
        refine k_icge d_KReader_entityText_36 rfl (fun c46 => ?_) (fun c46 => ?_)
        · exact hY40 (fun z => (fun z => c46 z.1) z.2)
        · have pa45 := pa45 c46
          have p12 := pa45
          refine k_aload_n d_KReader_entityText_39 rfl ?_
          refine k_getR d_KReader_entityText_40 fl_15_45 ob_16 rfl ?_
          refine k_iload_n d_KReader_entityText_43 rfl ?_
          refine k_ild (x := (σ11.2 176 (Int.toNat s10))) d_KReader_entityText_44 rI_176 p12 rfl ?_
          refine k_iload_n d_KReader_entityText_45 rfl ?_
          refine k_iceq d_KReader_entityText_46 rfl (fun c47 => ?_) (fun c47 => ?_)
          · exact hY40 (fun z => (fun z => (fun z => z c47) z.2) z.2)
          · exact hX39 (⟨c44, ⟨c46, c47⟩⟩)
    · have h := ipos c7 h
      refine k_iconst d_KReader_entityText_21 cI_m1 ?_
      exact k_iret d_KReader_entityText_22 (Or.inl rfl) h
  · refine k_ifge d_KReader_entityText_1 rfl (fun c49 => ?_) (fun c49 => ?_)
    · have h := ineg c49 h
      refine k_aload_n d_KReader_entityText_8 rfl ?_
      refine k_iload_n d_KReader_entityText_9 rfl ?_
      refine k_cvi [.inl a1] d_KReader_entityText_10 ml_15_282 rfl rfl ob_16 rfl (s_KReader_look hL (by omega)  h) (fun v51 σ50 h => ?_)
      exact k_sb (sb_s (sb_s (sb_s (sb_s (sb_s sb_nil))))) (hJ2 v51 _ h)
    · have h := ipos c49 h
      refine k_iconst d_KReader_entityText_4 cI_0 ?_
      refine k_goto d_KReader_entityText_5 rfl ?_
      exact k_sb (sb_s (sb_s (sb_s (sb_s (sb_s sb_nil))))) (hJ2 0 _ h)
theorem d_KReader_publicLiteral_0 : decode b_KReader_publicLiteral 0 = .ok (.aload_n 0, 1) := by decide +kernel
theorem d_KReader_publicLiteral_1 : decode b_KReader_publicLiteral 1 = .ok (.iload_n 1, 1) := by decide +kernel
theorem d_KReader_publicLiteral_2 : decode b_KReader_publicLiteral 2 = .ok (.invokevirtual 313, 3) := by decide +kernel
theorem d_KReader_publicLiteral_5 : decode b_KReader_publicLiteral 5 = .ok (.istore_n 2, 1) := by decide +kernel
theorem d_KReader_publicLiteral_6 : decode b_KReader_publicLiteral 6 = .ok (.iload_n 1, 1) := by decide +kernel
theorem d_KReader_publicLiteral_7 : decode b_KReader_publicLiteral 7 = .ok (.iconst 1, 1) := by decide +kernel
theorem d_KReader_publicLiteral_8 : decode b_KReader_publicLiteral 8 = .ok (.iadd, 1) := by decide +kernel
theorem d_KReader_publicLiteral_9 : decode b_KReader_publicLiteral 9 = .ok (.istore_n 3, 1) := by decide +kernel
theorem d_KReader_publicLiteral_10 : decode b_KReader_publicLiteral 10 = .ok (.iload_n 2, 1) := by decide +kernel
theorem d_KReader_publicLiteral_11 : decode b_KReader_publicLiteral 11 = .ok (.ifCond .lt 87, 3) := by decide +kernel
theorem d_KReader_publicLiteral_14 : decode b_KReader_publicLiteral 14 = .ok (.iload_n 3, 1) := by decide +kernel
theorem d_KReader_publicLiteral_15 : decode b_KReader_publicLiteral 15 = .ok (.iload_n 2, 1) := by decide +kernel
theorem d_KReader_publicLiteral_16 : decode b_KReader_publicLiteral 16 = .ok (.iconst 1, 1) := by decide +kernel
theorem d_KReader_publicLiteral_17 : decode b_KReader_publicLiteral 17 = .ok (.isub, 1) := by decide +kernel
theorem d_KReader_publicLiteral_18 : decode b_KReader_publicLiteral 18 = .ok (.if_icmp .ge 80, 3) := by decide +kernel
theorem d_KReader_publicLiteral_21 : decode b_KReader_publicLiteral 21 = .ok (.aload_n 0, 1) := by decide +kernel
theorem d_KReader_publicLiteral_22 : decode b_KReader_publicLiteral 22 = .ok (.getfield 45, 3) := by decide +kernel
theorem d_KReader_publicLiteral_25 : decode b_KReader_publicLiteral 25 = .ok (.iload_n 3, 1) := by decide +kernel
theorem d_KReader_publicLiteral_26 : decode b_KReader_publicLiteral 26 = .ok (.iaload, 1) := by decide +kernel
theorem d_KReader_publicLiteral_27 : decode b_KReader_publicLiteral 27 = .ok (.istore 4, 2) := by decide +kernel
theorem d_KReader_publicLiteral_29 : decode b_KReader_publicLiteral 29 = .ok (.iload 4, 2) := by decide +kernel
theorem d_KReader_publicLiteral_31 : decode b_KReader_publicLiteral 31 = .ok (.bipush 32, 2) := by decide +kernel
theorem d_KReader_publicLiteral_33 : decode b_KReader_publicLiteral 33 = .ok (.if_icmp .eq 45, 3) := by decide +kernel
theorem d_KReader_publicLiteral_36 : decode b_KReader_publicLiteral 36 = .ok (.iload 4, 2) := by decide +kernel
theorem d_KReader_publicLiteral_38 : decode b_KReader_publicLiteral 38 = .ok (.bipush 10, 2) := by decide +kernel
theorem d_KReader_publicLiteral_40 : decode b_KReader_publicLiteral 40 = .ok (.if_icmp .eq 38, 3) := by decide +kernel
theorem d_KReader_publicLiteral_43 : decode b_KReader_publicLiteral 43 = .ok (.iload 4, 2) := by decide +kernel
theorem d_KReader_publicLiteral_45 : decode b_KReader_publicLiteral 45 = .ok (.invokestatic 316, 3) := by decide +kernel
theorem d_KReader_publicLiteral_48 : decode b_KReader_publicLiteral 48 = .ok (.ifCond .ne 30, 3) := by decide +kernel
theorem d_KReader_publicLiteral_51 : decode b_KReader_publicLiteral 51 = .ok (.iload 4, 2) := by decide +kernel
theorem d_KReader_publicLiteral_53 : decode b_KReader_publicLiteral 53 = .ok (.invokestatic 319, 3) := by decide +kernel
theorem d_KReader_publicLiteral_56 : decode b_KReader_publicLiteral 56 = .ok (.ifCond .ne 22, 3) := by decide +kernel
theorem d_KReader_publicLiteral_59 : decode b_KReader_publicLiteral 59 = .ok (.iload 4, 2) := by decide +kernel
theorem d_KReader_publicLiteral_61 : decode b_KReader_publicLiteral 61 = .ok (.sipush 128, 3) := by decide +kernel
theorem d_KReader_publicLiteral_64 : decode b_KReader_publicLiteral 64 = .ok (.if_icmp .ge 18, 3) := by decide +kernel
theorem d_KReader_publicLiteral_67 : decode b_KReader_publicLiteral 67 = .ok (.ldc_w 322, 3) := by decide +kernel
theorem d_KReader_publicLiteral_70 : decode b_KReader_publicLiteral 70 = .ok (.iload 4, 2) := by decide +kernel
theorem d_KReader_publicLiteral_72 : decode b_KReader_publicLiteral 72 = .ok (.invokevirtual 324, 3) := by decide +kernel
theorem d_KReader_publicLiteral_75 : decode b_KReader_publicLiteral 75 = .ok (.ifCond .lt 7, 3) := by decide +kernel
theorem d_KReader_publicLiteral_78 : decode b_KReader_publicLiteral 78 = .ok (.iconst 1, 1) := by decide +kernel
theorem d_KReader_publicLiteral_79 : decode b_KReader_publicLiteral 79 = .ok (.goto 4, 3) := by decide +kernel
theorem d_KReader_publicLiteral_82 : decode b_KReader_publicLiteral 82 = .ok (.iconst 0, 1) := by decide +kernel
theorem d_KReader_publicLiteral_83 : decode b_KReader_publicLiteral 83 = .ok (.istore 5, 2) := by decide +kernel
theorem d_KReader_publicLiteral_85 : decode b_KReader_publicLiteral 85 = .ok (.iload 5, 2) := by decide +kernel
theorem d_KReader_publicLiteral_87 : decode b_KReader_publicLiteral 87 = .ok (.ifCond .ne 5, 3) := by decide +kernel
theorem d_KReader_publicLiteral_90 : decode b_KReader_publicLiteral 90 = .ok (.iconst (-1), 1) := by decide +kernel
theorem d_KReader_publicLiteral_91 : decode b_KReader_publicLiteral 91 = .ok (.ireturn, 1) := by decide +kernel
theorem d_KReader_publicLiteral_92 : decode b_KReader_publicLiteral 92 = .ok (.iinc 3 1, 3) := by decide +kernel
theorem d_KReader_publicLiteral_95 : decode b_KReader_publicLiteral 95 = .ok (.goto (-85), 3) := by decide +kernel
theorem d_KReader_publicLiteral_98 : decode b_KReader_publicLiteral 98 = .ok (.iload_n 2, 1) := by decide +kernel
theorem d_KReader_publicLiteral_99 : decode b_KReader_publicLiteral 99 = .ok (.ireturn, 1) := by decide +kernel
/-- KReader_publicLiteral -/
def w_KReader_publicLiteral (L : Nat → Nat) (a1 : Int) (Q : Int → IS → Prop) (σ : IS) : Prop := w_KReader_literal L a1 (fun v2 σ1 => inR (a1 + 1) ∧ WL (fun (K3 : Int → IS → Prop) (s5 : Int) (σ6 : IS) => ((¬ v2 < 0 → inR (v2 - 1))) ∧ if ¬ v2 < 0 ∧ (s5 < (v2 - 1)) then inL L 176 s5 ∧ WJ (fun (s10 : Int) (σ11 : IS) => if s10 = 0 then Q (-1) σ11 else inR (s5 + 1) ∧ K3 (s5 + 1) σ11) (fun J8 => WJ (fun (s16 : Unit) (σ17 : IS) => J8 1 σ17) (fun J14 => if ¬ (σ6.2 176 (Int.toNat s5)) = 32 ∧ (¬ (σ6.2 176 (Int.toNat s5)) = 10) then w_K_isLetter L (σ6.2 176 (Int.toNat s5)) (fun v19 σ18 => if v19 = 0 then w_K_isDigit L (σ6.2 176 (Int.toNat s5)) (fun v22 σ21 => if v22 = 0 then if ¬ (σ6.2 176 (Int.toNat s5)) < 128 ∨ ((tF 1097 (σ6.2 176 (Int.toNat s5))) < 0) then J8 0 σ21 else J14 () σ21 else J14 () σ21) σ18 else J14 () σ18) σ6 else J14 () σ6)) else Q v2 σ6) (a1 + 1) σ1) σ
set_option maxHeartbeats 4000000 in
set_option maxRecDepth 20000 in
theorem s_KReader_publicLiteral {L : Nat → Nat} (hL : ∀ r, L r < 2147483648) {d : Nat} (hd : 2 ≤ d) {a1 : Int} {Q : Int → IS → Prop} {σ : IS}  (h : w_KReader_publicLiteral L a1 Q σ) : OkI BF L d 15 b_KReader_publicLiteral 6 1 0 [] [some (.inr 16), some (.inl a1)] σ (qi Q) := by
  unfold w_KReader_publicLiteral at h
  obtain ⟨d, rfl⟩ : ∃ e, d = e + 1 := ⟨d - 1, by omega⟩
  refine k_sb (lv' := [some (.inr 16), some (.inl a1), none, none, none, none]) (sb_s (sb_s (sb_e (sb_e (sb_e (sb_e sb_nil)))))) ?_
  refine k_aload_n d_KReader_publicLiteral_0 rfl ?_
  refine k_iload_n d_KReader_publicLiteral_1 rfl ?_
  refine k_cvi [.inl a1] d_KReader_publicLiteral_2 ml_15_313 rfl rfl ob_16 rfl (s_KReader_literal hL (by omega)  h) (fun v2 σ1 h => ?_)
  refine k_istore_n (lv' := [some (.inr 16), some (.inl a1), some (.inl v2), none, none, none]) d_KReader_publicLiteral_5 rfl rfl ?_
  refine k_iload_n d_KReader_publicLiteral_6 rfl ?_
  refine k_iconst d_KReader_publicLiteral_7 cI_1 ?_
  obtain ⟨p42, h⟩ := h
  refine k_iadd d_KReader_publicLiteral_8 p42 ?_
  refine k_istore_n (lv' := [some (.inr 16), some (.inl a1), some (.inl v2), some (.inl (a1 + 1)), none, none]) d_KReader_publicLiteral_9 rfl rfl ?_
  refine k_sb (lv' := [some (.inr 16), none, some (.inl v2), some (.inl (a1 + 1)), none, none]) (sb_s (sb_n (sb_s (sb_s (sb_s (sb_s sb_nil)))))) ?_
  refine k_loop (S := Int) (st := fun _ => []) (lv := fun s5 => [some (.inr 16), none, some (.inl v2), some (.inl s5), none, none]) (fun K3 hK4 s5 σ6 h => ?_) (a1 + 1) _ h
  refine k_iload_n d_KReader_publicLiteral_10 rfl ?_
  obtain ⟨pt38, h⟩ := h
  have hX35 : (¬ v2 < 0 ∧ (s5 < (v2 - 1))) → OkI BF L (d + 1) 15 b_KReader_publicLiteral 6 1 21 [] [some (.inr 16), none, some (.inl v2), some (.inl s5), none, none] σ6 (qi Q) := fun e37 => by
    have h := ipos e37 h
    refine k_aload_n d_KReader_publicLiteral_21 rfl ?_
    refine k_getR d_KReader_publicLiteral_22 fl_15_45 ob_16 rfl ?_
    refine k_iload_n d_KReader_publicLiteral_25 rfl ?_
    obtain ⟨p34, h⟩ := h
    refine k_ild (x := (σ6.2 176 (Int.toNat s5))) d_KReader_publicLiteral_26 rI_176 p34 rfl ?_
    refine k_istore (lv' := [some (.inr 16), none, some (.inl v2), some (.inl s5), some (.inl (σ6.2 176 (Int.toNat s5))), none]) d_KReader_publicLiteral_27 rfl rfl ?_
    refine k_iload d_KReader_publicLiteral_29 rfl ?_
    refine k_bipush d_KReader_publicLiteral_31 cB_32 ?_
    refine k_join (S := Int) (pc' := 83) (st' := fun s10 => [.inl s10]) (lv' := fun s10 => [some (.inr 16), none, some (.inl v2), some (.inl s5), none, none]) (fun s10 σ11 h => ?_) (fun J8 hJ9 h => ?_) h
    · refine k_istore (lv' := [some (.inr 16), none, some (.inl v2), some (.inl s5), none, some (.inl s10)]) d_KReader_publicLiteral_83 rfl rfl ?_
      refine k_iload d_KReader_publicLiteral_85 rfl ?_
      refine k_ifne d_KReader_publicLiteral_87 rfl (fun c12 => ?_) (fun c12 => ?_)
      · have h := ineg c12 h
        obtain ⟨p13, h⟩ := h
        refine k_iinc (lv' := [some (.inr 16), none, some (.inl v2), some (.inl (s5 + 1)), none, some (.inl s10)]) d_KReader_publicLiteral_92 cI_1 rfl rfl p13 rfl ?_
        refine k_goto d_KReader_publicLiteral_95 rfl ?_
        exact k_sb (sb_s (sb_s (sb_s (sb_s (sb_s (sb_n sb_nil)))))) (hK4 (s5 + 1) _ h)
      · have h := ipos c12 h
        refine k_iconst d_KReader_publicLiteral_90 cI_m1 ?_
        exact k_iret d_KReader_publicLiteral_91 (Or.inl rfl) h
    · refine k_join (S := Unit) (pc' := 78) (st' := fun s16 => []) (lv' := fun s16 => [some (.inr 16), none, some (.inl v2), some (.inl s5), none, none]) (fun s16 σ17 h => ?_) (fun J14 hJ15 h => ?_) h
      · refine k_iconst d_KReader_publicLiteral_78 cI_1 ?_
        refine k_goto d_KReader_publicLiteral_79 rfl ?_
        exact k_sb (sb_s (sb_s (sb_s (sb_s (sb_s (sb_s sb_nil)))))) (hJ9 1 _ h)
      · have hX29 : (¬ (σ6.2 176 (Int.toNat s5)) = 32 ∧ (¬ (σ6.2 176 (Int.toNat s5)) = 10)) → OkI BF L (d + 1) 15 b_KReader_publicLiteral 6 1 43 [] [some (.inr 16), none, some (.inl v2), some (.inl s5), some (.inl (σ6.2 176 (Int.toNat s5))), none] σ6 (qi Q) := fun e31 => by
          have h := ipos e31 h
          refine k_iload d_KReader_publicLiteral_43 rfl ?_
          refine k_csi [.inl (σ6.2 176 (Int.toNat s5))] d_KReader_publicLiteral_45 ml_15_316 (Or.inr rfl) rfl rfl rfl (s_K_isLetter hL (by omega)  h) (fun v19 σ18 h => ?_)
          refine k_ifne d_KReader_publicLiteral_48 rfl (fun c20 => ?_) (fun c20 => ?_)
          · have h := ineg c20 h
            exact k_sb (sb_s (sb_s (sb_s (sb_s (sb_n (sb_s sb_nil)))))) (hJ15 () _ h)
          · have h := ipos c20 h
            refine k_iload d_KReader_publicLiteral_51 rfl ?_
            refine k_csi [.inl (σ6.2 176 (Int.toNat s5))] d_KReader_publicLiteral_53 ml_15_319 (Or.inr rfl) rfl rfl rfl (s_K_isDigit hL (by omega)  h) (fun v22 σ21 h => ?_)
            refine k_ifne d_KReader_publicLiteral_56 rfl (fun c23 => ?_) (fun c23 => ?_)
            · have h := ineg c23 h
              exact k_sb (sb_s (sb_s (sb_s (sb_s (sb_n (sb_s sb_nil)))))) (hJ15 () _ h)
            · have h := ipos c23 h
              refine k_iload d_KReader_publicLiteral_59 rfl ?_
              refine k_sipush d_KReader_publicLiteral_61 cS_128 ?_
              have hX24 : (¬ (σ6.2 176 (Int.toNat s5)) < 128 ∨ ((tF 1097 (σ6.2 176 (Int.toNat s5))) < 0)) → OkI BF L (d + 1) 15 b_KReader_publicLiteral 6 1 82 [] [some (.inr 16), none, some (.inl v2), some (.inl s5), some (.inl (σ6.2 176 (Int.toNat s5))), none] σ21 (qi Q) := fun e26 => by
                have h := ipos e26 h
                refine k_iconst d_KReader_publicLiteral_82 cI_0 ?_
                exact k_sb (sb_s (sb_s (sb_s (sb_s (sb_n (sb_s sb_nil)))))) (hJ9 0 _ h)
              have hY25 : ¬ (¬ (σ6.2 176 (Int.toNat s5)) < 128 ∨ ((tF 1097 (σ6.2 176 (Int.toNat s5))) < 0)) → OkI BF L (d + 1) 15 b_KReader_publicLiteral 6 1 78 [] [some (.inr 16), none, some (.inl v2), some (.inl s5), some (.inl (σ6.2 176 (Int.toNat s5))), none] σ21 (qi Q) := fun e26 => by
                have h := ineg e26 h
                exact k_sb (sb_s (sb_s (sb_s (sb_s (sb_n (sb_s sb_nil)))))) (hJ15 () _ h)
              refine k_icge d_KReader_publicLiteral_64 rfl (fun c27 => ?_) (fun c27 => ?_)
              · exact hX24 (Or.inl c27)
              · refine k_ldcw d_KReader_publicLiteral_67 ks_15_322 rfl ?_
                refine k_iload d_KReader_publicLiteral_70 rfl ?_
                refine k_tidx d_KReader_publicLiteral_72 ml_15_324 it_1097 rfl ?_
                refine k_iflt d_KReader_publicLiteral_75 rfl (fun c28 => ?_) (fun c28 => ?_)
                · exact hX24 (Or.inr (c28))
                · exact hY25 (fun z => z.elim (fun y => y c27) (c28))
        have hY30 : ¬ (¬ (σ6.2 176 (Int.toNat s5)) = 32 ∧ (¬ (σ6.2 176 (Int.toNat s5)) = 10)) → OkI BF L (d + 1) 15 b_KReader_publicLiteral 6 1 78 [] [some (.inr 16), none, some (.inl v2), some (.inl s5), some (.inl (σ6.2 176 (Int.toNat s5))), none] σ6 (qi Q) := fun e31 => by
          have h := ineg e31 h
          exact k_sb (sb_s (sb_s (sb_s (sb_s (sb_n (sb_s sb_nil)))))) (hJ15 () _ h)
        refine k_iceq d_KReader_publicLiteral_33 rfl (fun c32 => ?_) (fun c32 => ?_)
        · exact hY30 (fun z => z.1 c32)
        · refine k_iload d_KReader_publicLiteral_36 rfl ?_
          refine k_bipush d_KReader_publicLiteral_38 cB_10 ?_
          refine k_iceq d_KReader_publicLiteral_40 rfl (fun c33 => ?_) (fun c33 => ?_)
          · exact hY30 (fun z => (fun z => z c33) z.2)
          · exact hX29 (⟨c32, c33⟩)
  have hY36 : ¬ (¬ v2 < 0 ∧ (s5 < (v2 - 1))) → OkI BF L (d + 1) 15 b_KReader_publicLiteral 6 1 98 [] [some (.inr 16), none, some (.inl v2), some (.inl s5), none, none] σ6 (qi Q) := fun e37 => by
    have h := ineg e37 h
    refine k_iload_n d_KReader_publicLiteral_98 rfl ?_
    exact k_iret d_KReader_publicLiteral_99 (Or.inl rfl) h
  have pb39 := pt38
  refine k_iflt d_KReader_publicLiteral_11 rfl (fun c40 => ?_) (fun c40 => ?_)
  · exact hY36 (fun z => z.1 c40)
  · have pb39 := pb39 c40
    have p7 := pb39
    refine k_iload_n d_KReader_publicLiteral_14 rfl ?_
    refine k_iload_n d_KReader_publicLiteral_15 rfl ?_
    refine k_iconst d_KReader_publicLiteral_16 cI_1 ?_
    refine k_isub d_KReader_publicLiteral_17 p7 ?_
    refine k_icge d_KReader_publicLiteral_18 rfl (fun c41 => ?_) (fun c41 => ?_)
    · exact hY36 (fun z => (c41) z.2)
    · exact hX35 (⟨c40, c41⟩)
theorem d_KReader_outside_0 : decode b_KReader_outside 0 = .ok (.aload_n 0, 1) := by decide +kernel
theorem d_KReader_outside_1 : decode b_KReader_outside 1 = .ok (.iload_n 1, 1) := by decide +kernel
theorem d_KReader_outside_2 : decode b_KReader_outside 2 = .ok (.ldc_w 327, 3) := by decide +kernel
theorem d_KReader_outside_5 : decode b_KReader_outside 5 = .ok (.invokevirtual 329, 3) := by decide +kernel
theorem d_KReader_outside_8 : decode b_KReader_outside 8 = .ok (.istore_n 2, 1) := by decide +kernel
theorem d_KReader_outside_9 : decode b_KReader_outside 9 = .ok (.iload_n 2, 1) := by decide +kernel
theorem d_KReader_outside_10 : decode b_KReader_outside 10 = .ok (.ifCond .lt 13, 3) := by decide +kernel
theorem d_KReader_outside_13 : decode b_KReader_outside 13 = .ok (.aload_n 0, 1) := by decide +kernel
theorem d_KReader_outside_14 : decode b_KReader_outside 14 = .ok (.aload_n 0, 1) := by decide +kernel
theorem d_KReader_outside_15 : decode b_KReader_outside 15 = .ok (.iload_n 2, 1) := by decide +kernel
theorem d_KReader_outside_16 : decode b_KReader_outside 16 = .ok (.invokevirtual 333, 3) := by decide +kernel
theorem d_KReader_outside_19 : decode b_KReader_outside 19 = .ok (.invokevirtual 313, 3) := by decide +kernel
theorem d_KReader_outside_22 : decode b_KReader_outside 22 = .ok (.ireturn, 1) := by decide +kernel
theorem d_KReader_outside_23 : decode b_KReader_outside 23 = .ok (.aload_n 0, 1) := by decide +kernel
theorem d_KReader_outside_24 : decode b_KReader_outside 24 = .ok (.aload_n 0, 1) := by decide +kernel
theorem d_KReader_outside_25 : decode b_KReader_outside 25 = .ok (.aload_n 0, 1) := by decide +kernel
theorem d_KReader_outside_26 : decode b_KReader_outside 26 = .ok (.aload_n 0, 1) := by decide +kernel
theorem d_KReader_outside_27 : decode b_KReader_outside 27 = .ok (.aload_n 0, 1) := by decide +kernel
theorem d_KReader_outside_28 : decode b_KReader_outside 28 = .ok (.iload_n 1, 1) := by decide +kernel
theorem d_KReader_outside_29 : decode b_KReader_outside 29 = .ok (.ldc_w 336, 3) := by decide +kernel
theorem d_KReader_outside_32 : decode b_KReader_outside 32 = .ok (.invokevirtual 329, 3) := by decide +kernel
theorem d_KReader_outside_35 : decode b_KReader_outside 35 = .ok (.invokevirtual 333, 3) := by decide +kernel
theorem d_KReader_outside_38 : decode b_KReader_outside 38 = .ok (.invokevirtual 338, 3) := by decide +kernel
theorem d_KReader_outside_41 : decode b_KReader_outside 41 = .ok (.invokevirtual 333, 3) := by decide +kernel
theorem d_KReader_outside_44 : decode b_KReader_outside 44 = .ok (.invokevirtual 313, 3) := by decide +kernel
theorem d_KReader_outside_47 : decode b_KReader_outside 47 = .ok (.ireturn, 1) := by decide +kernel
/-- KReader_outside -/
def w_KReader_outside (L : Nat → Nat) (a1 : Int) (Q : Int → IS → Prop) (σ : IS) : Prop := w_KReader_word L a1 1098 (fun v2 σ1 => if v2 < 0 then w_KReader_word L a1 1099 (fun v5 σ4 => w_KReader_spaces L v5 (fun v7 σ6 => w_KReader_publicLiteral L v7 (fun v9 σ8 => w_KReader_spaces L v9 (fun v11 σ10 => w_KReader_literal L v11 (fun v13 σ12 => Q v13 σ12) σ10) σ8) σ6) σ4) σ1 else w_KReader_spaces L v2 (fun v15 σ14 => w_KReader_literal L v15 (fun v17 σ16 => Q v17 σ16) σ14) σ1) σ
set_option maxHeartbeats 4000000 in
set_option maxRecDepth 20000 in
theorem s_KReader_outside {L : Nat → Nat} (hL : ∀ r, L r < 2147483648) {d : Nat} (hd : 3 ≤ d) {a1 : Int} {Q : Int → IS → Prop} {σ : IS}  (h : w_KReader_outside L a1 Q σ) : OkI BF L d 15 b_KReader_outside 3 1 0 [] [some (.inr 16), some (.inl a1)] σ (qi Q) := by
  unfold w_KReader_outside at h
  obtain ⟨d, rfl⟩ : ∃ e, d = e + 1 := ⟨d - 1, by omega⟩
  refine k_sb (lv' := [some (.inr 16), some (.inl a1), none]) (sb_s (sb_s (sb_e sb_nil))) ?_
  refine k_aload_n d_KReader_outside_0 rfl ?_
  refine k_iload_n d_KReader_outside_1 rfl ?_
  refine k_ldcw d_KReader_outside_2 ks_15_327 rfl ?_
  refine k_cvi [.inl a1, .inr 1098] d_KReader_outside_5 ml_15_329 rfl rfl ob_16 rfl (s_KReader_word hL (by omega) it_1098 h) (fun v2 σ1 h => ?_)
  refine k_istore_n (lv' := [some (.inr 16), some (.inl a1), some (.inl v2)]) d_KReader_outside_8 rfl rfl ?_
  refine k_iload_n d_KReader_outside_9 rfl ?_
  refine k_iflt d_KReader_outside_10 rfl (fun c3 => ?_) (fun c3 => ?_)
  · have h := ipos c3 h
    refine k_aload_n d_KReader_outside_23 rfl ?_
    refine k_aload_n d_KReader_outside_24 rfl ?_
    refine k_aload_n d_KReader_outside_25 rfl ?_
    refine k_aload_n d_KReader_outside_26 rfl ?_
    refine k_aload_n d_KReader_outside_27 rfl ?_
    refine k_iload_n d_KReader_outside_28 rfl ?_
    refine k_ldcw d_KReader_outside_29 ks_15_336 rfl ?_
    refine k_cvi [.inl a1, .inr 1099] d_KReader_outside_32 ml_15_329 rfl rfl ob_16 rfl (s_KReader_word hL (by omega) it_1099 h) (fun v5 σ4 h => ?_)
    refine k_cvi [.inl v5] d_KReader_outside_35 ml_15_333 rfl rfl ob_16 rfl (s_KReader_spaces hL (by omega)  h) (fun v7 σ6 h => ?_)
    refine k_cvi [.inl v7] d_KReader_outside_38 ml_15_338 rfl rfl ob_16 rfl (s_KReader_publicLiteral hL (by omega)  h) (fun v9 σ8 h => ?_)
    refine k_cvi [.inl v9] d_KReader_outside_41 ml_15_333 rfl rfl ob_16 rfl (s_KReader_spaces hL (by omega)  h) (fun v11 σ10 h => ?_)
    refine k_cvi [.inl v11] d_KReader_outside_44 ml_15_313 rfl rfl ob_16 rfl (s_KReader_literal hL (by omega)  h) (fun v13 σ12 h => ?_)
    exact k_iret d_KReader_outside_47 (Or.inl rfl) h
  · have h := ineg c3 h
    refine k_aload_n d_KReader_outside_13 rfl ?_
    refine k_aload_n d_KReader_outside_14 rfl ?_
    refine k_iload_n d_KReader_outside_15 rfl ?_
    refine k_cvi [.inl v2] d_KReader_outside_16 ml_15_333 rfl rfl ob_16 rfl (s_KReader_spaces hL (by omega)  h) (fun v15 σ14 h => ?_)
    refine k_cvi [.inl v15] d_KReader_outside_19 ml_15_313 rfl rfl ob_16 rfl (s_KReader_literal hL (by omega)  h) (fun v17 σ16 h => ?_)
    exact k_iret d_KReader_outside_22 (Or.inl rfl) h
theorem d_KReader_entity_0 : decode b_KReader_entity 0 = .ok (.aload_n 0, 1) := by decide +kernel
theorem d_KReader_entity_1 : decode b_KReader_entity 1 = .ok (.aload_n 0, 1) := by decide +kernel
theorem d_KReader_entity_2 : decode b_KReader_entity 2 = .ok (.getfield 379, 3) := by decide +kernel
theorem d_KReader_entity_5 : decode b_KReader_entity 5 = .ok (.bipush 8, 2) := by decide +kernel
theorem d_KReader_entity_7 : decode b_KReader_entity 7 = .ok (.iadd, 1) := by decide +kernel
theorem d_KReader_entity_8 : decode b_KReader_entity 8 = .ok (.invokevirtual 333, 3) := by decide +kernel
theorem d_KReader_entity_11 : decode b_KReader_entity 11 = .ok (.istore_n 1, 1) := by decide +kernel
theorem d_KReader_entity_12 : decode b_KReader_entity 12 = .ok (.aload_n 0, 1) := by decide +kernel
theorem d_KReader_entity_13 : decode b_KReader_entity 13 = .ok (.iload_n 1, 1) := by decide +kernel
theorem d_KReader_entity_14 : decode b_KReader_entity 14 = .ok (.ldc_w 685, 3) := by decide +kernel
theorem d_KReader_entity_17 : decode b_KReader_entity 17 = .ok (.invokevirtual 329, 3) := by decide +kernel
theorem d_KReader_entity_20 : decode b_KReader_entity 20 = .ok (.istore_n 2, 1) := by decide +kernel
theorem d_KReader_entity_21 : decode b_KReader_entity 21 = .ok (.iload_n 2, 1) := by decide +kernel
theorem d_KReader_entity_22 : decode b_KReader_entity 22 = .ok (.ifCond .lt 7, 3) := by decide +kernel
theorem d_KReader_entity_25 : decode b_KReader_entity 25 = .ok (.iconst 1, 1) := by decide +kernel
theorem d_KReader_entity_26 : decode b_KReader_entity 26 = .ok (.goto 4, 3) := by decide +kernel
theorem d_KReader_entity_29 : decode b_KReader_entity 29 = .ok (.iconst 0, 1) := by decide +kernel
theorem d_KReader_entity_30 : decode b_KReader_entity 30 = .ok (.istore_n 3, 1) := by decide +kernel
theorem d_KReader_entity_31 : decode b_KReader_entity 31 = .ok (.iload_n 3, 1) := by decide +kernel
theorem d_KReader_entity_32 : decode b_KReader_entity 32 = .ok (.ifCond .eq 11, 3) := by decide +kernel
theorem d_KReader_entity_35 : decode b_KReader_entity 35 = .ok (.aload_n 0, 1) := by decide +kernel
theorem d_KReader_entity_36 : decode b_KReader_entity 36 = .ok (.iload_n 2, 1) := by decide +kernel
theorem d_KReader_entity_37 : decode b_KReader_entity 37 = .ok (.invokevirtual 333, 3) := by decide +kernel
theorem d_KReader_entity_40 : decode b_KReader_entity 40 = .ok (.goto 4, 3) := by decide +kernel
theorem d_KReader_entity_43 : decode b_KReader_entity 43 = .ok (.iload_n 1, 1) := by decide +kernel
theorem d_KReader_entity_44 : decode b_KReader_entity 44 = .ok (.istore 4, 2) := by decide +kernel
theorem d_KReader_entity_46 : decode b_KReader_entity 46 = .ok (.aload_n 0, 1) := by decide +kernel
theorem d_KReader_entity_47 : decode b_KReader_entity 47 = .ok (.iload 4, 2) := by decide +kernel
theorem d_KReader_entity_49 : decode b_KReader_entity 49 = .ok (.invokevirtual 341, 3) := by decide +kernel
theorem d_KReader_entity_52 : decode b_KReader_entity 52 = .ok (.istore 5, 2) := by decide +kernel
theorem d_KReader_entity_54 : decode b_KReader_entity 54 = .ok (.aload_n 0, 1) := by decide +kernel
theorem d_KReader_entity_55 : decode b_KReader_entity 55 = .ok (.iload 5, 2) := by decide +kernel
theorem d_KReader_entity_57 : decode b_KReader_entity 57 = .ok (.invokevirtual 333, 3) := by decide +kernel
theorem d_KReader_entity_60 : decode b_KReader_entity 60 = .ok (.istore 6, 2) := by decide +kernel
theorem d_KReader_entity_62 : decode b_KReader_entity 62 = .ok (.aload_n 0, 1) := by decide +kernel
theorem d_KReader_entity_63 : decode b_KReader_entity 63 = .ok (.iload 6, 2) := by decide +kernel
theorem d_KReader_entity_65 : decode b_KReader_entity 65 = .ok (.invokevirtual 687, 3) := by decide +kernel
theorem d_KReader_entity_68 : decode b_KReader_entity 68 = .ok (.istore 7, 2) := by decide +kernel
theorem d_KReader_entity_70 : decode b_KReader_entity 70 = .ok (.iload 7, 2) := by decide +kernel
theorem d_KReader_entity_72 : decode b_KReader_entity 72 = .ok (.ifCond .lt 7, 3) := by decide +kernel
theorem d_KReader_entity_75 : decode b_KReader_entity 75 = .ok (.iconst 1, 1) := by decide +kernel
theorem d_KReader_entity_76 : decode b_KReader_entity 76 = .ok (.goto 4, 3) := by decide +kernel
theorem d_KReader_entity_79 : decode b_KReader_entity 79 = .ok (.iconst 0, 1) := by decide +kernel
theorem d_KReader_entity_80 : decode b_KReader_entity 80 = .ok (.istore 8, 2) := by decide +kernel
theorem d_KReader_entity_82 : decode b_KReader_entity 82 = .ok (.iload 8, 2) := by decide +kernel
theorem d_KReader_entity_84 : decode b_KReader_entity 84 = .ok (.ifCond .ne 47, 3) := by decide +kernel
theorem d_KReader_entity_87 : decode b_KReader_entity 87 = .ok (.aload_n 0, 1) := by decide +kernel
theorem d_KReader_entity_88 : decode b_KReader_entity 88 = .ok (.iload 6, 2) := by decide +kernel
theorem d_KReader_entity_90 : decode b_KReader_entity 90 = .ok (.invokevirtual 501, 3) := by decide +kernel
theorem d_KReader_entity_93 : decode b_KReader_entity 93 = .ok (.istore 7, 2) := by decide +kernel
theorem d_KReader_entity_95 : decode b_KReader_entity 95 = .ok (.aload_n 0, 1) := by decide +kernel
theorem d_KReader_entity_96 : decode b_KReader_entity 96 = .ok (.aload_n 0, 1) := by decide +kernel
theorem d_KReader_entity_97 : decode b_KReader_entity 97 = .ok (.iload 7, 2) := by decide +kernel
theorem d_KReader_entity_99 : decode b_KReader_entity 99 = .ok (.invokevirtual 333, 3) := by decide +kernel
theorem d_KReader_entity_102 : decode b_KReader_entity 102 = .ok (.ldc_w 690, 3) := by decide +kernel
theorem d_KReader_entity_105 : decode b_KReader_entity 105 = .ok (.invokevirtual 329, 3) := by decide +kernel
theorem d_KReader_entity_108 : decode b_KReader_entity 108 = .ok (.istore 9, 2) := by decide +kernel
theorem d_KReader_entity_110 : decode b_KReader_entity 110 = .ok (.iload 9, 2) := by decide +kernel
theorem d_KReader_entity_112 : decode b_KReader_entity 112 = .ok (.ifCond .lt 19, 3) := by decide +kernel
theorem d_KReader_entity_115 : decode b_KReader_entity 115 = .ok (.iload_n 3, 1) := by decide +kernel
theorem d_KReader_entity_116 : decode b_KReader_entity 116 = .ok (.ifCond .ne 15, 3) := by decide +kernel
theorem d_KReader_entity_119 : decode b_KReader_entity 119 = .ok (.aload_n 0, 1) := by decide +kernel
theorem d_KReader_entity_120 : decode b_KReader_entity 120 = .ok (.aload_n 0, 1) := by decide +kernel
theorem d_KReader_entity_121 : decode b_KReader_entity 121 = .ok (.iload 9, 2) := by decide +kernel
theorem d_KReader_entity_123 : decode b_KReader_entity 123 = .ok (.invokevirtual 333, 3) := by decide +kernel
theorem d_KReader_entity_126 : decode b_KReader_entity 126 = .ok (.invokevirtual 341, 3) := by decide +kernel
theorem d_KReader_entity_129 : decode b_KReader_entity 129 = .ok (.istore 7, 2) := by decide +kernel
theorem d_KReader_entity_131 : decode b_KReader_entity 131 = .ok (.iload 7, 2) := by decide +kernel
theorem d_KReader_entity_133 : decode b_KReader_entity 133 = .ok (.istore 9, 2) := by decide +kernel
theorem d_KReader_entity_135 : decode b_KReader_entity 135 = .ok (.aload_n 0, 1) := by decide +kernel
theorem d_KReader_entity_136 : decode b_KReader_entity 136 = .ok (.aload_n 0, 1) := by decide +kernel
theorem d_KReader_entity_137 : decode b_KReader_entity 137 = .ok (.iload 7, 2) := by decide +kernel
theorem d_KReader_entity_139 : decode b_KReader_entity 139 = .ok (.invokevirtual 297, 3) := by decide +kernel
theorem d_KReader_entity_142 : decode b_KReader_entity 142 = .ok (.ldc_w 527, 3) := by decide +kernel
theorem d_KReader_entity_145 : decode b_KReader_entity 145 = .ok (.invokevirtual 329, 3) := by decide +kernel
theorem d_KReader_entity_148 : decode b_KReader_entity 148 = .ok (.istore 7, 2) := by decide +kernel
theorem d_KReader_entity_150 : decode b_KReader_entity 150 = .ok (.aload_n 0, 1) := by decide +kernel
theorem d_KReader_entity_151 : decode b_KReader_entity 151 = .ok (.iload 7, 2) := by decide +kernel
theorem d_KReader_entity_153 : decode b_KReader_entity 153 = .ok (.invokevirtual 437, 3) := by decide +kernel
theorem d_KReader_entity_156 : decode b_KReader_entity 156 = .ok (.ifCond .ne 4, 3) := by decide +kernel
theorem d_KReader_entity_159 : decode b_KReader_entity 159 = .ok (.return_, 1) := by decide +kernel
theorem d_KReader_entity_160 : decode b_KReader_entity 160 = .ok (.iload 8, 2) := by decide +kernel
theorem d_KReader_entity_162 : decode b_KReader_entity 162 = .ok (.ifCond .ne 10, 3) := by decide +kernel
theorem d_KReader_entity_165 : decode b_KReader_entity 165 = .ok (.aload_n 0, 1) := by decide +kernel
theorem d_KReader_entity_166 : decode b_KReader_entity 166 = .ok (.iconst 3, 1) := by decide +kernel
theorem d_KReader_entity_167 : decode b_KReader_entity 167 = .ok (.invokevirtual 392, 3) := by decide +kernel
theorem d_KReader_entity_170 : decode b_KReader_entity 170 = .ok (.pop, 1) := by decide +kernel
theorem d_KReader_entity_171 : decode b_KReader_entity 171 = .ok (.return_, 1) := by decide +kernel
theorem d_KReader_entity_172 : decode b_KReader_entity 172 = .ok (.aload_n 0, 1) := by decide +kernel
theorem d_KReader_entity_173 : decode b_KReader_entity 173 = .ok (.getfield 172, 3) := by decide +kernel
theorem d_KReader_entity_176 : decode b_KReader_entity 176 = .ok (.istore 10, 2) := by decide +kernel
theorem d_KReader_entity_178 : decode b_KReader_entity 178 = .ok (.iload 6, 2) := by decide +kernel
theorem d_KReader_entity_180 : decode b_KReader_entity 180 = .ok (.iconst 1, 1) := by decide +kernel
theorem d_KReader_entity_181 : decode b_KReader_entity 181 = .ok (.iadd, 1) := by decide +kernel
theorem d_KReader_entity_182 : decode b_KReader_entity 182 = .ok (.istore 11, 2) := by decide +kernel
theorem d_KReader_entity_184 : decode b_KReader_entity 184 = .ok (.iload 11, 2) := by decide +kernel
theorem d_KReader_entity_186 : decode b_KReader_entity 186 = .ok (.iload 9, 2) := by decide +kernel
theorem d_KReader_entity_188 : decode b_KReader_entity 188 = .ok (.iconst 1, 1) := by decide +kernel
theorem d_KReader_entity_189 : decode b_KReader_entity 189 = .ok (.isub, 1) := by decide +kernel
theorem d_KReader_entity_190 : decode b_KReader_entity 190 = .ok (.if_icmp .ge 117, 3) := by decide +kernel
theorem d_KReader_entity_193 : decode b_KReader_entity 193 = .ok (.aload_n 0, 1) := by decide +kernel
theorem d_KReader_entity_194 : decode b_KReader_entity 194 = .ok (.getfield 166, 3) := by decide +kernel
theorem d_KReader_entity_197 : decode b_KReader_entity 197 = .ok (.ifCond .ne 110, 3) := by decide +kernel
theorem d_KReader_entity_200 : decode b_KReader_entity 200 = .ok (.aload_n 0, 1) := by decide +kernel
theorem d_KReader_entity_201 : decode b_KReader_entity 201 = .ok (.getfield 45, 3) := by decide +kernel
theorem d_KReader_entity_204 : decode b_KReader_entity 204 = .ok (.iload 11, 2) := by decide +kernel
theorem d_KReader_entity_206 : decode b_KReader_entity 206 = .ok (.iaload, 1) := by decide +kernel
theorem d_KReader_entity_207 : decode b_KReader_entity 207 = .ok (.istore 12, 2) := by decide +kernel
theorem d_KReader_entity_209 : decode b_KReader_entity 209 = .ok (.iload 12, 2) := by decide +kernel
theorem d_KReader_entity_211 : decode b_KReader_entity 211 = .ok (.bipush 37, 2) := by decide +kernel
theorem d_KReader_entity_213 : decode b_KReader_entity 213 = .ok (.if_icmp .ne 13, 3) := by decide +kernel
theorem d_KReader_entity_216 : decode b_KReader_entity 216 = .ok (.aload_n 0, 1) := by decide +kernel
theorem d_KReader_entity_217 : decode b_KReader_entity 217 = .ok (.bipush 13, 2) := by decide +kernel
theorem d_KReader_entity_219 : decode b_KReader_entity 219 = .ok (.invokevirtual 392, 3) := by decide +kernel
theorem d_KReader_entity_222 : decode b_KReader_entity 222 = .ok (.pop, 1) := by decide +kernel
theorem d_KReader_entity_223 : decode b_KReader_entity 223 = .ok (.goto 57, 3) := by decide +kernel
theorem d_KReader_entity_226 : decode b_KReader_entity 226 = .ok (.iload 12, 2) := by decide +kernel
theorem d_KReader_entity_228 : decode b_KReader_entity 228 = .ok (.bipush 38, 2) := by decide +kernel
theorem d_KReader_entity_230 : decode b_KReader_entity 230 = .ok (.if_icmp .ne 50, 3) := by decide +kernel
theorem d_KReader_entity_233 : decode b_KReader_entity 233 = .ok (.aload_n 0, 1) := by decide +kernel
theorem d_KReader_entity_234 : decode b_KReader_entity 234 = .ok (.getfield 45, 3) := by decide +kernel
theorem d_KReader_entity_237 : decode b_KReader_entity 237 = .ok (.iload 11, 2) := by decide +kernel
theorem d_KReader_entity_239 : decode b_KReader_entity 239 = .ok (.iconst 1, 1) := by decide +kernel
theorem d_KReader_entity_240 : decode b_KReader_entity 240 = .ok (.iadd, 1) := by decide +kernel
theorem d_KReader_entity_241 : decode b_KReader_entity 241 = .ok (.iaload, 1) := by decide +kernel
theorem d_KReader_entity_242 : decode b_KReader_entity 242 = .ok (.bipush 35, 2) := by decide +kernel
theorem d_KReader_entity_244 : decode b_KReader_entity 244 = .ok (.if_icmp .ne 36, 3) := by decide +kernel
theorem d_KReader_entity_247 : decode b_KReader_entity 247 = .ok (.aload_n 0, 1) := by decide +kernel
theorem d_KReader_entity_248 : decode b_KReader_entity 248 = .ok (.getfield 45, 3) := by decide +kernel
theorem d_KReader_entity_251 : decode b_KReader_entity 251 = .ok (.iload 11, 2) := by decide +kernel
theorem d_KReader_entity_253 : decode b_KReader_entity 253 = .ok (.invokestatic 692, 3) := by decide +kernel
theorem d_KReader_entity_256 : decode b_KReader_entity 256 = .ok (.istore 12, 2) := by decide +kernel
theorem d_KReader_entity_258 : decode b_KReader_entity 258 = .ok (.iload 12, 2) := by decide +kernel
theorem d_KReader_entity_260 : decode b_KReader_entity 260 = .ok (.ifCond .ge 10, 3) := by decide +kernel
theorem d_KReader_entity_263 : decode b_KReader_entity 263 = .ok (.aload_n 0, 1) := by decide +kernel
theorem d_KReader_entity_264 : decode b_KReader_entity 264 = .ok (.bipush 12, 2) := by decide +kernel
theorem d_KReader_entity_266 : decode b_KReader_entity 266 = .ok (.invokevirtual 392, 3) := by decide +kernel
theorem d_KReader_entity_269 : decode b_KReader_entity 269 = .ok (.pop, 1) := by decide +kernel
theorem d_KReader_entity_270 : decode b_KReader_entity 270 = .ok (.aload_n 0, 1) := by decide +kernel
theorem d_KReader_entity_271 : decode b_KReader_entity 271 = .ok (.iload 11, 2) := by decide +kernel
theorem d_KReader_entity_273 : decode b_KReader_entity 273 = .ok (.invokevirtual 350, 3) := by decide +kernel
theorem d_KReader_entity_276 : decode b_KReader_entity 276 = .ok (.iconst 1, 1) := by decide +kernel
theorem d_KReader_entity_277 : decode b_KReader_entity 277 = .ok (.isub, 1) := by decide +kernel
theorem d_KReader_entity_278 : decode b_KReader_entity 278 = .ok (.istore 11, 2) := by decide +kernel
theorem d_KReader_entity_280 : decode b_KReader_entity 280 = .ok (.aload_n 0, 1) := by decide +kernel
theorem d_KReader_entity_281 : decode b_KReader_entity 281 = .ok (.getfield 45, 3) := by decide +kernel
theorem d_KReader_entity_284 : decode b_KReader_entity 284 = .ok (.aload_n 0, 1) := by decide +kernel
theorem d_KReader_entity_285 : decode b_KReader_entity 285 = .ok (.getfield 172, 3) := by decide +kernel
theorem d_KReader_entity_288 : decode b_KReader_entity 288 = .ok (.iload 12, 2) := by decide +kernel
theorem d_KReader_entity_290 : decode b_KReader_entity 290 = .ok (.iastore, 1) := by decide +kernel
theorem d_KReader_entity_291 : decode b_KReader_entity 291 = .ok (.aload_n 0, 1) := by decide +kernel
theorem d_KReader_entity_292 : decode b_KReader_entity 292 = .ok (.dup, 1) := by decide +kernel
theorem d_KReader_entity_293 : decode b_KReader_entity 293 = .ok (.getfield 172, 3) := by decide +kernel
theorem d_KReader_entity_296 : decode b_KReader_entity 296 = .ok (.iconst 1, 1) := by decide +kernel
theorem d_KReader_entity_297 : decode b_KReader_entity 297 = .ok (.iadd, 1) := by decide +kernel
theorem d_KReader_entity_298 : decode b_KReader_entity 298 = .ok (.putfield 172, 3) := by decide +kernel
theorem d_KReader_entity_301 : decode b_KReader_entity 301 = .ok (.iinc 11 1, 3) := by decide +kernel
theorem d_KReader_entity_304 : decode b_KReader_entity 304 = .ok (.goto (-120), 3) := by decide +kernel
theorem d_KReader_entity_307 : decode b_KReader_entity 307 = .ok (.aload_n 0, 1) := by decide +kernel
theorem d_KReader_entity_308 : decode b_KReader_entity 308 = .ok (.getfield 166, 3) := by decide +kernel
theorem d_KReader_entity_311 : decode b_KReader_entity 311 = .ok (.ifCond .le 4, 3) := by decide +kernel
theorem d_KReader_entity_314 : decode b_KReader_entity 314 = .ok (.return_, 1) := by decide +kernel
theorem d_KReader_entity_315 : decode b_KReader_entity 315 = .ok (.aload_n 0, 1) := by decide +kernel
theorem d_KReader_entity_316 : decode b_KReader_entity 316 = .ok (.iload 4, 2) := by decide +kernel
theorem d_KReader_entity_318 : decode b_KReader_entity 318 = .ok (.iload 5, 2) := by decide +kernel
theorem d_KReader_entity_320 : decode b_KReader_entity 320 = .ok (.iload 4, 2) := by decide +kernel
theorem d_KReader_entity_322 : decode b_KReader_entity 322 = .ok (.isub, 1) := by decide +kernel
theorem d_KReader_entity_323 : decode b_KReader_entity 323 = .ok (.invokevirtual 470, 3) := by decide +kernel
theorem d_KReader_entity_326 : decode b_KReader_entity 326 = .ok (.istore 11, 2) := by decide +kernel
theorem d_KReader_entity_328 : decode b_KReader_entity 328 = .ok (.aload_n 0, 1) := by decide +kernel
theorem d_KReader_entity_329 : decode b_KReader_entity 329 = .ok (.iload 11, 2) := by decide +kernel
theorem d_KReader_entity_331 : decode b_KReader_entity 331 = .ok (.invokevirtual 473, 3) := by decide +kernel
theorem d_KReader_entity_334 : decode b_KReader_entity 334 = .ok (.aload_n 0, 1) := by decide +kernel
theorem d_KReader_entity_335 : decode b_KReader_entity 335 = .ok (.iload 11, 2) := by decide +kernel
theorem d_KReader_entity_337 : decode b_KReader_entity 337 = .ok (.iload_n 3, 1) := by decide +kernel
theorem d_KReader_entity_338 : decode b_KReader_entity 338 = .ok (.invokevirtual 532, 3) := by decide +kernel
theorem d_KReader_entity_341 : decode b_KReader_entity 341 = .ok (.ifCond .lt 12, 3) := by decide +kernel
theorem d_KReader_entity_344 : decode b_KReader_entity 344 = .ok (.aload_n 0, 1) := by decide +kernel
theorem d_KReader_entity_345 : decode b_KReader_entity 345 = .ok (.iload 10, 2) := by decide +kernel
theorem d_KReader_entity_347 : decode b_KReader_entity 347 = .ok (.putfield 172, 3) := by decide +kernel
theorem d_KReader_entity_350 : decode b_KReader_entity 350 = .ok (.goto 71, 3) := by decide +kernel
theorem d_KReader_entity_353 : decode b_KReader_entity 353 = .ok (.aload_n 0, 1) := by decide +kernel
theorem d_KReader_entity_354 : decode b_KReader_entity 354 = .ok (.getfield 63, 3) := by decide +kernel
theorem d_KReader_entity_357 : decode b_KReader_entity 357 = .ok (.aload_n 0, 1) := by decide +kernel
theorem d_KReader_entity_358 : decode b_KReader_entity 358 = .ok (.getfield 203, 3) := by decide +kernel
theorem d_KReader_entity_361 : decode b_KReader_entity 361 = .ok (.iload 11, 2) := by decide +kernel
theorem d_KReader_entity_363 : decode b_KReader_entity 363 = .ok (.iastore, 1) := by decide +kernel
theorem d_KReader_entity_364 : decode b_KReader_entity 364 = .ok (.aload_n 0, 1) := by decide +kernel
theorem d_KReader_entity_365 : decode b_KReader_entity 365 = .ok (.getfield 66, 3) := by decide +kernel
theorem d_KReader_entity_368 : decode b_KReader_entity 368 = .ok (.aload_n 0, 1) := by decide +kernel
theorem d_KReader_entity_369 : decode b_KReader_entity 369 = .ok (.getfield 203, 3) := by decide +kernel
theorem d_KReader_entity_372 : decode b_KReader_entity 372 = .ok (.iload_n 3, 1) := by decide +kernel
theorem d_KReader_entity_373 : decode b_KReader_entity 373 = .ok (.bastore, 1) := by decide +kernel
theorem d_KReader_entity_374 : decode b_KReader_entity 374 = .ok (.aload_n 0, 1) := by decide +kernel
theorem d_KReader_entity_375 : decode b_KReader_entity 375 = .ok (.getfield 69, 3) := by decide +kernel
theorem d_KReader_entity_378 : decode b_KReader_entity 378 = .ok (.aload_n 0, 1) := by decide +kernel
theorem d_KReader_entity_379 : decode b_KReader_entity 379 = .ok (.getfield 203, 3) := by decide +kernel
theorem d_KReader_entity_382 : decode b_KReader_entity 382 = .ok (.iload 10, 2) := by decide +kernel
theorem d_KReader_entity_384 : decode b_KReader_entity 384 = .ok (.iastore, 1) := by decide +kernel
theorem d_KReader_entity_385 : decode b_KReader_entity 385 = .ok (.aload_n 0, 1) := by decide +kernel
theorem d_KReader_entity_386 : decode b_KReader_entity 386 = .ok (.getfield 72, 3) := by decide +kernel
theorem d_KReader_entity_389 : decode b_KReader_entity 389 = .ok (.aload_n 0, 1) := by decide +kernel
theorem d_KReader_entity_390 : decode b_KReader_entity 390 = .ok (.getfield 203, 3) := by decide +kernel
theorem d_KReader_entity_393 : decode b_KReader_entity 393 = .ok (.aload_n 0, 1) := by decide +kernel
theorem d_KReader_entity_394 : decode b_KReader_entity 394 = .ok (.getfield 172, 3) := by decide +kernel
theorem d_KReader_entity_397 : decode b_KReader_entity 397 = .ok (.iload 10, 2) := by decide +kernel
theorem d_KReader_entity_399 : decode b_KReader_entity 399 = .ok (.isub, 1) := by decide +kernel
theorem d_KReader_entity_400 : decode b_KReader_entity 400 = .ok (.iastore, 1) := by decide +kernel
theorem d_KReader_entity_401 : decode b_KReader_entity 401 = .ok (.aload_n 0, 1) := by decide +kernel
theorem d_KReader_entity_402 : decode b_KReader_entity 402 = .ok (.getfield 75, 3) := by decide +kernel
theorem d_KReader_entity_405 : decode b_KReader_entity 405 = .ok (.aload_n 0, 1) := by decide +kernel
theorem d_KReader_entity_406 : decode b_KReader_entity 406 = .ok (.getfield 203, 3) := by decide +kernel
theorem d_KReader_entity_409 : decode b_KReader_entity 409 = .ok (.iconst 0, 1) := by decide +kernel
theorem d_KReader_entity_410 : decode b_KReader_entity 410 = .ok (.bastore, 1) := by decide +kernel
theorem d_KReader_entity_411 : decode b_KReader_entity 411 = .ok (.aload_n 0, 1) := by decide +kernel
theorem d_KReader_entity_412 : decode b_KReader_entity 412 = .ok (.dup, 1) := by decide +kernel
theorem d_KReader_entity_413 : decode b_KReader_entity 413 = .ok (.getfield 203, 3) := by decide +kernel
theorem d_KReader_entity_416 : decode b_KReader_entity 416 = .ok (.iconst 1, 1) := by decide +kernel
theorem d_KReader_entity_417 : decode b_KReader_entity 417 = .ok (.iadd, 1) := by decide +kernel
theorem d_KReader_entity_418 : decode b_KReader_entity 418 = .ok (.putfield 203, 3) := by decide +kernel
theorem d_KReader_entity_421 : decode b_KReader_entity 421 = .ok (.aload_n 0, 1) := by decide +kernel
theorem d_KReader_entity_422 : decode b_KReader_entity 422 = .ok (.iload 7, 2) := by decide +kernel
theorem d_KReader_entity_424 : decode b_KReader_entity 424 = .ok (.putfield 379, 3) := by decide +kernel
theorem d_KReader_entity_427 : decode b_KReader_entity 427 = .ok (.return_, 1) := by decide +kernel
/-- KReader_entity -/
def w_KReader_entity (L : Nat → Nat)  (Q : IS → Prop) (σ : IS) : Prop := inR ((σ.1 16 16) + 8) ∧ w_KReader_spaces L ((σ.1 16 16) + 8) (fun v2 σ1 => w_KReader_word L v2 1144 (fun v4 σ3 => WJ (fun (s7 : Int) (σ8 : IS) => w_KReader_name L s7 (fun v10 σ9 => w_KReader_spaces L v10 (fun v12 σ11 => w_KReader_entityText L v12 (fun v14 σ13 => WJ (fun (s17 : Int) (σ18 : IS) => w_KReader_anySpaces L s17 (fun v20 σ19 => w_KReader_word L v20 1124 (fun v22 σ21 => w_KReader_written L v22 (fun v24 σ23 => if v24 = 0 then Q σ23 else if (if v14 < 0 then (0 : Int) else (1 : Int)) = 0 then w_KReader_fail L 3 (fun v91 σ90 => Q σ90) σ23 else inR (v12 + 1) ∧ WL (fun (K27 : Int → IS → Prop) (s29 : Int) (σ30 : IS) => inR (s17 - 1) ∧ if s29 < (s17 - 1) ∧ ((σ30.1 16 3) = 0) then inL L 176 s29 ∧ WJ (fun (s33 : Int × Int) (σ34 : IS) => inL L 176 (σ34.1 16 6) ∧ inR ((σ34.1 16 6) + 1) ∧ inR (s33.1 + 1) ∧ K27 (s33.1 + 1) (pf (pr σ34 176 (Int.toNat (σ34.1 16 6)) s33.2) 16 6 ((σ34.1 16 6) + 1))) (fun J31 => if (σ30.2 176 (Int.toNat s29)) = 37 then w_KReader_fail L 13 (fun v61 σ60 => J31 (s29, (σ30.2 176 (Int.toNat s29))) σ60) σ30 else (((σ30.2 176 (Int.toNat s29)) = 38 → (inR (s29 + 1) ∧ inL L 176 (s29 + 1)))) ∧ if (σ30.2 176 (Int.toNat s29)) = 38 ∧ ((σ30.2 176 (Int.toNat (s29 + 1))) = 35) then w_KReader_meant L 176 s29 (fun v42 σ41 => WJ (fun (s45 : Unit) (σ46 : IS) => w_KReader_reference L s29 (fun v48 σ47 => inR (v48 - 1) ∧ J31 ((v48 - 1), v42) σ47) σ46) (fun J43 => if v42 < 0 then w_KReader_fail L 12 (fun v52 σ51 => J43 () σ51) σ41 else J43 () σ41)) σ30 else J31 (s29, (σ30.2 176 (Int.toNat s29))) σ30) else if 0 < (σ30.1 16 3) then Q σ30 else inR (v10 - s7) ∧ w_KReader_keep L s7 (v10 - s7) (fun v65 σ64 => w_KReader_colons L v65 (fun σ66 => w_KReader_entityOf L v65 (if v4 < 0 then (0 : Int) else (1 : Int)) (fun v69 σ68 => WJ (fun (s72 : Unit) (σ73 : IS) => Q (pf σ73 16 16 v22)) (fun J70 => if v69 < 0 then inL L 182 (σ68.1 16 32) ∧ inL L 183 (σ68.1 16 32) ∧ inL L 184 (σ68.1 16 32) ∧ inR ((σ68.1 16 6) - (σ23.1 16 6)) ∧ inL L 185 (σ68.1 16 32) ∧ inL L 186 (σ68.1 16 32) ∧ inR ((σ68.1 16 32) + 1) ∧ J70 () (pf (pr (pr (pr (pr (pr σ68 182 (Int.toNat (σ68.1 16 32)) v65) 183 (Int.toNat (σ68.1 16 32)) (if v4 < 0 then (0 : Int) else (1 : Int))) 184 (Int.toNat (σ68.1 16 32)) (σ23.1 16 6)) 185 (Int.toNat (σ68.1 16 32)) ((σ68.1 16 6) - (σ23.1 16 6))) 186 (Int.toNat (σ68.1 16 32)) 0) 16 32 ((σ68.1 16 32) + 1)) else J70 () (pf σ68 16 6 (σ23.1 16 6)))) σ66) σ64) σ30) (v12 + 1) σ23) σ21) σ19) σ18) (fun J15 => if (if v14 < 0 then (0 : Int) else (1 : Int)) = 0 then w_KReader_outside L v12 (fun v94 σ93 => w_KReader_spaces L v94 (fun v96 σ95 => w_KReader_word L v96 1145 (fun v98 σ97 => if ¬ v98 < 0 ∧ ((if v4 < 0 then (0 : Int) else (1 : Int)) = 0) then w_KReader_spaces L v98 (fun v100 σ99 => w_KReader_name L v100 (fun v102 σ101 => J15 v102 σ101) σ99) σ97 else J15 v94 σ97) σ95) σ93) σ13 else J15 v14 σ13)) σ11) σ9) σ8) (fun J5 => if (if v4 < 0 then (0 : Int) else (1 : Int)) = 0 then J5 v2 σ3 else w_KReader_spaces L v4 (fun v114 σ113 => J5 v114 σ113) σ3)) σ1) σ
set_option maxHeartbeats 4000000 in
set_option maxRecDepth 20000 in
theorem s_KReader_entity {L : Nat → Nat} (hL : ∀ r, L r < 2147483648) {d : Nat} (hd : 7 ≤ d)  {Q : IS → Prop} {σ : IS}  (h : w_KReader_entity L  Q σ) : OkI BF L d 15 b_KReader_entity 13 0 0 [] [some (.inr 16)] σ (qv Q) := by
  unfold w_KReader_entity at h
  obtain ⟨d, rfl⟩ : ∃ e, d = e + 1 := ⟨d - 1, by omega⟩
  refine k_sb (lv' := [some (.inr 16), none, none, none, none, none, none, none, none, none, none, none, none]) (sb_s (sb_e (sb_e (sb_e (sb_e (sb_e (sb_e (sb_e (sb_e (sb_e (sb_e (sb_e (sb_e sb_nil))))))))))))) ?_
  refine k_aload_n d_KReader_entity_0 rfl ?_
  refine k_aload_n d_KReader_entity_1 rfl ?_
  refine k_getI (x := (σ.1 16 16)) d_KReader_entity_2 fl_15_379 ob_16 rfl rfl ?_
  refine k_bipush d_KReader_entity_5 cB_8 ?_
  obtain ⟨p119, h⟩ := h
  refine k_iadd d_KReader_entity_7 p119 ?_
  refine k_cvi [.inl ((σ.1 16 16) + 8)] d_KReader_entity_8 ml_15_333 rfl rfl ob_16 rfl (s_KReader_spaces hL (by omega)  h) (fun v2 σ1 h => ?_)
  refine k_istore_n (lv' := [some (.inr 16), some (.inl v2), none, none, none, none, none, none, none, none, none, none, none]) d_KReader_entity_11 rfl rfl ?_
  refine k_aload_n d_KReader_entity_12 rfl ?_
  refine k_iload_n d_KReader_entity_13 rfl ?_
  refine k_ldcw d_KReader_entity_14 ks_15_685 rfl ?_
  refine k_cvi [.inl v2, .inr 1144] d_KReader_entity_17 ml_15_329 rfl rfl ob_16 rfl (s_KReader_word hL (by omega) it_1144 h) (fun v4 σ3 h => ?_)
  refine k_istore_n (lv' := [some (.inr 16), some (.inl v2), some (.inl v4), none, none, none, none, none, none, none, none, none, none]) d_KReader_entity_20 rfl rfl ?_
  refine k_iload_n d_KReader_entity_21 rfl ?_
  have hV115 : OkI BF L (d + 1) 15 b_KReader_entity 13 0 30 [.inl (if v4 < 0 then (0 : Int) else (1 : Int))] [some (.inr 16), some (.inl v2), some (.inl v4), none, none, none, none, none, none, none, none, none, none] σ3 (qv Q) := by
    refine k_istore_n (lv' := [some (.inr 16), some (.inl v2), some (.inl v4), some (.inl (if v4 < 0 then (0 : Int) else (1 : Int))), none, none, none, none, none, none, none, none, none]) d_KReader_entity_30 rfl rfl ?_
    refine k_iload_n d_KReader_entity_31 rfl ?_
    refine k_join (S := Int) (pc' := 44) (st' := fun s7 => [.inl s7]) (lv' := fun s7 => [some (.inr 16), none, none, some (.inl (if v4 < 0 then (0 : Int) else (1 : Int))), none, none, none, none, none, none, none, none, none]) (fun s7 σ8 h => ?_) (fun J5 hJ6 h => ?_) h
    · refine k_istore (lv' := [some (.inr 16), none, none, some (.inl (if v4 < 0 then (0 : Int) else (1 : Int))), some (.inl s7), none, none, none, none, none, none, none, none]) d_KReader_entity_44 rfl rfl ?_
      refine k_aload_n d_KReader_entity_46 rfl ?_
      refine k_iload d_KReader_entity_47 rfl ?_
      refine k_cvi [.inl s7] d_KReader_entity_49 ml_15_341 rfl rfl ob_16 rfl (s_KReader_name hL (by omega)  h) (fun v10 σ9 h => ?_)
      refine k_istore (lv' := [some (.inr 16), none, none, some (.inl (if v4 < 0 then (0 : Int) else (1 : Int))), some (.inl s7), some (.inl v10), none, none, none, none, none, none, none]) d_KReader_entity_52 rfl rfl ?_
      refine k_aload_n d_KReader_entity_54 rfl ?_
      refine k_iload d_KReader_entity_55 rfl ?_
      refine k_cvi [.inl v10] d_KReader_entity_57 ml_15_333 rfl rfl ob_16 rfl (s_KReader_spaces hL (by omega)  h) (fun v12 σ11 h => ?_)
      refine k_istore (lv' := [some (.inr 16), none, none, some (.inl (if v4 < 0 then (0 : Int) else (1 : Int))), some (.inl s7), some (.inl v10), some (.inl v12), none, none, none, none, none, none]) d_KReader_entity_60 rfl rfl ?_
      refine k_aload_n d_KReader_entity_62 rfl ?_
      refine k_iload d_KReader_entity_63 rfl ?_
      refine k_cvi [.inl v12] d_KReader_entity_65 ml_15_687 rfl rfl ob_16 rfl (s_KReader_entityText hL (by omega)  h) (fun v14 σ13 h => ?_)
      refine k_istore (lv' := [some (.inr 16), none, none, some (.inl (if v4 < 0 then (0 : Int) else (1 : Int))), some (.inl s7), some (.inl v10), some (.inl v12), some (.inl v14), none, none, none, none, none]) d_KReader_entity_68 rfl rfl ?_
      refine k_iload d_KReader_entity_70 rfl ?_
      have hV108 : OkI BF L (d + 1) 15 b_KReader_entity 13 0 80 [.inl (if v14 < 0 then (0 : Int) else (1 : Int))] [some (.inr 16), none, none, some (.inl (if v4 < 0 then (0 : Int) else (1 : Int))), some (.inl s7), some (.inl v10), some (.inl v12), some (.inl v14), none, none, none, none, none] σ13 (qv Q) := by
        refine k_istore (lv' := [some (.inr 16), none, none, some (.inl (if v4 < 0 then (0 : Int) else (1 : Int))), some (.inl s7), some (.inl v10), some (.inl v12), some (.inl v14), some (.inl (if v14 < 0 then (0 : Int) else (1 : Int))), none, none, none, none]) d_KReader_entity_80 rfl rfl ?_
        refine k_iload d_KReader_entity_82 rfl ?_
        refine k_join (S := Int) (pc' := 131) (st' := fun s17 => []) (lv' := fun s17 => [some (.inr 16), none, none, some (.inl (if v4 < 0 then (0 : Int) else (1 : Int))), some (.inl s7), some (.inl v10), some (.inl v12), some (.inl s17), some (.inl (if v14 < 0 then (0 : Int) else (1 : Int))), none, none, none, none]) (fun s17 σ18 h => ?_) (fun J15 hJ16 h => ?_) h
        · refine k_iload d_KReader_entity_131 rfl ?_
          refine k_istore (lv' := [some (.inr 16), none, none, some (.inl (if v4 < 0 then (0 : Int) else (1 : Int))), some (.inl s7), some (.inl v10), some (.inl v12), some (.inl s17), some (.inl (if v14 < 0 then (0 : Int) else (1 : Int))), some (.inl s17), none, none, none]) d_KReader_entity_133 rfl rfl ?_
          refine k_aload_n d_KReader_entity_135 rfl ?_
          refine k_aload_n d_KReader_entity_136 rfl ?_
          refine k_iload d_KReader_entity_137 rfl ?_
          refine k_cvi [.inl s17] d_KReader_entity_139 ml_15_297 rfl rfl ob_16 rfl (s_KReader_anySpaces hL (by omega)  h) (fun v20 σ19 h => ?_)
          refine k_ldcw d_KReader_entity_142 ks_15_527 rfl ?_
          refine k_cvi [.inl v20, .inr 1124] d_KReader_entity_145 ml_15_329 rfl rfl ob_16 rfl (s_KReader_word hL (by omega) it_1124 h) (fun v22 σ21 h => ?_)
          refine k_istore (lv' := [some (.inr 16), none, none, some (.inl (if v4 < 0 then (0 : Int) else (1 : Int))), some (.inl s7), some (.inl v10), some (.inl v12), some (.inl v22), some (.inl (if v14 < 0 then (0 : Int) else (1 : Int))), some (.inl s17), none, none, none]) d_KReader_entity_148 rfl rfl ?_
          refine k_aload_n d_KReader_entity_150 rfl ?_
          refine k_iload d_KReader_entity_151 rfl ?_
          refine k_cvi [.inl v22] d_KReader_entity_153 ml_15_437 rfl rfl ob_16 rfl (s_KReader_written hL (by omega)  h) (fun v24 σ23 h => ?_)
          refine k_ifne d_KReader_entity_156 rfl (fun c25 => ?_) (fun c25 => ?_)
          · have h := ineg c25 h
            refine k_iload d_KReader_entity_160 rfl ?_
            refine k_ifne d_KReader_entity_162 rfl (fun c26 => ?_) (fun c26 => ?_)
            · have h := ineg c26 h
              refine k_aload_n d_KReader_entity_172 rfl ?_
              refine k_getI (x := (σ23.1 16 6)) d_KReader_entity_173 fl_15_172 ob_16 rfl rfl ?_
              refine k_istore (lv' := [some (.inr 16), none, none, some (.inl (if v4 < 0 then (0 : Int) else (1 : Int))), some (.inl s7), some (.inl v10), some (.inl v12), some (.inl v22), some (.inl (if v14 < 0 then (0 : Int) else (1 : Int))), some (.inl s17), some (.inl (σ23.1 16 6)), none, none]) d_KReader_entity_176 rfl rfl ?_
              refine k_iload d_KReader_entity_178 rfl ?_
              refine k_iconst d_KReader_entity_180 cI_1 ?_
              obtain ⟨p89, h⟩ := h
              refine k_iadd d_KReader_entity_181 p89 ?_
              refine k_istore (lv' := [some (.inr 16), none, none, some (.inl (if v4 < 0 then (0 : Int) else (1 : Int))), some (.inl s7), some (.inl v10), some (.inl v12), some (.inl v22), some (.inl (if v14 < 0 then (0 : Int) else (1 : Int))), some (.inl s17), some (.inl (σ23.1 16 6)), some (.inl (v12 + 1)), none]) d_KReader_entity_182 rfl rfl ?_
              refine k_sb (lv' := [some (.inr 16), none, none, some (.inl (if v4 < 0 then (0 : Int) else (1 : Int))), some (.inl s7), some (.inl v10), none, some (.inl v22), none, some (.inl s17), some (.inl (σ23.1 16 6)), some (.inl (v12 + 1)), none]) (sb_s (sb_s (sb_s (sb_s (sb_s (sb_s (sb_n (sb_s (sb_n (sb_s (sb_s (sb_s (sb_s sb_nil))))))))))))) ?_
              refine k_loop (S := Int) (st := fun _ => []) (lv := fun s29 => [some (.inr 16), none, none, some (.inl (if v4 < 0 then (0 : Int) else (1 : Int))), some (.inl s7), some (.inl v10), none, some (.inl v22), none, some (.inl s17), some (.inl (σ23.1 16 6)), some (.inl s29), none]) (fun K27 hK28 s29 σ30 h => ?_) (v12 + 1) _ h
              refine k_iload d_KReader_entity_184 rfl ?_
              refine k_iload d_KReader_entity_186 rfl ?_
              refine k_iconst d_KReader_entity_188 cI_1 ?_
              obtain ⟨p88, h⟩ := h
              refine k_isub d_KReader_entity_189 p88 ?_
              have hX83 : (s29 < (s17 - 1) ∧ ((σ30.1 16 3) = 0)) → OkI BF L (d + 1) 15 b_KReader_entity 13 0 200 [] [some (.inr 16), none, none, some (.inl (if v4 < 0 then (0 : Int) else (1 : Int))), some (.inl s7), some (.inl v10), none, some (.inl v22), none, some (.inl s17), some (.inl (σ23.1 16 6)), some (.inl s29), none] σ30 (qv Q) := fun e85 => by
                have h := ipos e85 h
                refine k_aload_n d_KReader_entity_200 rfl ?_
                refine k_getR d_KReader_entity_201 fl_15_45 ob_16 rfl ?_
                refine k_iload d_KReader_entity_204 rfl ?_
                obtain ⟨p62, h⟩ := h
                refine k_ild (x := (σ30.2 176 (Int.toNat s29))) d_KReader_entity_206 rI_176 p62 rfl ?_
                refine k_istore (lv' := [some (.inr 16), none, none, some (.inl (if v4 < 0 then (0 : Int) else (1 : Int))), some (.inl s7), some (.inl v10), none, some (.inl v22), none, some (.inl s17), some (.inl (σ23.1 16 6)), some (.inl s29), some (.inl (σ30.2 176 (Int.toNat s29)))]) d_KReader_entity_207 rfl rfl ?_
                refine k_iload d_KReader_entity_209 rfl ?_
                refine k_bipush d_KReader_entity_211 cB_37 ?_
                refine k_join (S := Int × Int) (pc' := 280) (st' := fun s33 => []) (lv' := fun s33 => [some (.inr 16), none, none, some (.inl (if v4 < 0 then (0 : Int) else (1 : Int))), some (.inl s7), some (.inl v10), none, some (.inl v22), none, some (.inl s17), some (.inl (σ23.1 16 6)), some (.inl s33.1), some (.inl s33.2)]) (fun s33 σ34 h => ?_) (fun J31 hJ32 h => ?_) h
                · refine k_aload_n d_KReader_entity_280 rfl ?_
                  refine k_getR d_KReader_entity_281 fl_15_45 ob_16 rfl ?_
                  refine k_aload_n d_KReader_entity_284 rfl ?_
                  refine k_getI (x := (σ34.1 16 6)) d_KReader_entity_285 fl_15_172 ob_16 rfl rfl ?_
                  refine k_iload d_KReader_entity_288 rfl ?_
                  obtain ⟨p37, h⟩ := h
                  refine k_ist d_KReader_entity_290 rI_176 p37 ?_
                  refine k_aload_n d_KReader_entity_291 rfl ?_
                  refine k_dup d_KReader_entity_292 ?_
                  refine k_getI (x := (σ34.1 16 6)) d_KReader_entity_293 fl_15_172 ob_16 rfl rfl ?_
                  refine k_iconst d_KReader_entity_296 cI_1 ?_
                  obtain ⟨p36, h⟩ := h
                  refine k_iadd d_KReader_entity_297 p36 ?_
                  refine k_putI d_KReader_entity_298 fl_15_172 ob_16 rfl ?_
                  obtain ⟨p35, h⟩ := h
                  refine k_iinc (lv' := [some (.inr 16), none, none, some (.inl (if v4 < 0 then (0 : Int) else (1 : Int))), some (.inl s7), some (.inl v10), none, some (.inl v22), none, some (.inl s17), some (.inl (σ23.1 16 6)), some (.inl (s33.1 + 1)), some (.inl s33.2)]) d_KReader_entity_301 cI_1 rfl rfl p35 rfl ?_
                  refine k_goto d_KReader_entity_304 rfl ?_
                  exact k_sb (sb_s (sb_s (sb_s (sb_s (sb_s (sb_s (sb_s (sb_s (sb_s (sb_s (sb_s (sb_s (sb_n sb_nil))))))))))))) (hK28 (s33.1 + 1) _ h)
                · refine k_icne d_KReader_entity_213 rfl (fun c38 => ?_) (fun c38 => ?_)
                  · have h := ineg c38 h
                    refine k_iload d_KReader_entity_226 rfl ?_
                    refine k_bipush d_KReader_entity_228 cB_38 ?_
                    obtain ⟨pt56, h⟩ := h
                    have hX53 : ((σ30.2 176 (Int.toNat s29)) = 38 ∧ ((σ30.2 176 (Int.toNat (s29 + 1))) = 35)) → OkI BF L (d + 1) 15 b_KReader_entity 13 0 247 [] [some (.inr 16), none, none, some (.inl (if v4 < 0 then (0 : Int) else (1 : Int))), some (.inl s7), some (.inl v10), none, some (.inl v22), none, some (.inl s17), some (.inl (σ23.1 16 6)), some (.inl s29), some (.inl (σ30.2 176 (Int.toNat s29)))] σ30 (qv Q) := fun e55 => by
                      have h := ipos e55 h
                      refine k_aload_n d_KReader_entity_247 rfl ?_
                      refine k_getR d_KReader_entity_248 fl_15_45 ob_16 rfl ?_
                      refine k_iload d_KReader_entity_251 rfl ?_
                      refine k_csi [.inr 176, .inl s29] d_KReader_entity_253 ml_15_692 (Or.inl rfl) rfl rfl rfl (s_KReader_meant hL (by omega) rI_176 h) (fun v42 σ41 h => ?_)
                      refine k_istore (lv' := [some (.inr 16), none, none, some (.inl (if v4 < 0 then (0 : Int) else (1 : Int))), some (.inl s7), some (.inl v10), none, some (.inl v22), none, some (.inl s17), some (.inl (σ23.1 16 6)), some (.inl s29), some (.inl v42)]) d_KReader_entity_256 rfl rfl ?_
                      refine k_iload d_KReader_entity_258 rfl ?_
                      refine k_join (S := Unit) (pc' := 270) (st' := fun s45 => []) (lv' := fun s45 => [some (.inr 16), none, none, some (.inl (if v4 < 0 then (0 : Int) else (1 : Int))), some (.inl s7), some (.inl v10), none, some (.inl v22), none, some (.inl s17), some (.inl (σ23.1 16 6)), some (.inl s29), some (.inl v42)]) (fun s45 σ46 h => ?_) (fun J43 hJ44 h => ?_) h
                      · refine k_aload_n d_KReader_entity_270 rfl ?_
                        refine k_iload d_KReader_entity_271 rfl ?_
                        refine k_cvi [.inl s29] d_KReader_entity_273 ml_15_350 rfl rfl ob_16 rfl (s_KReader_reference hL (by omega)  h) (fun v48 σ47 h => ?_)
                        refine k_iconst d_KReader_entity_276 cI_1 ?_
                        obtain ⟨p49, h⟩ := h
                        refine k_isub d_KReader_entity_277 p49 ?_
                        refine k_istore (lv' := [some (.inr 16), none, none, some (.inl (if v4 < 0 then (0 : Int) else (1 : Int))), some (.inl s7), some (.inl v10), none, some (.inl v22), none, some (.inl s17), some (.inl (σ23.1 16 6)), some (.inl (v48 - 1)), some (.inl v42)]) d_KReader_entity_278 rfl rfl ?_
                        exact k_sb (sb_s (sb_s (sb_s (sb_s (sb_s (sb_s (sb_s (sb_s (sb_s (sb_s (sb_s (sb_s (sb_s sb_nil))))))))))))) (hJ32 ((v48 - 1), v42) _ h)
                      · refine k_ifge d_KReader_entity_260 rfl (fun c50 => ?_) (fun c50 => ?_)
                        · have h := ineg c50 h
                          exact k_sb (sb_s (sb_s (sb_s (sb_s (sb_s (sb_s (sb_s (sb_s (sb_s (sb_s (sb_s (sb_s (sb_s sb_nil))))))))))))) (hJ44 () _ h)
                        · have h := ipos c50 h
                          refine k_aload_n d_KReader_entity_263 rfl ?_
                          refine k_bipush d_KReader_entity_264 cB_12 ?_
                          refine k_cvi [.inl 12] d_KReader_entity_266 ml_15_392 rfl rfl ob_16 rfl (s_KReader_fail hL (by omega)  h) (fun v52 σ51 h => ?_)
                          refine k_pop d_KReader_entity_269 ?_
                          exact k_sb (sb_s (sb_s (sb_s (sb_s (sb_s (sb_s (sb_s (sb_s (sb_s (sb_s (sb_s (sb_s (sb_s sb_nil))))))))))))) (hJ44 () _ h)
                    have hY54 : ¬ ((σ30.2 176 (Int.toNat s29)) = 38 ∧ ((σ30.2 176 (Int.toNat (s29 + 1))) = 35)) → OkI BF L (d + 1) 15 b_KReader_entity 13 0 280 [] [some (.inr 16), none, none, some (.inl (if v4 < 0 then (0 : Int) else (1 : Int))), some (.inl s7), some (.inl v10), none, some (.inl v22), none, some (.inl s17), some (.inl (σ23.1 16 6)), some (.inl s29), some (.inl (σ30.2 176 (Int.toNat s29)))] σ30 (qv Q) := fun e55 => by
                      have h := ineg e55 h
                      exact k_sb (sb_s (sb_s (sb_s (sb_s (sb_s (sb_s (sb_s (sb_s (sb_s (sb_s (sb_s (sb_s (sb_s sb_nil))))))))))))) (hJ32 (s29, (σ30.2 176 (Int.toNat s29))) _ h)
                    have pa57 := pt56
                    refine k_icne d_KReader_entity_230 rfl (fun c58 => ?_) (fun c58 => ?_)
                    · exact hY54 (fun z => c58 z.1)
                    · have pa57 := pa57 c58
                      obtain ⟨p39, p40⟩ := pa57
                      refine k_aload_n d_KReader_entity_233 rfl ?_
                      refine k_getR d_KReader_entity_234 fl_15_45 ob_16 rfl ?_
                      refine k_iload d_KReader_entity_237 rfl ?_
                      refine k_iconst d_KReader_entity_239 cI_1 ?_
                      refine k_iadd d_KReader_entity_240 p39 ?_
                      refine k_ild (x := (σ30.2 176 (Int.toNat (s29 + 1)))) d_KReader_entity_241 rI_176 p40 rfl ?_
                      refine k_bipush d_KReader_entity_242 cB_35 ?_
                      refine k_icne d_KReader_entity_244 rfl (fun c59 => ?_) (fun c59 => ?_)
                      · exact hY54 (fun z => (c59) z.2)
                      · exact hX53 (⟨c58, c59⟩)
                  · have h := ipos c38 h
                    refine k_aload_n d_KReader_entity_216 rfl ?_
                    refine k_bipush d_KReader_entity_217 cB_13 ?_
                    refine k_cvi [.inl 13] d_KReader_entity_219 ml_15_392 rfl rfl ob_16 rfl (s_KReader_fail hL (by omega)  h) (fun v61 σ60 h => ?_)
                    refine k_pop d_KReader_entity_222 ?_
                    refine k_goto d_KReader_entity_223 rfl ?_
                    exact k_sb (sb_s (sb_s (sb_s (sb_s (sb_s (sb_s (sb_s (sb_s (sb_s (sb_s (sb_s (sb_s (sb_s sb_nil))))))))))))) (hJ32 (s29, (σ30.2 176 (Int.toNat s29))) _ h)
              have hY84 : ¬ (s29 < (s17 - 1) ∧ ((σ30.1 16 3) = 0)) → OkI BF L (d + 1) 15 b_KReader_entity 13 0 307 [] [some (.inr 16), none, none, some (.inl (if v4 < 0 then (0 : Int) else (1 : Int))), some (.inl s7), some (.inl v10), none, some (.inl v22), none, some (.inl s17), some (.inl (σ23.1 16 6)), some (.inl s29), none] σ30 (qv Q) := fun e85 => by
                have h := ineg e85 h
                refine k_aload_n d_KReader_entity_307 rfl ?_
                refine k_getI (x := (σ30.1 16 3)) d_KReader_entity_308 fl_15_166 ob_16 rfl rfl ?_
                refine k_ifle d_KReader_entity_311 rfl (fun c63 => ?_) (fun c63 => ?_)
                · have h := ineg c63 h
                  refine k_aload_n d_KReader_entity_315 rfl ?_
                  refine k_iload d_KReader_entity_316 rfl ?_
                  refine k_iload d_KReader_entity_318 rfl ?_
                  refine k_iload d_KReader_entity_320 rfl ?_
                  obtain ⟨p82, h⟩ := h
                  refine k_isub d_KReader_entity_322 p82 ?_
                  refine k_cvi [.inl s7, .inl (v10 - s7)] d_KReader_entity_323 ml_15_470 rfl rfl ob_16 rfl (s_KReader_keep hL (by omega)  h) (fun v65 σ64 h => ?_)
                  refine k_istore (lv' := [some (.inr 16), none, none, some (.inl (if v4 < 0 then (0 : Int) else (1 : Int))), some (.inl s7), some (.inl v10), none, some (.inl v22), none, some (.inl s17), some (.inl (σ23.1 16 6)), some (.inl v65), none]) d_KReader_entity_326 rfl rfl ?_
                  refine k_aload_n d_KReader_entity_328 rfl ?_
                  refine k_iload d_KReader_entity_329 rfl ?_
                  refine k_cvv [.inl v65] d_KReader_entity_331 ml_15_473 rfl rfl ob_16 rfl (s_KReader_colons hL (by omega)  h) (fun σ66 h => ?_)
                  refine k_aload_n d_KReader_entity_334 rfl ?_
                  refine k_iload d_KReader_entity_335 rfl ?_
                  refine k_iload_n d_KReader_entity_337 rfl ?_
                  refine k_cvi [.inl v65, .inl (if v4 < 0 then (0 : Int) else (1 : Int))] d_KReader_entity_338 ml_15_532 rfl rfl ob_16 rfl (s_KReader_entityOf hL (by omega)  h) (fun v69 σ68 h => ?_)
                  refine k_join (S := Unit) (pc' := 421) (st' := fun s72 => []) (lv' := fun s72 => [some (.inr 16), none, none, none, none, none, none, some (.inl v22), none, none, none, none, none]) (fun s72 σ73 h => ?_) (fun J70 hJ71 h => ?_) h
                  · refine k_aload_n d_KReader_entity_421 rfl ?_
                    refine k_iload d_KReader_entity_422 rfl ?_
                    refine k_putI d_KReader_entity_424 fl_15_379 ob_16 rfl ?_
                    exact k_ret d_KReader_entity_427 h
                  · refine k_iflt d_KReader_entity_341 rfl (fun c74 => ?_) (fun c74 => ?_)
                    · have h := ipos c74 h
                      refine k_aload_n d_KReader_entity_353 rfl ?_
                      refine k_getR d_KReader_entity_354 fl_15_63 ob_16 rfl ?_
                      refine k_aload_n d_KReader_entity_357 rfl ?_
                      refine k_getI (x := (σ68.1 16 32)) d_KReader_entity_358 fl_15_203 ob_16 rfl rfl ?_
                      refine k_iload d_KReader_entity_361 rfl ?_
                      obtain ⟨p81, h⟩ := h
                      refine k_ist d_KReader_entity_363 rI_182 p81 ?_
                      refine k_aload_n d_KReader_entity_364 rfl ?_
                      refine k_getR d_KReader_entity_365 fl_15_66 ob_16 rfl ?_
                      refine k_aload_n d_KReader_entity_368 rfl ?_
                      refine k_getI (x := (σ68.1 16 32)) d_KReader_entity_369 fl_15_203 ob_16 rfl rfl ?_
                      refine k_iload_n d_KReader_entity_372 rfl ?_
                      obtain ⟨p80, h⟩ := h
                      refine k_zst d_KReader_entity_373 rz_183 p80 (it01 (Or.inl rfl) (Or.inr rfl)) ?_
                      refine k_aload_n d_KReader_entity_374 rfl ?_
                      refine k_getR d_KReader_entity_375 fl_15_69 ob_16 rfl ?_
                      refine k_aload_n d_KReader_entity_378 rfl ?_
                      refine k_getI (x := (σ68.1 16 32)) d_KReader_entity_379 fl_15_203 ob_16 rfl rfl ?_
                      refine k_iload d_KReader_entity_382 rfl ?_
                      obtain ⟨p79, h⟩ := h
                      refine k_ist d_KReader_entity_384 rI_184 p79 ?_
                      refine k_aload_n d_KReader_entity_385 rfl ?_
                      refine k_getR d_KReader_entity_386 fl_15_72 ob_16 rfl ?_
                      refine k_aload_n d_KReader_entity_389 rfl ?_
                      refine k_getI (x := (σ68.1 16 32)) d_KReader_entity_390 fl_15_203 ob_16 rfl rfl ?_
                      refine k_aload_n d_KReader_entity_393 rfl ?_
                      refine k_getI (x := (σ68.1 16 6)) d_KReader_entity_394 fl_15_172 ob_16 rfl rfl ?_
                      refine k_iload d_KReader_entity_397 rfl ?_
                      obtain ⟨p78, h⟩ := h
                      refine k_isub d_KReader_entity_399 p78 ?_
                      obtain ⟨p77, h⟩ := h
                      refine k_ist d_KReader_entity_400 rI_185 p77 ?_
                      refine k_aload_n d_KReader_entity_401 rfl ?_
                      refine k_getR d_KReader_entity_402 fl_15_75 ob_16 rfl ?_
                      refine k_aload_n d_KReader_entity_405 rfl ?_
                      refine k_getI (x := (σ68.1 16 32)) d_KReader_entity_406 fl_15_203 ob_16 rfl rfl ?_
                      refine k_iconst d_KReader_entity_409 cI_0 ?_
                      obtain ⟨p76, h⟩ := h
                      refine k_zst d_KReader_entity_410 rz_186 p76 (Or.inl rfl) ?_
                      refine k_aload_n d_KReader_entity_411 rfl ?_
                      refine k_dup d_KReader_entity_412 ?_
                      refine k_getI (x := (σ68.1 16 32)) d_KReader_entity_413 fl_15_203 ob_16 rfl rfl ?_
                      refine k_iconst d_KReader_entity_416 cI_1 ?_
                      obtain ⟨p75, h⟩ := h
                      refine k_iadd d_KReader_entity_417 p75 ?_
                      refine k_putI d_KReader_entity_418 fl_15_203 ob_16 rfl ?_
                      exact k_sb (sb_s (sb_s (sb_s (sb_n (sb_n (sb_n (sb_s (sb_s (sb_s (sb_n (sb_n (sb_n (sb_s sb_nil))))))))))))) (hJ71 () _ h)
                    · have h := ineg c74 h
                      refine k_aload_n d_KReader_entity_344 rfl ?_
                      refine k_iload d_KReader_entity_345 rfl ?_
                      refine k_putI d_KReader_entity_347 fl_15_172 ob_16 rfl ?_
                      refine k_goto d_KReader_entity_350 rfl ?_
                      exact k_sb (sb_s (sb_s (sb_s (sb_n (sb_n (sb_n (sb_s (sb_s (sb_s (sb_n (sb_n (sb_n (sb_s sb_nil))))))))))))) (hJ71 () _ h)
                · have h := ipos c63 h
                  exact k_ret d_KReader_entity_314 h
              refine k_icge d_KReader_entity_190 rfl (fun c86 => ?_) (fun c86 => ?_)
              · exact hY84 (fun z => c86 z.1)
              · refine k_aload_n d_KReader_entity_193 rfl ?_
                refine k_getI (x := (σ30.1 16 3)) d_KReader_entity_194 fl_15_166 ob_16 rfl rfl ?_
                refine k_ifne d_KReader_entity_197 rfl (fun c87 => ?_) (fun c87 => ?_)
                · exact hY84 (fun z => (c87) z.2)
                · exact hX83 (⟨c86, c87⟩)
            · have h := ipos c26 h
              refine k_aload_n d_KReader_entity_165 rfl ?_
              refine k_iconst d_KReader_entity_166 cI_3 ?_
              refine k_cvi [.inl 3] d_KReader_entity_167 ml_15_392 rfl rfl ob_16 rfl (s_KReader_fail hL (by omega)  h) (fun v91 σ90 h => ?_)
              refine k_pop d_KReader_entity_170 ?_
              exact k_ret d_KReader_entity_171 h
          · have h := ipos c25 h
            exact k_ret d_KReader_entity_159 h
        · refine k_ifne d_KReader_entity_84 rfl (fun c92 => ?_) (fun c92 => ?_)
          · have h := ineg c92 h
            exact k_sb (sb_s (sb_s (sb_s (sb_s (sb_s (sb_s (sb_s (sb_s (sb_s (sb_s (sb_s (sb_s (sb_s sb_nil))))))))))))) (hJ16 v14 _ h)
          · have h := ipos c92 h
            refine k_aload_n d_KReader_entity_87 rfl ?_
            refine k_iload d_KReader_entity_88 rfl ?_
            refine k_cvi [.inl v12] d_KReader_entity_90 ml_15_501 rfl rfl ob_16 rfl (s_KReader_outside hL (by omega)  h) (fun v94 σ93 h => ?_)
            refine k_istore (lv' := [some (.inr 16), none, none, some (.inl (if v4 < 0 then (0 : Int) else (1 : Int))), some (.inl s7), some (.inl v10), some (.inl v12), some (.inl v94), some (.inl (if v14 < 0 then (0 : Int) else (1 : Int))), none, none, none, none]) d_KReader_entity_93 rfl rfl ?_
            refine k_aload_n d_KReader_entity_95 rfl ?_
            refine k_aload_n d_KReader_entity_96 rfl ?_
            refine k_iload d_KReader_entity_97 rfl ?_
            refine k_cvi [.inl v94] d_KReader_entity_99 ml_15_333 rfl rfl ob_16 rfl (s_KReader_spaces hL (by omega)  h) (fun v96 σ95 h => ?_)
            refine k_ldcw d_KReader_entity_102 ks_15_690 rfl ?_
            refine k_cvi [.inl v96, .inr 1145] d_KReader_entity_105 ml_15_329 rfl rfl ob_16 rfl (s_KReader_word hL (by omega) it_1145 h) (fun v98 σ97 h => ?_)
            refine k_istore (lv' := [some (.inr 16), none, none, some (.inl (if v4 < 0 then (0 : Int) else (1 : Int))), some (.inl s7), some (.inl v10), some (.inl v12), some (.inl v94), some (.inl (if v14 < 0 then (0 : Int) else (1 : Int))), some (.inl v98), none, none, none]) d_KReader_entity_108 rfl rfl ?_
            refine k_iload d_KReader_entity_110 rfl ?_
            have hX103 : (¬ v98 < 0 ∧ ((if v4 < 0 then (0 : Int) else (1 : Int)) = 0)) → OkI BF L (d + 1) 15 b_KReader_entity 13 0 119 [] [some (.inr 16), none, none, some (.inl (if v4 < 0 then (0 : Int) else (1 : Int))), some (.inl s7), some (.inl v10), some (.inl v12), some (.inl v94), some (.inl (if v14 < 0 then (0 : Int) else (1 : Int))), some (.inl v98), none, none, none] σ97 (qv Q) := fun e105 => by
              have h := ipos e105 h
              refine k_aload_n d_KReader_entity_119 rfl ?_
              refine k_aload_n d_KReader_entity_120 rfl ?_
              refine k_iload d_KReader_entity_121 rfl ?_
              refine k_cvi [.inl v98] d_KReader_entity_123 ml_15_333 rfl rfl ob_16 rfl (s_KReader_spaces hL (by omega)  h) (fun v100 σ99 h => ?_)
              refine k_cvi [.inl v100] d_KReader_entity_126 ml_15_341 rfl rfl ob_16 rfl (s_KReader_name hL (by omega)  h) (fun v102 σ101 h => ?_)
              refine k_istore (lv' := [some (.inr 16), none, none, some (.inl (if v4 < 0 then (0 : Int) else (1 : Int))), some (.inl s7), some (.inl v10), some (.inl v12), some (.inl v102), some (.inl (if v14 < 0 then (0 : Int) else (1 : Int))), some (.inl v98), none, none, none]) d_KReader_entity_129 rfl rfl ?_
              exact k_sb (sb_s (sb_s (sb_s (sb_s (sb_s (sb_s (sb_s (sb_s (sb_s (sb_n (sb_s (sb_s (sb_s sb_nil))))))))))))) (hJ16 v102 _ h)
            have hY104 : ¬ (¬ v98 < 0 ∧ ((if v4 < 0 then (0 : Int) else (1 : Int)) = 0)) → OkI BF L (d + 1) 15 b_KReader_entity 13 0 131 [] [some (.inr 16), none, none, some (.inl (if v4 < 0 then (0 : Int) else (1 : Int))), some (.inl s7), some (.inl v10), some (.inl v12), some (.inl v94), some (.inl (if v14 < 0 then (0 : Int) else (1 : Int))), some (.inl v98), none, none, none] σ97 (qv Q) := fun e105 => by
              have h := ineg e105 h
              exact k_sb (sb_s (sb_s (sb_s (sb_s (sb_s (sb_s (sb_s (sb_s (sb_s (sb_n (sb_s (sb_s (sb_s sb_nil))))))))))))) (hJ16 v94 _ h)
            refine k_iflt d_KReader_entity_112 rfl (fun c106 => ?_) (fun c106 => ?_)
            · exact hY104 (fun z => z.1 c106)
            · refine k_iload_n d_KReader_entity_115 rfl ?_
              refine k_ifne d_KReader_entity_116 rfl (fun c107 => ?_) (fun c107 => ?_)
              · exact hY104 (fun z => (c107) z.2)
              · exact hX103 (⟨c106, c107⟩)
      refine k_iflt d_KReader_entity_72 rfl (fun c109 => ?_) (fun c109 => ?_)
      · have hV110 := k_eqI (if_pos c109) hV108
        refine k_iconst d_KReader_entity_79 cI_0 ?_
        exact hV110
      · have hV111 := k_eqI (if_neg c109) hV108
        refine k_iconst d_KReader_entity_75 cI_1 ?_
        refine k_goto d_KReader_entity_76 rfl ?_
        exact hV111
    · refine k_ifeq d_KReader_entity_32 rfl (fun c112 => ?_) (fun c112 => ?_)
      · have h := ipos c112 h
        refine k_iload_n d_KReader_entity_43 rfl ?_
        exact k_sb (sb_s (sb_n (sb_n (sb_s (sb_s (sb_s (sb_s (sb_s (sb_s (sb_s (sb_s (sb_s (sb_s sb_nil))))))))))))) (hJ6 v2 _ h)
      · have h := ineg c112 h
        refine k_aload_n d_KReader_entity_35 rfl ?_
        refine k_iload_n d_KReader_entity_36 rfl ?_
        refine k_cvi [.inl v4] d_KReader_entity_37 ml_15_333 rfl rfl ob_16 rfl (s_KReader_spaces hL (by omega)  h) (fun v114 σ113 h => ?_)
        refine k_goto d_KReader_entity_40 rfl ?_
        exact k_sb (sb_s (sb_n (sb_n (sb_s (sb_s (sb_s (sb_s (sb_s (sb_s (sb_s (sb_s (sb_s (sb_s sb_nil))))))))))))) (hJ6 v114 _ h)
  refine k_iflt d_KReader_entity_22 rfl (fun c116 => ?_) (fun c116 => ?_)
  · have hV117 := k_eqI (if_pos c116) hV115
    refine k_iconst d_KReader_entity_29 cI_0 ?_
    exact hV117
  · have hV118 := k_eqI (if_neg c116) hV115
    refine k_iconst d_KReader_entity_25 cI_1 ?_
    refine k_goto d_KReader_entity_26 rfl ?_
    exact hV118
theorem d_KReader_isNotation_0 : decode b_KReader_isNotation 0 = .ok (.iconst 0, 1) := by decide +kernel
theorem d_KReader_isNotation_1 : decode b_KReader_isNotation 1 = .ok (.istore_n 2, 1) := by decide +kernel
theorem d_KReader_isNotation_2 : decode b_KReader_isNotation 2 = .ok (.iload_n 2, 1) := by decide +kernel
theorem d_KReader_isNotation_3 : decode b_KReader_isNotation 3 = .ok (.aload_n 0, 1) := by decide +kernel
theorem d_KReader_isNotation_4 : decode b_KReader_isNotation 4 = .ok (.getfield 206, 3) := by decide +kernel
theorem d_KReader_isNotation_7 : decode b_KReader_isNotation 7 = .ok (.if_icmp .ge 19, 3) := by decide +kernel
theorem d_KReader_isNotation_10 : decode b_KReader_isNotation 10 = .ok (.aload_n 0, 1) := by decide +kernel
theorem d_KReader_isNotation_11 : decode b_KReader_isNotation 11 = .ok (.getfield 78, 3) := by decide +kernel
theorem d_KReader_isNotation_14 : decode b_KReader_isNotation 14 = .ok (.iload_n 2, 1) := by decide +kernel
theorem d_KReader_isNotation_15 : decode b_KReader_isNotation 15 = .ok (.iaload, 1) := by decide +kernel
theorem d_KReader_isNotation_16 : decode b_KReader_isNotation 16 = .ok (.iload_n 1, 1) := by decide +kernel
theorem d_KReader_isNotation_17 : decode b_KReader_isNotation 17 = .ok (.if_icmp .eq 9, 3) := by decide +kernel
theorem d_KReader_isNotation_20 : decode b_KReader_isNotation 20 = .ok (.iinc 2 1, 3) := by decide +kernel
theorem d_KReader_isNotation_23 : decode b_KReader_isNotation 23 = .ok (.goto (-21), 3) := by decide +kernel
theorem d_KReader_isNotation_26 : decode b_KReader_isNotation 26 = .ok (.iload_n 2, 1) := by decide +kernel
theorem d_KReader_isNotation_27 : decode b_KReader_isNotation 27 = .ok (.aload_n 0, 1) := by decide +kernel
theorem d_KReader_isNotation_28 : decode b_KReader_isNotation 28 = .ok (.getfield 206, 3) := by decide +kernel
theorem d_KReader_isNotation_31 : decode b_KReader_isNotation 31 = .ok (.if_icmp .ge 7, 3) := by decide +kernel
theorem d_KReader_isNotation_34 : decode b_KReader_isNotation 34 = .ok (.iconst 1, 1) := by decide +kernel
theorem d_KReader_isNotation_35 : decode b_KReader_isNotation 35 = .ok (.goto 4, 3) := by decide +kernel
theorem d_KReader_isNotation_38 : decode b_KReader_isNotation 38 = .ok (.iconst 0, 1) := by decide +kernel
theorem d_KReader_isNotation_39 : decode b_KReader_isNotation 39 = .ok (.ireturn, 1) := by decide +kernel
/-- KReader_isNotation -/
def w_KReader_isNotation (L : Nat → Nat) (a1 : Int) (Q : Int → IS → Prop) (σ : IS) : Prop := WL (fun (K1 : Int → IS → Prop) (s3 : Int) (σ4 : IS) => ((s3 < (σ4.1 16 34) → inL L 187 s3)) ∧ if s3 < (σ4.1 16 34) ∧ (¬ (σ4.2 187 (Int.toNat s3)) = a1) then inR (s3 + 1) ∧ K1 (s3 + 1) σ4 else Q (if s3 < (σ4.1 16 34) then (1 : Int) else (0 : Int)) σ4) 0 σ
set_option maxHeartbeats 4000000 in
set_option maxRecDepth 20000 in
theorem s_KReader_isNotation {L : Nat → Nat} (hL : ∀ r, L r < 2147483648) {d : Nat} (hd : 0 ≤ d) {a1 : Int} {Q : Int → IS → Prop} {σ : IS}  (h : w_KReader_isNotation L a1 Q σ) : OkI BF L d 15 b_KReader_isNotation 3 2 0 [] [some (.inr 16), some (.inl a1)] σ (qi Q) := by
  unfold w_KReader_isNotation at h
  refine k_sb (lv' := [some (.inr 16), some (.inl a1), none]) (sb_s (sb_s (sb_e sb_nil))) ?_
  refine k_iconst d_KReader_isNotation_0 cI_0 ?_
  refine k_istore_n (lv' := [some (.inr 16), some (.inl a1), some (.inl 0)]) d_KReader_isNotation_1 rfl rfl ?_
  refine k_sb (lv' := [some (.inr 16), some (.inl a1), some (.inl 0)]) (sb_s (sb_s (sb_s sb_nil))) ?_
  refine k_loop (S := Int) (st := fun _ => []) (lv := fun s3 => [some (.inr 16), some (.inl a1), some (.inl s3)]) (fun K1 hK2 s3 σ4 h => ?_) 0 _ h
  refine k_iload_n d_KReader_isNotation_2 rfl ?_
  refine k_aload_n d_KReader_isNotation_3 rfl ?_
  refine k_getI (x := (σ4.1 16 34)) d_KReader_isNotation_4 fl_15_206 ob_16 rfl rfl ?_
  obtain ⟨pt14, h⟩ := h
  have hX11 : (s3 < (σ4.1 16 34) ∧ (¬ (σ4.2 187 (Int.toNat s3)) = a1)) → OkI BF L d 15 b_KReader_isNotation 3 2 20 [] [some (.inr 16), some (.inl a1), some (.inl s3)] σ4 (qi Q) := fun e13 => by
    have h := ipos e13 h
    obtain ⟨p6, h⟩ := h
    refine k_iinc (lv' := [some (.inr 16), some (.inl a1), some (.inl (s3 + 1))]) d_KReader_isNotation_20 cI_1 rfl rfl p6 rfl ?_
    refine k_goto d_KReader_isNotation_23 rfl ?_
    exact k_sb (sb_s (sb_s (sb_s sb_nil))) (hK2 (s3 + 1) _ h)
  have hY12 : ¬ (s3 < (σ4.1 16 34) ∧ (¬ (σ4.2 187 (Int.toNat s3)) = a1)) → OkI BF L d 15 b_KReader_isNotation 3 2 26 [] [some (.inr 16), some (.inl a1), some (.inl s3)] σ4 (qi Q) := fun e13 => by
    have h := ineg e13 h
    refine k_iload_n d_KReader_isNotation_26 rfl ?_
    refine k_aload_n d_KReader_isNotation_27 rfl ?_
    refine k_getI (x := (σ4.1 16 34)) d_KReader_isNotation_28 fl_15_206 ob_16 rfl rfl ?_
    have hV7 : OkI BF L d 15 b_KReader_isNotation 3 2 39 [.inl (if s3 < (σ4.1 16 34) then (1 : Int) else (0 : Int))] [some (.inr 16), some (.inl a1), some (.inl s3)] σ4 (qi Q) := by
      exact k_iret d_KReader_isNotation_39 (Or.inr ⟨rfl, it01 (Or.inr rfl) (Or.inl rfl)⟩) h
    refine k_icge d_KReader_isNotation_31 rfl (fun c8 => ?_) (fun c8 => ?_)
    · have hV10 := k_eqI (if_neg c8) hV7
      refine k_iconst d_KReader_isNotation_38 cI_0 ?_
      exact hV10
    · have hV9 := k_eqI (if_pos c8) hV7
      refine k_iconst d_KReader_isNotation_34 cI_1 ?_
      refine k_goto d_KReader_isNotation_35 rfl ?_
      exact hV9
  have pa15 := pt14
  refine k_icge d_KReader_isNotation_7 rfl (fun c16 => ?_) (fun c16 => ?_)
  · exact hY12 (fun z => c16 z.1)
  · have pa15 := pa15 c16
    have p5 := pa15
    refine k_aload_n d_KReader_isNotation_10 rfl ?_
    refine k_getR d_KReader_isNotation_11 fl_15_78 ob_16 rfl ?_
    refine k_iload_n d_KReader_isNotation_14 rfl ?_
    refine k_ild (x := (σ4.2 187 (Int.toNat s3))) d_KReader_isNotation_15 rI_187 p5 rfl ?_
    refine k_iload_n d_KReader_isNotation_16 rfl ?_
    refine k_iceq d_KReader_isNotation_17 rfl (fun c17 => ?_) (fun c17 => ?_)
    · exact hY12 (fun z => (fun z => z c17) z.2)
    · exact hX11 (⟨c16, c17⟩)
theorem d_KReader_notation_0 : decode b_KReader_notation 0 = .ok (.aload_n 0, 1) := by decide +kernel
theorem d_KReader_notation_1 : decode b_KReader_notation 1 = .ok (.aload_n 0, 1) := by decide +kernel
theorem d_KReader_notation_2 : decode b_KReader_notation 2 = .ok (.getfield 379, 3) := by decide +kernel
theorem d_KReader_notation_5 : decode b_KReader_notation 5 = .ok (.bipush 10, 2) := by decide +kernel
theorem d_KReader_notation_7 : decode b_KReader_notation 7 = .ok (.iadd, 1) := by decide +kernel
theorem d_KReader_notation_8 : decode b_KReader_notation 8 = .ok (.invokevirtual 333, 3) := by decide +kernel
theorem d_KReader_notation_11 : decode b_KReader_notation 11 = .ok (.istore_n 1, 1) := by decide +kernel
theorem d_KReader_notation_12 : decode b_KReader_notation 12 = .ok (.aload_n 0, 1) := by decide +kernel
theorem d_KReader_notation_13 : decode b_KReader_notation 13 = .ok (.iload_n 1, 1) := by decide +kernel
theorem d_KReader_notation_14 : decode b_KReader_notation 14 = .ok (.invokevirtual 341, 3) := by decide +kernel
theorem d_KReader_notation_17 : decode b_KReader_notation 17 = .ok (.istore_n 2, 1) := by decide +kernel
theorem d_KReader_notation_18 : decode b_KReader_notation 18 = .ok (.aload_n 0, 1) := by decide +kernel
theorem d_KReader_notation_19 : decode b_KReader_notation 19 = .ok (.iload_n 2, 1) := by decide +kernel
theorem d_KReader_notation_20 : decode b_KReader_notation 20 = .ok (.invokevirtual 333, 3) := by decide +kernel
theorem d_KReader_notation_23 : decode b_KReader_notation 23 = .ok (.istore_n 3, 1) := by decide +kernel
theorem d_KReader_notation_24 : decode b_KReader_notation 24 = .ok (.aload_n 0, 1) := by decide +kernel
theorem d_KReader_notation_25 : decode b_KReader_notation 25 = .ok (.iload_n 3, 1) := by decide +kernel
theorem d_KReader_notation_26 : decode b_KReader_notation 26 = .ok (.invokevirtual 501, 3) := by decide +kernel
theorem d_KReader_notation_29 : decode b_KReader_notation 29 = .ok (.istore 4, 2) := by decide +kernel
theorem d_KReader_notation_31 : decode b_KReader_notation 31 = .ok (.iload 4, 2) := by decide +kernel
theorem d_KReader_notation_33 : decode b_KReader_notation 33 = .ok (.ifCond .ge 21, 3) := by decide +kernel
theorem d_KReader_notation_36 : decode b_KReader_notation 36 = .ok (.aload_n 0, 1) := by decide +kernel
theorem d_KReader_notation_37 : decode b_KReader_notation 37 = .ok (.aload_n 0, 1) := by decide +kernel
theorem d_KReader_notation_38 : decode b_KReader_notation 38 = .ok (.aload_n 0, 1) := by decide +kernel
theorem d_KReader_notation_39 : decode b_KReader_notation 39 = .ok (.iload_n 3, 1) := by decide +kernel
theorem d_KReader_notation_40 : decode b_KReader_notation 40 = .ok (.ldc_w 336, 3) := by decide +kernel
theorem d_KReader_notation_43 : decode b_KReader_notation 43 = .ok (.invokevirtual 329, 3) := by decide +kernel
theorem d_KReader_notation_46 : decode b_KReader_notation 46 = .ok (.invokevirtual 333, 3) := by decide +kernel
theorem d_KReader_notation_49 : decode b_KReader_notation 49 = .ok (.invokevirtual 338, 3) := by decide +kernel
theorem d_KReader_notation_52 : decode b_KReader_notation 52 = .ok (.istore 4, 2) := by decide +kernel
theorem d_KReader_notation_54 : decode b_KReader_notation 54 = .ok (.aload_n 0, 1) := by decide +kernel
theorem d_KReader_notation_55 : decode b_KReader_notation 55 = .ok (.aload_n 0, 1) := by decide +kernel
theorem d_KReader_notation_56 : decode b_KReader_notation 56 = .ok (.iload 4, 2) := by decide +kernel
theorem d_KReader_notation_58 : decode b_KReader_notation 58 = .ok (.invokevirtual 297, 3) := by decide +kernel
theorem d_KReader_notation_61 : decode b_KReader_notation 61 = .ok (.ldc_w 527, 3) := by decide +kernel
theorem d_KReader_notation_64 : decode b_KReader_notation 64 = .ok (.invokevirtual 329, 3) := by decide +kernel
theorem d_KReader_notation_67 : decode b_KReader_notation 67 = .ok (.istore 4, 2) := by decide +kernel
theorem d_KReader_notation_69 : decode b_KReader_notation 69 = .ok (.aload_n 0, 1) := by decide +kernel
theorem d_KReader_notation_70 : decode b_KReader_notation 70 = .ok (.iload 4, 2) := by decide +kernel
theorem d_KReader_notation_72 : decode b_KReader_notation 72 = .ok (.invokevirtual 437, 3) := by decide +kernel
theorem d_KReader_notation_75 : decode b_KReader_notation 75 = .ok (.ifCond .ne 4, 3) := by decide +kernel
theorem d_KReader_notation_78 : decode b_KReader_notation 78 = .ok (.return_, 1) := by decide +kernel
theorem d_KReader_notation_79 : decode b_KReader_notation 79 = .ok (.aload_n 0, 1) := by decide +kernel
theorem d_KReader_notation_80 : decode b_KReader_notation 80 = .ok (.iload_n 1, 1) := by decide +kernel
theorem d_KReader_notation_81 : decode b_KReader_notation 81 = .ok (.iload_n 2, 1) := by decide +kernel
theorem d_KReader_notation_82 : decode b_KReader_notation 82 = .ok (.iload_n 1, 1) := by decide +kernel
theorem d_KReader_notation_83 : decode b_KReader_notation 83 = .ok (.isub, 1) := by decide +kernel
theorem d_KReader_notation_84 : decode b_KReader_notation 84 = .ok (.invokevirtual 470, 3) := by decide +kernel
theorem d_KReader_notation_87 : decode b_KReader_notation 87 = .ok (.istore 5, 2) := by decide +kernel
theorem d_KReader_notation_89 : decode b_KReader_notation 89 = .ok (.aload_n 0, 1) := by decide +kernel
theorem d_KReader_notation_90 : decode b_KReader_notation 90 = .ok (.iload 5, 2) := by decide +kernel
theorem d_KReader_notation_92 : decode b_KReader_notation 92 = .ok (.invokevirtual 473, 3) := by decide +kernel
theorem d_KReader_notation_95 : decode b_KReader_notation 95 = .ok (.aload_n 0, 1) := by decide +kernel
theorem d_KReader_notation_96 : decode b_KReader_notation 96 = .ok (.iload 5, 2) := by decide +kernel
theorem d_KReader_notation_98 : decode b_KReader_notation 98 = .ok (.invokevirtual 696, 3) := by decide +kernel
theorem d_KReader_notation_101 : decode b_KReader_notation 101 = .ok (.ifCond .eq 20, 3) := by decide +kernel
theorem d_KReader_notation_104 : decode b_KReader_notation 104 = .ok (.aload_n 0, 1) := by decide +kernel
theorem d_KReader_notation_105 : decode b_KReader_notation 105 = .ok (.getfield 150, 3) := by decide +kernel
theorem d_KReader_notation_108 : decode b_KReader_notation 108 = .ok (.getfield 561, 3) := by decide +kernel
theorem d_KReader_notation_111 : decode b_KReader_notation 111 = .ok (.bipush 20, 2) := by decide +kernel
theorem d_KReader_notation_113 : decode b_KReader_notation 113 = .ok (.dup2, 1) := by decide +kernel
theorem d_KReader_notation_114 : decode b_KReader_notation 114 = .ok (.iaload, 1) := by decide +kernel
theorem d_KReader_notation_115 : decode b_KReader_notation 115 = .ok (.iconst 1, 1) := by decide +kernel
theorem d_KReader_notation_116 : decode b_KReader_notation 116 = .ok (.iadd, 1) := by decide +kernel
theorem d_KReader_notation_117 : decode b_KReader_notation 117 = .ok (.iastore, 1) := by decide +kernel
theorem d_KReader_notation_118 : decode b_KReader_notation 118 = .ok (.goto 24, 3) := by decide +kernel
theorem d_KReader_notation_121 : decode b_KReader_notation 121 = .ok (.aload_n 0, 1) := by decide +kernel
theorem d_KReader_notation_122 : decode b_KReader_notation 122 = .ok (.getfield 78, 3) := by decide +kernel
theorem d_KReader_notation_125 : decode b_KReader_notation 125 = .ok (.aload_n 0, 1) := by decide +kernel
theorem d_KReader_notation_126 : decode b_KReader_notation 126 = .ok (.getfield 206, 3) := by decide +kernel
theorem d_KReader_notation_129 : decode b_KReader_notation 129 = .ok (.iload 5, 2) := by decide +kernel
theorem d_KReader_notation_131 : decode b_KReader_notation 131 = .ok (.iastore, 1) := by decide +kernel
theorem d_KReader_notation_132 : decode b_KReader_notation 132 = .ok (.aload_n 0, 1) := by decide +kernel
theorem d_KReader_notation_133 : decode b_KReader_notation 133 = .ok (.dup, 1) := by decide +kernel
theorem d_KReader_notation_134 : decode b_KReader_notation 134 = .ok (.getfield 206, 3) := by decide +kernel
theorem d_KReader_notation_137 : decode b_KReader_notation 137 = .ok (.iconst 1, 1) := by decide +kernel
theorem d_KReader_notation_138 : decode b_KReader_notation 138 = .ok (.iadd, 1) := by decide +kernel
theorem d_KReader_notation_139 : decode b_KReader_notation 139 = .ok (.putfield 206, 3) := by decide +kernel
theorem d_KReader_notation_142 : decode b_KReader_notation 142 = .ok (.aload_n 0, 1) := by decide +kernel
theorem d_KReader_notation_143 : decode b_KReader_notation 143 = .ok (.iload 4, 2) := by decide +kernel
theorem d_KReader_notation_145 : decode b_KReader_notation 145 = .ok (.putfield 379, 3) := by decide +kernel
theorem d_KReader_notation_148 : decode b_KReader_notation 148 = .ok (.return_, 1) := by decide +kernel
/-- KReader_notation -/
def w_KReader_notation (L : Nat → Nat)  (Q : IS → Prop) (σ : IS) : Prop := inR ((σ.1 16 16) + 10) ∧ w_KReader_spaces L ((σ.1 16 16) + 10) (fun v2 σ1 => w_KReader_name L v2 (fun v4 σ3 => w_KReader_spaces L v4 (fun v6 σ5 => w_KReader_outside L v6 (fun v8 σ7 => WJ (fun (s11 : Int) (σ12 : IS) => w_KReader_anySpaces L s11 (fun v14 σ13 => w_KReader_word L v14 1124 (fun v16 σ15 => w_KReader_written L v16 (fun v18 σ17 => if v18 = 0 then Q σ17 else inR (v4 - v2) ∧ w_KReader_keep L v2 (v4 - v2) (fun v21 σ20 => w_KReader_colons L v21 (fun σ22 => w_KReader_isNotation L v21 (fun v25 σ24 => WJ (fun (s28 : Unit) (σ29 : IS) => Q (pf σ29 16 16 v16)) (fun J26 => if v25 = 0 then inL L 187 (σ24.1 16 34) ∧ inR ((σ24.1 16 34) + 1) ∧ J26 () (pf (pr σ24 187 (Int.toNat (σ24.1 16 34)) v21) 16 34 ((σ24.1 16 34) + 1)) else dyD (σ24.1 16 2) ∧ inL L (rfo (Int.toNat (σ24.1 16 2)) 18) 20 ∧ inR ((σ24.2 (rfo (Int.toNat (σ24.1 16 2)) 18) (Int.toNat 20)) + 1) ∧ inL L (rfo (Int.toNat (σ24.1 16 2)) 18) 20 ∧ J26 () (pr σ24 (rfo (Int.toNat (σ24.1 16 2)) 18) (Int.toNat 20) ((σ24.2 (rfo (Int.toNat (σ24.1 16 2)) 18) (Int.toNat 20)) + 1)))) σ22) σ20) σ17) σ15) σ13) σ12) (fun J9 => if v8 < 0 then w_KReader_word L v6 1099 (fun v40 σ39 => w_KReader_spaces L v40 (fun v42 σ41 => w_KReader_publicLiteral L v42 (fun v44 σ43 => J9 v44 σ43) σ41) σ39) σ7 else J9 v8 σ7)) σ5) σ3) σ1) σ
set_option maxHeartbeats 4000000 in
set_option maxRecDepth 20000 in
theorem s_KReader_notation {L : Nat → Nat} (hL : ∀ r, L r < 2147483648) {d : Nat} (hd : 5 ≤ d)  {Q : IS → Prop} {σ : IS}  (h : w_KReader_notation L  Q σ) : OkI BF L d 15 b_KReader_notation 6 0 0 [] [some (.inr 16)] σ (qv Q) := by
  unfold w_KReader_notation at h
  obtain ⟨d, rfl⟩ : ∃ e, d = e + 1 := ⟨d - 1, by omega⟩
  refine k_sb (lv' := [some (.inr 16), none, none, none, none, none]) (sb_s (sb_e (sb_e (sb_e (sb_e (sb_e sb_nil)))))) ?_
  refine k_aload_n d_KReader_notation_0 rfl ?_
  refine k_aload_n d_KReader_notation_1 rfl ?_
  refine k_getI (x := (σ.1 16 16)) d_KReader_notation_2 fl_15_379 ob_16 rfl rfl ?_
  refine k_bipush d_KReader_notation_5 cB_10 ?_
  obtain ⟨p45, h⟩ := h
  refine k_iadd d_KReader_notation_7 p45 ?_
  refine k_cvi [.inl ((σ.1 16 16) + 10)] d_KReader_notation_8 ml_15_333 rfl rfl ob_16 rfl (s_KReader_spaces hL (by omega)  h) (fun v2 σ1 h => ?_)
  refine k_istore_n (lv' := [some (.inr 16), some (.inl v2), none, none, none, none]) d_KReader_notation_11 rfl rfl ?_
  refine k_aload_n d_KReader_notation_12 rfl ?_
  refine k_iload_n d_KReader_notation_13 rfl ?_
  refine k_cvi [.inl v2] d_KReader_notation_14 ml_15_341 rfl rfl ob_16 rfl (s_KReader_name hL (by omega)  h) (fun v4 σ3 h => ?_)
  refine k_istore_n (lv' := [some (.inr 16), some (.inl v2), some (.inl v4), none, none, none]) d_KReader_notation_17 rfl rfl ?_
  refine k_aload_n d_KReader_notation_18 rfl ?_
  refine k_iload_n d_KReader_notation_19 rfl ?_
  refine k_cvi [.inl v4] d_KReader_notation_20 ml_15_333 rfl rfl ob_16 rfl (s_KReader_spaces hL (by omega)  h) (fun v6 σ5 h => ?_)
  refine k_istore_n (lv' := [some (.inr 16), some (.inl v2), some (.inl v4), some (.inl v6), none, none]) d_KReader_notation_23 rfl rfl ?_
  refine k_aload_n d_KReader_notation_24 rfl ?_
  refine k_iload_n d_KReader_notation_25 rfl ?_
  refine k_cvi [.inl v6] d_KReader_notation_26 ml_15_501 rfl rfl ob_16 rfl (s_KReader_outside hL (by omega)  h) (fun v8 σ7 h => ?_)
  refine k_istore (lv' := [some (.inr 16), some (.inl v2), some (.inl v4), some (.inl v6), some (.inl v8), none]) d_KReader_notation_29 rfl rfl ?_
  refine k_iload d_KReader_notation_31 rfl ?_
  refine k_join (S := Int) (pc' := 54) (st' := fun s11 => []) (lv' := fun s11 => [some (.inr 16), some (.inl v2), some (.inl v4), none, some (.inl s11), none]) (fun s11 σ12 h => ?_) (fun J9 hJ10 h => ?_) h
  · refine k_aload_n d_KReader_notation_54 rfl ?_
    refine k_aload_n d_KReader_notation_55 rfl ?_
    refine k_iload d_KReader_notation_56 rfl ?_
    refine k_cvi [.inl s11] d_KReader_notation_58 ml_15_297 rfl rfl ob_16 rfl (s_KReader_anySpaces hL (by omega)  h) (fun v14 σ13 h => ?_)
    refine k_ldcw d_KReader_notation_61 ks_15_527 rfl ?_
    refine k_cvi [.inl v14, .inr 1124] d_KReader_notation_64 ml_15_329 rfl rfl ob_16 rfl (s_KReader_word hL (by omega) it_1124 h) (fun v16 σ15 h => ?_)
    refine k_istore (lv' := [some (.inr 16), some (.inl v2), some (.inl v4), none, some (.inl v16), none]) d_KReader_notation_67 rfl rfl ?_
    refine k_aload_n d_KReader_notation_69 rfl ?_
    refine k_iload d_KReader_notation_70 rfl ?_
    refine k_cvi [.inl v16] d_KReader_notation_72 ml_15_437 rfl rfl ob_16 rfl (s_KReader_written hL (by omega)  h) (fun v18 σ17 h => ?_)
    refine k_ifne d_KReader_notation_75 rfl (fun c19 => ?_) (fun c19 => ?_)
    · have h := ineg c19 h
      refine k_aload_n d_KReader_notation_79 rfl ?_
      refine k_iload_n d_KReader_notation_80 rfl ?_
      refine k_iload_n d_KReader_notation_81 rfl ?_
      refine k_iload_n d_KReader_notation_82 rfl ?_
      obtain ⟨p37, h⟩ := h
      refine k_isub d_KReader_notation_83 p37 ?_
      refine k_cvi [.inl v2, .inl (v4 - v2)] d_KReader_notation_84 ml_15_470 rfl rfl ob_16 rfl (s_KReader_keep hL (by omega)  h) (fun v21 σ20 h => ?_)
      refine k_istore (lv' := [some (.inr 16), some (.inl v2), some (.inl v4), none, some (.inl v16), some (.inl v21)]) d_KReader_notation_87 rfl rfl ?_
      refine k_aload_n d_KReader_notation_89 rfl ?_
      refine k_iload d_KReader_notation_90 rfl ?_
      refine k_cvv [.inl v21] d_KReader_notation_92 ml_15_473 rfl rfl ob_16 rfl (s_KReader_colons hL (by omega)  h) (fun σ22 h => ?_)
      refine k_aload_n d_KReader_notation_95 rfl ?_
      refine k_iload d_KReader_notation_96 rfl ?_
      refine k_cvi [.inl v21] d_KReader_notation_98 ml_15_696 rfl rfl ob_16 rfl (s_KReader_isNotation hL (by omega)  h) (fun v25 σ24 h => ?_)
      refine k_join (S := Unit) (pc' := 142) (st' := fun s28 => []) (lv' := fun s28 => [some (.inr 16), none, none, none, some (.inl v16), none]) (fun s28 σ29 h => ?_) (fun J26 hJ27 h => ?_) h
      · refine k_aload_n d_KReader_notation_142 rfl ?_
        refine k_iload d_KReader_notation_143 rfl ?_
        refine k_putI d_KReader_notation_145 fl_15_379 ob_16 rfl ?_
        exact k_ret d_KReader_notation_148 h
      · refine k_ifeq d_KReader_notation_101 rfl (fun c30 => ?_) (fun c30 => ?_)
        · have h := ipos c30 h
          refine k_aload_n d_KReader_notation_121 rfl ?_
          refine k_getR d_KReader_notation_122 fl_15_78 ob_16 rfl ?_
          refine k_aload_n d_KReader_notation_125 rfl ?_
          refine k_getI (x := (σ24.1 16 34)) d_KReader_notation_126 fl_15_206 ob_16 rfl rfl ?_
          refine k_iload d_KReader_notation_129 rfl ?_
          obtain ⟨p32, h⟩ := h
          refine k_ist d_KReader_notation_131 rI_187 p32 ?_
          refine k_aload_n d_KReader_notation_132 rfl ?_
          refine k_dup d_KReader_notation_133 ?_
          refine k_getI (x := (σ24.1 16 34)) d_KReader_notation_134 fl_15_206 ob_16 rfl rfl ?_
          refine k_iconst d_KReader_notation_137 cI_1 ?_
          obtain ⟨p31, h⟩ := h
          refine k_iadd d_KReader_notation_138 p31 ?_
          refine k_putI d_KReader_notation_139 fl_15_206 ob_16 rfl ?_
          exact k_sb (sb_s (sb_n (sb_n (sb_s (sb_s (sb_n sb_nil)))))) (hJ27 () _ h)
        · have h := ineg c30 h
          refine k_aload_n d_KReader_notation_104 rfl ?_
          obtain ⟨y33, h⟩ := h
          refine k_getD (x := (σ24.1 16 2)) d_KReader_notation_105 fl_15_150 ob_16 rfl rfl (dyD_pos y33) ?_
          refine k_getR d_KReader_notation_108 fl_15_561 (doc_ob (dyD_doc y33)) (dfr_18 (dyD_doc y33)) ?_
          refine k_bipush d_KReader_notation_111 cB_20 ?_
          refine k_dup2 d_KReader_notation_113 ?_
          obtain ⟨p36, h⟩ := h
          refine k_ild (x := (σ24.2 (rfo (Int.toNat (σ24.1 16 2)) 18) (Int.toNat 20))) d_KReader_notation_114 (drI_18 (dyD_doc y33)) p36 rfl ?_
          refine k_iconst d_KReader_notation_115 cI_1 ?_
          obtain ⟨p35, h⟩ := h
          refine k_iadd d_KReader_notation_116 p35 ?_
          obtain ⟨p34, h⟩ := h
          refine k_ist d_KReader_notation_117 (drI_18 (dyD_doc y33)) p34 ?_
          refine k_goto d_KReader_notation_118 rfl ?_
          exact k_sb (sb_s (sb_n (sb_n (sb_s (sb_s (sb_n sb_nil)))))) (hJ27 () _ h)
    · have h := ipos c19 h
      exact k_ret d_KReader_notation_78 h
  · refine k_ifge d_KReader_notation_33 rfl (fun c38 => ?_) (fun c38 => ?_)
    · have h := ineg c38 h
      exact k_sb (sb_s (sb_s (sb_s (sb_n (sb_s (sb_s sb_nil)))))) (hJ10 v8 _ h)
    · have h := ipos c38 h
      refine k_aload_n d_KReader_notation_36 rfl ?_
      refine k_aload_n d_KReader_notation_37 rfl ?_
      refine k_aload_n d_KReader_notation_38 rfl ?_
      refine k_iload_n d_KReader_notation_39 rfl ?_
      refine k_ldcw d_KReader_notation_40 ks_15_336 rfl ?_
      refine k_cvi [.inl v6, .inr 1099] d_KReader_notation_43 ml_15_329 rfl rfl ob_16 rfl (s_KReader_word hL (by omega) it_1099 h) (fun v40 σ39 h => ?_)
      refine k_cvi [.inl v40] d_KReader_notation_46 ml_15_333 rfl rfl ob_16 rfl (s_KReader_spaces hL (by omega)  h) (fun v42 σ41 h => ?_)
      refine k_cvi [.inl v42] d_KReader_notation_49 ml_15_338 rfl rfl ob_16 rfl (s_KReader_publicLiteral hL (by omega)  h) (fun v44 σ43 h => ?_)
      refine k_istore (lv' := [some (.inr 16), some (.inl v2), some (.inl v4), some (.inl v6), some (.inl v44), none]) d_KReader_notation_52 rfl rfl ?_
      exact k_sb (sb_s (sb_s (sb_s (sb_n (sb_s (sb_s sb_nil)))))) (hJ10 v44 _ h)
