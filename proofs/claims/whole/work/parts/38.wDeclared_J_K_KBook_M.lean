theorem d_Declared_isEmpty_0 : decode b_Declared_isEmpty 0 = .ok (.aload_n 0, 1) := by decide +kernel
theorem d_Declared_isEmpty_1 : decode b_Declared_isEmpty 1 = .ok (.getfield 54, 3) := by decide +kernel
theorem d_Declared_isEmpty_4 : decode b_Declared_isEmpty 4 = .ok (.iload_n 1, 1) := by decide +kernel
theorem d_Declared_isEmpty_5 : decode b_Declared_isEmpty 5 = .ok (.iaload, 1) := by decide +kernel
theorem d_Declared_isEmpty_6 : decode b_Declared_isEmpty 6 = .ok (.iconst 1, 1) := by decide +kernel
theorem d_Declared_isEmpty_7 : decode b_Declared_isEmpty 7 = .ok (.isub, 1) := by decide +kernel
theorem d_Declared_isEmpty_8 : decode b_Declared_isEmpty 8 = .ok (.istore_n 2, 1) := by decide +kernel
theorem d_Declared_isEmpty_9 : decode b_Declared_isEmpty 9 = .ok (.iload_n 2, 1) := by decide +kernel
theorem d_Declared_isEmpty_10 : decode b_Declared_isEmpty 10 = .ok (.iconst (-1), 1) := by decide +kernel
theorem d_Declared_isEmpty_11 : decode b_Declared_isEmpty 11 = .ok (.if_icmp .eq 16, 3) := by decide +kernel
theorem d_Declared_isEmpty_14 : decode b_Declared_isEmpty 14 = .ok (.aload_n 0, 1) := by decide +kernel
theorem d_Declared_isEmpty_15 : decode b_Declared_isEmpty 15 = .ok (.getfield 21, 3) := by decide +kernel
theorem d_Declared_isEmpty_18 : decode b_Declared_isEmpty 18 = .ok (.iload_n 2, 1) := by decide +kernel
theorem d_Declared_isEmpty_19 : decode b_Declared_isEmpty 19 = .ok (.iaload, 1) := by decide +kernel
theorem d_Declared_isEmpty_20 : decode b_Declared_isEmpty 20 = .ok (.ifCond .ne 7, 3) := by decide +kernel
theorem d_Declared_isEmpty_23 : decode b_Declared_isEmpty 23 = .ok (.iconst 1, 1) := by decide +kernel
theorem d_Declared_isEmpty_24 : decode b_Declared_isEmpty 24 = .ok (.goto 4, 3) := by decide +kernel
theorem d_Declared_isEmpty_27 : decode b_Declared_isEmpty 27 = .ok (.iconst 0, 1) := by decide +kernel
theorem d_Declared_isEmpty_28 : decode b_Declared_isEmpty 28 = .ok (.ireturn, 1) := by decide +kernel
/-- Declared_isEmpty -/
def w_Declared_isEmpty (L : Nat → Nat) (a1 : Int) (Q : Int → IS → Prop) (σ : IS) : Prop := inL L 125 a1 ∧ inR ((σ.2 125 (Int.toNat a1)) - 1) ∧ ((¬ ((σ.2 125 (Int.toNat a1)) - 1) = (-1) → inL L 116 ((σ.2 125 (Int.toNat a1)) - 1))) ∧ Q (if ((σ.2 125 (Int.toNat a1)) - 1) = (-1) then (0 : Int) else (if (σ.2 116 (Int.toNat ((σ.2 125 (Int.toNat a1)) - 1))) = 0 then (1 : Int) else (0 : Int))) σ
set_option maxHeartbeats 4000000 in
set_option maxRecDepth 20000 in
theorem s_Declared_isEmpty {L : Nat → Nat} (hL : ∀ r, L r < 2147483648) {d : Nat} (hd : 0 ≤ d) {a1 : Int} {Q : Int → IS → Prop} {σ : IS}  (h : w_Declared_isEmpty L a1 Q σ) : OkI BF L d 4 b_Declared_isEmpty 3 2 0 [] [some (.inr 4), some (.inl a1)] σ (qi Q) := by
  unfold w_Declared_isEmpty at h
  refine k_sb (lv' := [some (.inr 4), some (.inl a1), none]) (sb_s (sb_s (sb_e sb_nil))) ?_
  refine k_aload_n d_Declared_isEmpty_0 rfl ?_
  refine k_getR d_Declared_isEmpty_1 fl_4_54 ob_4 rfl ?_
  refine k_iload_n d_Declared_isEmpty_4 rfl ?_
  obtain ⟨p12, h⟩ := h
  refine k_ild (x := (σ.2 125 (Int.toNat a1))) d_Declared_isEmpty_5 rI_125 p12 rfl ?_
  refine k_iconst d_Declared_isEmpty_6 cI_1 ?_
  obtain ⟨p11, h⟩ := h
  refine k_isub d_Declared_isEmpty_7 p11 ?_
  refine k_istore_n (lv' := [some (.inr 4), some (.inl a1), some (.inl ((σ.2 125 (Int.toNat a1)) - 1))]) d_Declared_isEmpty_8 rfl rfl ?_
  refine k_iload_n d_Declared_isEmpty_9 rfl ?_
  refine k_iconst d_Declared_isEmpty_10 cI_m1 ?_
  obtain ⟨pt3, h⟩ := h
  have hV2 : OkI BF L d 4 b_Declared_isEmpty 3 2 28 [.inl (if ((σ.2 125 (Int.toNat a1)) - 1) = (-1) then (0 : Int) else (if (σ.2 116 (Int.toNat ((σ.2 125 (Int.toNat a1)) - 1))) = 0 then (1 : Int) else (0 : Int)))] [some (.inr 4), some (.inl a1), some (.inl ((σ.2 125 (Int.toNat a1)) - 1))] σ (qi Q) := by
    exact k_iret d_Declared_isEmpty_28 (Or.inr ⟨rfl, it01 (Or.inl rfl) (it01 (Or.inr rfl) (Or.inl rfl))⟩) h
  have pb4 := pt3
  refine k_iceq d_Declared_isEmpty_11 rfl (fun c5 => ?_) (fun c5 => ?_)
  · have hV6 := k_eqI (if_pos c5) hV2
    refine k_iconst d_Declared_isEmpty_27 cI_0 ?_
    exact hV6
  · have pb4 := pb4 c5
    have hV7 := k_eqI (if_neg c5) hV2
    have p1 := pb4
    refine k_aload_n d_Declared_isEmpty_14 rfl ?_
    refine k_getR d_Declared_isEmpty_15 fl_4_21 ob_4 rfl ?_
    refine k_iload_n d_Declared_isEmpty_18 rfl ?_
    refine k_ild (x := (σ.2 116 (Int.toNat ((σ.2 125 (Int.toNat a1)) - 1)))) d_Declared_isEmpty_19 rI_116 p1 rfl ?_
    refine k_ifne d_Declared_isEmpty_20 rfl (fun c8 => ?_) (fun c8 => ?_)
    · have hV10 := k_eqI (if_neg c8) hV7
      refine k_iconst d_Declared_isEmpty_27 cI_0 ?_
      exact hV10
    · have hV9 := k_eqI (if_pos c8) hV7
      refine k_iconst d_Declared_isEmpty_23 cI_1 ?_
      refine k_goto d_Declared_isEmpty_24 rfl ?_
      exact hV9
theorem d_Validator_countListed_0 : decode b_Validator_countListed 0 = .ok (.aload_n 0, 1) := by decide +kernel
theorem d_Validator_countListed_1 : decode b_Validator_countListed 1 = .ok (.getfield 9, 3) := by decide +kernel
theorem d_Validator_countListed_4 : decode b_Validator_countListed 4 = .ok (.invokevirtual 152, 3) := by decide +kernel
theorem d_Validator_countListed_7 : decode b_Validator_countListed 7 = .ok (.istore_n 3, 1) := by decide +kernel
theorem d_Validator_countListed_8 : decode b_Validator_countListed 8 = .ok (.aload_n 0, 1) := by decide +kernel
theorem d_Validator_countListed_9 : decode b_Validator_countListed 9 = .ok (.getfield 23, 3) := by decide +kernel
theorem d_Validator_countListed_12 : decode b_Validator_countListed 12 = .ok (.getfield 247, 3) := by decide +kernel
theorem d_Validator_countListed_15 : decode b_Validator_countListed 15 = .ok (.iload_n 1, 1) := by decide +kernel
theorem d_Validator_countListed_16 : decode b_Validator_countListed 16 = .ok (.iaload, 1) := by decide +kernel
theorem d_Validator_countListed_17 : decode b_Validator_countListed 17 = .ok (.istore 4, 2) := by decide +kernel
theorem d_Validator_countListed_19 : decode b_Validator_countListed 19 = .ok (.iload 4, 2) := by decide +kernel
theorem d_Validator_countListed_21 : decode b_Validator_countListed 21 = .ok (.istore 5, 2) := by decide +kernel
theorem d_Validator_countListed_23 : decode b_Validator_countListed 23 = .ok (.iload 5, 2) := by decide +kernel
theorem d_Validator_countListed_25 : decode b_Validator_countListed 25 = .ok (.iload 4, 2) := by decide +kernel
theorem d_Validator_countListed_27 : decode b_Validator_countListed 27 = .ok (.aload_n 0, 1) := by decide +kernel
theorem d_Validator_countListed_28 : decode b_Validator_countListed 28 = .ok (.getfield 23, 3) := by decide +kernel
theorem d_Validator_countListed_31 : decode b_Validator_countListed 31 = .ok (.getfield 250, 3) := by decide +kernel
theorem d_Validator_countListed_34 : decode b_Validator_countListed 34 = .ok (.iload_n 1, 1) := by decide +kernel
theorem d_Validator_countListed_35 : decode b_Validator_countListed 35 = .ok (.iaload, 1) := by decide +kernel
theorem d_Validator_countListed_36 : decode b_Validator_countListed 36 = .ok (.iadd, 1) := by decide +kernel
theorem d_Validator_countListed_37 : decode b_Validator_countListed 37 = .ok (.if_icmp .ge 93, 3) := by decide +kernel
theorem d_Validator_countListed_40 : decode b_Validator_countListed 40 = .ok (.aload_n 0, 1) := by decide +kernel
theorem d_Validator_countListed_41 : decode b_Validator_countListed 41 = .ok (.getfield 23, 3) := by decide +kernel
theorem d_Validator_countListed_44 : decode b_Validator_countListed 44 = .ok (.getfield 253, 3) := by decide +kernel
theorem d_Validator_countListed_47 : decode b_Validator_countListed 47 = .ok (.iload 5, 2) := by decide +kernel
theorem d_Validator_countListed_49 : decode b_Validator_countListed 49 = .ok (.iaload, 1) := by decide +kernel
theorem d_Validator_countListed_50 : decode b_Validator_countListed 50 = .ok (.istore 6, 2) := by decide +kernel
theorem d_Validator_countListed_52 : decode b_Validator_countListed 52 = .ok (.aload_n 0, 1) := by decide +kernel
theorem d_Validator_countListed_53 : decode b_Validator_countListed 53 = .ok (.getfield 39, 3) := by decide +kernel
theorem d_Validator_countListed_56 : decode b_Validator_countListed 56 = .ok (.bipush 16, 2) := by decide +kernel
theorem d_Validator_countListed_58 : decode b_Validator_countListed 58 = .ok (.dup2, 1) := by decide +kernel
theorem d_Validator_countListed_59 : decode b_Validator_countListed 59 = .ok (.iaload, 1) := by decide +kernel
theorem d_Validator_countListed_60 : decode b_Validator_countListed 60 = .ok (.iload_n 2, 1) := by decide +kernel
theorem d_Validator_countListed_61 : decode b_Validator_countListed 61 = .ok (.ifCond .eq 20, 3) := by decide +kernel
theorem d_Validator_countListed_64 : decode b_Validator_countListed 64 = .ok (.aload_n 0, 1) := by decide +kernel
theorem d_Validator_countListed_65 : decode b_Validator_countListed 65 = .ok (.getfield 23, 3) := by decide +kernel
theorem d_Validator_countListed_68 : decode b_Validator_countListed 68 = .ok (.getfield 297, 3) := by decide +kernel
theorem d_Validator_countListed_71 : decode b_Validator_countListed 71 = .ok (.iload 6, 2) := by decide +kernel
theorem d_Validator_countListed_73 : decode b_Validator_countListed 73 = .ok (.iaload, 1) := by decide +kernel
theorem d_Validator_countListed_74 : decode b_Validator_countListed 74 = .ok (.ifCond .ne 7, 3) := by decide +kernel
theorem d_Validator_countListed_77 : decode b_Validator_countListed 77 = .ok (.iconst 1, 1) := by decide +kernel
theorem d_Validator_countListed_78 : decode b_Validator_countListed 78 = .ok (.goto 4, 3) := by decide +kernel
theorem d_Validator_countListed_81 : decode b_Validator_countListed 81 = .ok (.iconst 0, 1) := by decide +kernel
theorem d_Validator_countListed_82 : decode b_Validator_countListed 82 = .ok (.iadd, 1) := by decide +kernel
theorem d_Validator_countListed_83 : decode b_Validator_countListed 83 = .ok (.iastore, 1) := by decide +kernel
theorem d_Validator_countListed_84 : decode b_Validator_countListed 84 = .ok (.aload_n 0, 1) := by decide +kernel
theorem d_Validator_countListed_85 : decode b_Validator_countListed 85 = .ok (.getfield 39, 3) := by decide +kernel
theorem d_Validator_countListed_88 : decode b_Validator_countListed 88 = .ok (.bipush 19, 2) := by decide +kernel
theorem d_Validator_countListed_90 : decode b_Validator_countListed 90 = .ok (.dup2, 1) := by decide +kernel
theorem d_Validator_countListed_91 : decode b_Validator_countListed 91 = .ok (.iaload, 1) := by decide +kernel
theorem d_Validator_countListed_92 : decode b_Validator_countListed 92 = .ok (.aload_n 0, 1) := by decide +kernel
theorem d_Validator_countListed_93 : decode b_Validator_countListed 93 = .ok (.getfield 9, 3) := by decide +kernel
theorem d_Validator_countListed_96 : decode b_Validator_countListed 96 = .ok (.getfield 191, 3) := by decide +kernel
theorem d_Validator_countListed_99 : decode b_Validator_countListed 99 = .ok (.iload 6, 2) := by decide +kernel
theorem d_Validator_countListed_101 : decode b_Validator_countListed 101 = .ok (.iaload, 1) := by decide +kernel
theorem d_Validator_countListed_102 : decode b_Validator_countListed 102 = .ok (.iload_n 3, 1) := by decide +kernel
theorem d_Validator_countListed_103 : decode b_Validator_countListed 103 = .ok (.if_icmp .ne 7, 3) := by decide +kernel
theorem d_Validator_countListed_106 : decode b_Validator_countListed 106 = .ok (.iconst 1, 1) := by decide +kernel
theorem d_Validator_countListed_107 : decode b_Validator_countListed 107 = .ok (.goto 4, 3) := by decide +kernel
theorem d_Validator_countListed_110 : decode b_Validator_countListed 110 = .ok (.iconst 0, 1) := by decide +kernel
theorem d_Validator_countListed_111 : decode b_Validator_countListed 111 = .ok (.iadd, 1) := by decide +kernel
theorem d_Validator_countListed_112 : decode b_Validator_countListed 112 = .ok (.iastore, 1) := by decide +kernel
theorem d_Validator_countListed_113 : decode b_Validator_countListed 113 = .ok (.aload_n 0, 1) := by decide +kernel
theorem d_Validator_countListed_114 : decode b_Validator_countListed 114 = .ok (.getfield 9, 3) := by decide +kernel
theorem d_Validator_countListed_117 : decode b_Validator_countListed 117 = .ok (.getfield 191, 3) := by decide +kernel
theorem d_Validator_countListed_120 : decode b_Validator_countListed 120 = .ok (.iload 6, 2) := by decide +kernel
theorem d_Validator_countListed_122 : decode b_Validator_countListed 122 = .ok (.iload_n 3, 1) := by decide +kernel
theorem d_Validator_countListed_123 : decode b_Validator_countListed 123 = .ok (.iastore, 1) := by decide +kernel
theorem d_Validator_countListed_124 : decode b_Validator_countListed 124 = .ok (.iinc 5 1, 3) := by decide +kernel
theorem d_Validator_countListed_127 : decode b_Validator_countListed 127 = .ok (.goto (-104), 3) := by decide +kernel
theorem d_Validator_countListed_130 : decode b_Validator_countListed 130 = .ok (.return_, 1) := by decide +kernel
/-- Validator_countListed -/
def w_Validator_countListed (L : Nat → Nat) (a1 : Int) (a2 : Int) (Q : IS → Prop) (σ : IS) : Prop := w_Store_newMark L  (fun v2 σ1 => inL L 121 a1 ∧ WL (fun (K3 : Int → IS → Prop) (s5 : Int) (σ6 : IS) => inL L 122 a1 ∧ inR ((σ1.2 121 (Int.toNat a1)) + (σ6.2 122 (Int.toNat a1))) ∧ if s5 < ((σ1.2 121 (Int.toNat a1)) + (σ6.2 122 (Int.toNat a1))) then inL L 124 s5 ∧ inL L 149 16 ∧ ((¬ a2 = 0 → inL L 127 (σ6.2 124 (Int.toNat s5)))) ∧ inR ((σ6.2 149 (Int.toNat 16)) + (if a2 = 0 then (0 : Int) else (if (σ6.2 127 (Int.toNat (σ6.2 124 (Int.toNat s5)))) = 0 then (1 : Int) else (0 : Int)))) ∧ inL L 149 16 ∧ inL L 149 19 ∧ inL L 155 (σ6.2 124 (Int.toNat s5)) ∧ inR (((pr σ6 149 (Int.toNat 16) ((σ6.2 149 (Int.toNat 16)) + (if a2 = 0 then (0 : Int) else (if (σ6.2 127 (Int.toNat (σ6.2 124 (Int.toNat s5)))) = 0 then (1 : Int) else (0 : Int))))).2 149 (Int.toNat 19)) + (if (σ6.2 155 (Int.toNat (σ6.2 124 (Int.toNat s5)))) = v2 then (1 : Int) else (0 : Int))) ∧ inL L 149 19 ∧ inL L 155 (σ6.2 124 (Int.toNat s5)) ∧ inR (s5 + 1) ∧ K3 (s5 + 1) (pr (pr (pr σ6 149 (Int.toNat 16) ((σ6.2 149 (Int.toNat 16)) + (if a2 = 0 then (0 : Int) else (if (σ6.2 127 (Int.toNat (σ6.2 124 (Int.toNat s5)))) = 0 then (1 : Int) else (0 : Int))))) 149 (Int.toNat 19) (((pr σ6 149 (Int.toNat 16) ((σ6.2 149 (Int.toNat 16)) + (if a2 = 0 then (0 : Int) else (if (σ6.2 127 (Int.toNat (σ6.2 124 (Int.toNat s5)))) = 0 then (1 : Int) else (0 : Int))))).2 149 (Int.toNat 19)) + (if (σ6.2 155 (Int.toNat (σ6.2 124 (Int.toNat s5)))) = v2 then (1 : Int) else (0 : Int)))) 155 (Int.toNat (σ6.2 124 (Int.toNat s5))) v2) else Q σ6) (σ1.2 121 (Int.toNat a1)) σ1) σ
set_option maxHeartbeats 4000000 in
set_option maxRecDepth 20000 in
theorem s_Validator_countListed {L : Nat → Nat} (hL : ∀ r, L r < 2147483648) {d : Nat} (hd : 1 ≤ d) {a1 : Int} {a2 : Int} {Q : IS → Prop} {σ : IS}  (h : w_Validator_countListed L a1 a2 Q σ) : OkI BF L d 8 b_Validator_countListed 7 0 0 [] [some (.inr 8), some (.inl a1), some (.inl a2)] σ (qv Q) := by
  unfold w_Validator_countListed at h
  obtain ⟨d, rfl⟩ : ∃ e, d = e + 1 := ⟨d - 1, by omega⟩
  refine k_sb (lv' := [some (.inr 8), some (.inl a1), some (.inl a2), none, none, none, none]) (sb_s (sb_s (sb_s (sb_e (sb_e (sb_e (sb_e sb_nil))))))) ?_
  refine k_aload_n d_Validator_countListed_0 rfl ?_
  refine k_getR d_Validator_countListed_1 fl_8_9 ob_8 rfl ?_
  refine k_cvi [] d_Validator_countListed_4 ml_8_152 rfl rfl ob_1 rfl (s_Store_newMark hL (by omega)  h) (fun v2 σ1 h => ?_)
  refine k_istore_n (lv' := [some (.inr 8), some (.inl a1), some (.inl a2), some (.inl v2), none, none, none]) d_Validator_countListed_7 rfl rfl ?_
  refine k_aload_n d_Validator_countListed_8 rfl ?_
  refine k_getR d_Validator_countListed_9 fl_8_23 ob_8 rfl ?_
  refine k_getR d_Validator_countListed_12 fl_8_247 ob_4 rfl ?_
  refine k_iload_n d_Validator_countListed_15 rfl ?_
  obtain ⟨p34, h⟩ := h
  refine k_ild (x := (σ1.2 121 (Int.toNat a1))) d_Validator_countListed_16 rI_121 p34 rfl ?_
  refine k_istore (lv' := [some (.inr 8), some (.inl a1), some (.inl a2), some (.inl v2), some (.inl (σ1.2 121 (Int.toNat a1))), none, none]) d_Validator_countListed_17 rfl rfl ?_
  refine k_iload d_Validator_countListed_19 rfl ?_
  refine k_istore (lv' := [some (.inr 8), some (.inl a1), some (.inl a2), some (.inl v2), some (.inl (σ1.2 121 (Int.toNat a1))), some (.inl (σ1.2 121 (Int.toNat a1))), none]) d_Validator_countListed_21 rfl rfl ?_
  refine k_sb (lv' := [some (.inr 8), some (.inl a1), some (.inl a2), some (.inl v2), some (.inl (σ1.2 121 (Int.toNat a1))), some (.inl (σ1.2 121 (Int.toNat a1))), none]) (sb_s (sb_s (sb_s (sb_s (sb_s (sb_s (sb_s sb_nil))))))) ?_
  refine k_loop (S := Int) (st := fun _ => []) (lv := fun s5 => [some (.inr 8), some (.inl a1), some (.inl a2), some (.inl v2), some (.inl (σ1.2 121 (Int.toNat a1))), some (.inl s5), none]) (fun K3 hK4 s5 σ6 h => ?_) (σ1.2 121 (Int.toNat a1)) _ h
  refine k_iload d_Validator_countListed_23 rfl ?_
  refine k_iload d_Validator_countListed_25 rfl ?_
  refine k_aload_n d_Validator_countListed_27 rfl ?_
  refine k_getR d_Validator_countListed_28 fl_8_23 ob_8 rfl ?_
  refine k_getR d_Validator_countListed_31 fl_8_250 ob_4 rfl ?_
  refine k_iload_n d_Validator_countListed_34 rfl ?_
  obtain ⟨p33, h⟩ := h
  refine k_ild (x := (σ6.2 122 (Int.toNat a1))) d_Validator_countListed_35 rI_122 p33 rfl ?_
  obtain ⟨p32, h⟩ := h
  refine k_iadd d_Validator_countListed_36 p32 ?_
  refine k_icge d_Validator_countListed_37 rfl (fun c7 => ?_) (fun c7 => ?_)
  · have h := ineg c7 h
    exact k_ret d_Validator_countListed_130 h
  · have h := ipos c7 h
    refine k_aload_n d_Validator_countListed_40 rfl ?_
    refine k_getR d_Validator_countListed_41 fl_8_23 ob_8 rfl ?_
    refine k_getR d_Validator_countListed_44 fl_8_253 ob_4 rfl ?_
    refine k_iload d_Validator_countListed_47 rfl ?_
    obtain ⟨p31, h⟩ := h
    refine k_ild (x := (σ6.2 124 (Int.toNat s5))) d_Validator_countListed_49 rI_124 p31 rfl ?_
    refine k_istore (lv' := [some (.inr 8), some (.inl a1), some (.inl a2), some (.inl v2), some (.inl (σ1.2 121 (Int.toNat a1))), some (.inl s5), some (.inl (σ6.2 124 (Int.toNat s5)))]) d_Validator_countListed_50 rfl rfl ?_
    refine k_aload_n d_Validator_countListed_52 rfl ?_
    refine k_getR d_Validator_countListed_53 fl_8_39 ob_8 rfl ?_
    refine k_bipush d_Validator_countListed_56 cB_16 ?_
    refine k_dup2 d_Validator_countListed_58 ?_
    obtain ⟨p30, h⟩ := h
    refine k_ild (x := (σ6.2 149 (Int.toNat 16))) d_Validator_countListed_59 rI_149 p30 rfl ?_
    refine k_iload_n d_Validator_countListed_60 rfl ?_
    obtain ⟨pt22, h⟩ := h
    have hV21 : OkI BF L (d + 1) 8 b_Validator_countListed 7 0 82 [.inl (if a2 = 0 then (0 : Int) else (if (σ6.2 127 (Int.toNat (σ6.2 124 (Int.toNat s5)))) = 0 then (1 : Int) else (0 : Int))), .inl (σ6.2 149 (Int.toNat 16)), .inl 16, .inr 149] [some (.inr 8), some (.inl a1), some (.inl a2), some (.inl v2), some (.inl (σ1.2 121 (Int.toNat a1))), some (.inl s5), some (.inl (σ6.2 124 (Int.toNat s5)))] σ6 (qv Q) := by
      obtain ⟨p20, h⟩ := h
      refine k_iadd d_Validator_countListed_82 p20 ?_
      obtain ⟨p19, h⟩ := h
      refine k_ist d_Validator_countListed_83 rI_149 p19 ?_
      refine k_aload_n d_Validator_countListed_84 rfl ?_
      refine k_getR d_Validator_countListed_85 fl_8_39 ob_8 rfl ?_
      refine k_bipush d_Validator_countListed_88 cB_19 ?_
      refine k_dup2 d_Validator_countListed_90 ?_
      obtain ⟨p18, h⟩ := h
      refine k_ild (x := ((pr σ6 149 (Int.toNat 16) ((σ6.2 149 (Int.toNat 16)) + (if a2 = 0 then (0 : Int) else (if (σ6.2 127 (Int.toNat (σ6.2 124 (Int.toNat s5)))) = 0 then (1 : Int) else (0 : Int))))).2 149 (Int.toNat 19))) d_Validator_countListed_91 rI_149 p18 rfl ?_
      refine k_aload_n d_Validator_countListed_92 rfl ?_
      refine k_getR d_Validator_countListed_93 fl_8_9 ob_8 rfl ?_
      refine k_getR d_Validator_countListed_96 fl_8_191 ob_1 rfl ?_
      refine k_iload d_Validator_countListed_99 rfl ?_
      obtain ⟨p17, h⟩ := h
      refine k_ild (x := (σ6.2 155 (Int.toNat (σ6.2 124 (Int.toNat s5))))) d_Validator_countListed_101 rI_155 p17 rfl ?_
      refine k_iload_n d_Validator_countListed_102 rfl ?_
      have hV13 : OkI BF L (d + 1) 8 b_Validator_countListed 7 0 111 [.inl (if (σ6.2 155 (Int.toNat (σ6.2 124 (Int.toNat s5)))) = v2 then (1 : Int) else (0 : Int)), .inl ((pr σ6 149 (Int.toNat 16) ((σ6.2 149 (Int.toNat 16)) + (if a2 = 0 then (0 : Int) else (if (σ6.2 127 (Int.toNat (σ6.2 124 (Int.toNat s5)))) = 0 then (1 : Int) else (0 : Int))))).2 149 (Int.toNat 19)), .inl 19, .inr 149] [some (.inr 8), some (.inl a1), some (.inl a2), some (.inl v2), some (.inl (σ1.2 121 (Int.toNat a1))), some (.inl s5), some (.inl (σ6.2 124 (Int.toNat s5)))] (pr σ6 149 (Int.toNat 16) ((σ6.2 149 (Int.toNat 16)) + (if a2 = 0 then (0 : Int) else (if (σ6.2 127 (Int.toNat (σ6.2 124 (Int.toNat s5)))) = 0 then (1 : Int) else (0 : Int))))) (qv Q) := by
        obtain ⟨p12, h⟩ := h
        refine k_iadd d_Validator_countListed_111 p12 ?_
        obtain ⟨p11, h⟩ := h
        refine k_ist d_Validator_countListed_112 rI_149 p11 ?_
        refine k_aload_n d_Validator_countListed_113 rfl ?_
        refine k_getR d_Validator_countListed_114 fl_8_9 ob_8 rfl ?_
        refine k_getR d_Validator_countListed_117 fl_8_191 ob_1 rfl ?_
        refine k_iload d_Validator_countListed_120 rfl ?_
        refine k_iload_n d_Validator_countListed_122 rfl ?_
        obtain ⟨p10, h⟩ := h
        refine k_ist d_Validator_countListed_123 rI_155 p10 ?_
        obtain ⟨p9, h⟩ := h
        refine k_iinc (lv' := [some (.inr 8), some (.inl a1), some (.inl a2), some (.inl v2), some (.inl (σ1.2 121 (Int.toNat a1))), some (.inl (s5 + 1)), some (.inl (σ6.2 124 (Int.toNat s5)))]) d_Validator_countListed_124 cI_1 rfl rfl p9 rfl ?_
        refine k_goto d_Validator_countListed_127 rfl ?_
        exact k_sb (sb_s (sb_s (sb_s (sb_s (sb_s (sb_s (sb_n sb_nil))))))) (hK4 (s5 + 1) _ h)
      refine k_icne d_Validator_countListed_103 rfl (fun c14 => ?_) (fun c14 => ?_)
      · have hV16 := k_eqI (if_neg c14) hV13
        refine k_iconst d_Validator_countListed_110 cI_0 ?_
        exact hV16
      · have hV15 := k_eqI (if_pos c14) hV13
        refine k_iconst d_Validator_countListed_106 cI_1 ?_
        refine k_goto d_Validator_countListed_107 rfl ?_
        exact hV15
    have pb23 := pt22
    refine k_ifeq d_Validator_countListed_61 rfl (fun c24 => ?_) (fun c24 => ?_)
    · have hV25 := k_eqI (if_pos c24) hV21
      refine k_iconst d_Validator_countListed_81 cI_0 ?_
      exact hV25
    · have pb23 := pb23 c24
      have hV26 := k_eqI (if_neg c24) hV21
      have p8 := pb23
      refine k_aload_n d_Validator_countListed_64 rfl ?_
      refine k_getR d_Validator_countListed_65 fl_8_23 ob_8 rfl ?_
      refine k_getR d_Validator_countListed_68 fl_8_297 ob_4 rfl ?_
      refine k_iload d_Validator_countListed_71 rfl ?_
      refine k_ild (x := (σ6.2 127 (Int.toNat (σ6.2 124 (Int.toNat s5))))) d_Validator_countListed_73 rI_127 p8 rfl ?_
      refine k_ifne d_Validator_countListed_74 rfl (fun c27 => ?_) (fun c27 => ?_)
      · have hV29 := k_eqI (if_neg c27) hV26
        refine k_iconst d_Validator_countListed_81 cI_0 ?_
        exact hV29
      · have hV28 := k_eqI (if_pos c27) hV26
        refine k_iconst d_Validator_countListed_77 cI_1 ?_
        refine k_goto d_Validator_countListed_78 rfl ?_
        exact hV28
theorem d_Validator_countAttributes_0 : decode b_Validator_countAttributes 0 = .ok (.iconst 0, 1) := by decide +kernel
theorem d_Validator_countAttributes_1 : decode b_Validator_countAttributes 1 = .ok (.istore_n 1, 1) := by decide +kernel
theorem d_Validator_countAttributes_2 : decode b_Validator_countAttributes 2 = .ok (.iload_n 1, 1) := by decide +kernel
theorem d_Validator_countAttributes_3 : decode b_Validator_countAttributes 3 = .ok (.aload_n 0, 1) := by decide +kernel
theorem d_Validator_countAttributes_4 : decode b_Validator_countAttributes 4 = .ok (.getfield 9, 3) := by decide +kernel
theorem d_Validator_countAttributes_7 : decode b_Validator_countAttributes 7 = .ok (.getfield 287, 3) := by decide +kernel
theorem d_Validator_countAttributes_10 : decode b_Validator_countAttributes 10 = .ok (.if_icmp .ge 235, 3) := by decide +kernel
theorem d_Validator_countAttributes_13 : decode b_Validator_countAttributes 13 = .ok (.aload_n 0, 1) := by decide +kernel
theorem d_Validator_countAttributes_14 : decode b_Validator_countAttributes 14 = .ok (.getfield 23, 3) := by decide +kernel
theorem d_Validator_countAttributes_17 : decode b_Validator_countAttributes 17 = .ok (.getfield 228, 3) := by decide +kernel
theorem d_Validator_countAttributes_20 : decode b_Validator_countAttributes 20 = .ok (.iload_n 1, 1) := by decide +kernel
theorem d_Validator_countAttributes_21 : decode b_Validator_countAttributes 21 = .ok (.iaload, 1) := by decide +kernel
theorem d_Validator_countAttributes_22 : decode b_Validator_countAttributes 22 = .ok (.iconst 1, 1) := by decide +kernel
theorem d_Validator_countAttributes_23 : decode b_Validator_countAttributes 23 = .ok (.isub, 1) := by decide +kernel
theorem d_Validator_countAttributes_24 : decode b_Validator_countAttributes 24 = .ok (.istore_n 2, 1) := by decide +kernel
theorem d_Validator_countAttributes_25 : decode b_Validator_countAttributes 25 = .ok (.iconst 0, 1) := by decide +kernel
theorem d_Validator_countAttributes_26 : decode b_Validator_countAttributes 26 = .ok (.istore_n 3, 1) := by decide +kernel
theorem d_Validator_countAttributes_27 : decode b_Validator_countAttributes 27 = .ok (.iconst 0, 1) := by decide +kernel
theorem d_Validator_countAttributes_28 : decode b_Validator_countAttributes 28 = .ok (.istore 4, 2) := by decide +kernel
theorem d_Validator_countAttributes_30 : decode b_Validator_countAttributes 30 = .ok (.iconst 0, 1) := by decide +kernel
theorem d_Validator_countAttributes_31 : decode b_Validator_countAttributes 31 = .ok (.istore 5, 2) := by decide +kernel
theorem d_Validator_countAttributes_33 : decode b_Validator_countAttributes 33 = .ok (.iload 5, 2) := by decide +kernel
theorem d_Validator_countAttributes_35 : decode b_Validator_countAttributes 35 = .ok (.aload_n 0, 1) := by decide +kernel
theorem d_Validator_countAttributes_36 : decode b_Validator_countAttributes 36 = .ok (.getfield 23, 3) := by decide +kernel
theorem d_Validator_countAttributes_39 : decode b_Validator_countAttributes 39 = .ok (.getfield 231, 3) := by decide +kernel
theorem d_Validator_countAttributes_42 : decode b_Validator_countAttributes 42 = .ok (.if_icmp .ge 197, 3) := by decide +kernel
theorem d_Validator_countAttributes_45 : decode b_Validator_countAttributes 45 = .ok (.iload_n 2, 1) := by decide +kernel
theorem d_Validator_countAttributes_46 : decode b_Validator_countAttributes 46 = .ok (.iconst (-1), 1) := by decide +kernel
theorem d_Validator_countAttributes_47 : decode b_Validator_countAttributes 47 = .ok (.if_icmp .eq 192, 3) := by decide +kernel
theorem d_Validator_countAttributes_50 : decode b_Validator_countAttributes 50 = .ok (.aload_n 0, 1) := by decide +kernel
theorem d_Validator_countAttributes_51 : decode b_Validator_countAttributes 51 = .ok (.getfield 23, 3) := by decide +kernel
theorem d_Validator_countAttributes_54 : decode b_Validator_countAttributes 54 = .ok (.getfield 237, 3) := by decide +kernel
theorem d_Validator_countAttributes_57 : decode b_Validator_countAttributes 57 = .ok (.iload_n 2, 1) := by decide +kernel
theorem d_Validator_countAttributes_58 : decode b_Validator_countAttributes 58 = .ok (.iaload, 1) := by decide +kernel
theorem d_Validator_countAttributes_59 : decode b_Validator_countAttributes 59 = .ok (.istore 6, 2) := by decide +kernel
theorem d_Validator_countAttributes_61 : decode b_Validator_countAttributes 61 = .ok (.aload_n 0, 1) := by decide +kernel
theorem d_Validator_countAttributes_62 : decode b_Validator_countAttributes 62 = .ok (.getfield 23, 3) := by decide +kernel
theorem d_Validator_countAttributes_65 : decode b_Validator_countAttributes 65 = .ok (.getfield 224, 3) := by decide +kernel
theorem d_Validator_countAttributes_68 : decode b_Validator_countAttributes 68 = .ok (.iload_n 2, 1) := by decide +kernel
theorem d_Validator_countAttributes_69 : decode b_Validator_countAttributes 69 = .ok (.iaload, 1) := by decide +kernel
theorem d_Validator_countAttributes_70 : decode b_Validator_countAttributes 70 = .ok (.iconst 2, 1) := by decide +kernel
theorem d_Validator_countAttributes_71 : decode b_Validator_countAttributes 71 = .ok (.if_icmp .lt 7, 3) := by decide +kernel
theorem d_Validator_countAttributes_74 : decode b_Validator_countAttributes 74 = .ok (.iconst 1, 1) := by decide +kernel
theorem d_Validator_countAttributes_75 : decode b_Validator_countAttributes 75 = .ok (.goto 4, 3) := by decide +kernel
theorem d_Validator_countAttributes_78 : decode b_Validator_countAttributes 78 = .ok (.iconst 0, 1) := by decide +kernel
theorem d_Validator_countAttributes_79 : decode b_Validator_countAttributes 79 = .ok (.istore 7, 2) := by decide +kernel
theorem d_Validator_countAttributes_81 : decode b_Validator_countAttributes 81 = .ok (.aload_n 0, 1) := by decide +kernel
theorem d_Validator_countAttributes_82 : decode b_Validator_countAttributes 82 = .ok (.getfield 39, 3) := by decide +kernel
theorem d_Validator_countAttributes_85 : decode b_Validator_countAttributes 85 = .ok (.bipush 15, 2) := by decide +kernel
theorem d_Validator_countAttributes_87 : decode b_Validator_countAttributes 87 = .ok (.dup2, 1) := by decide +kernel
theorem d_Validator_countAttributes_88 : decode b_Validator_countAttributes 88 = .ok (.iaload, 1) := by decide +kernel
theorem d_Validator_countAttributes_89 : decode b_Validator_countAttributes 89 = .ok (.iload 7, 2) := by decide +kernel
theorem d_Validator_countAttributes_91 : decode b_Validator_countAttributes 91 = .ok (.ifCond .eq 24, 3) := by decide +kernel
theorem d_Validator_countAttributes_94 : decode b_Validator_countAttributes 94 = .ok (.aload_n 0, 1) := by decide +kernel
theorem d_Validator_countAttributes_95 : decode b_Validator_countAttributes 95 = .ok (.aload_n 0, 1) := by decide +kernel
theorem d_Validator_countAttributes_96 : decode b_Validator_countAttributes 96 = .ok (.getfield 23, 3) := by decide +kernel
theorem d_Validator_countAttributes_99 : decode b_Validator_countAttributes 99 = .ok (.getfield 227, 3) := by decide +kernel
theorem d_Validator_countAttributes_102 : decode b_Validator_countAttributes 102 = .ok (.iload_n 2, 1) := by decide +kernel
theorem d_Validator_countAttributes_103 : decode b_Validator_countAttributes 103 = .ok (.iaload, 1) := by decide +kernel
theorem d_Validator_countAttributes_104 : decode b_Validator_countAttributes 104 = .ok (.iload_n 2, 1) := by decide +kernel
theorem d_Validator_countAttributes_105 : decode b_Validator_countAttributes 105 = .ok (.invokevirtual 220, 3) := by decide +kernel
theorem d_Validator_countAttributes_108 : decode b_Validator_countAttributes 108 = .ok (.ifCond .ne 7, 3) := by decide +kernel
theorem d_Validator_countAttributes_111 : decode b_Validator_countAttributes 111 = .ok (.iconst 1, 1) := by decide +kernel
theorem d_Validator_countAttributes_112 : decode b_Validator_countAttributes 112 = .ok (.goto 4, 3) := by decide +kernel
theorem d_Validator_countAttributes_115 : decode b_Validator_countAttributes 115 = .ok (.iconst 0, 1) := by decide +kernel
theorem d_Validator_countAttributes_116 : decode b_Validator_countAttributes 116 = .ok (.iadd, 1) := by decide +kernel
theorem d_Validator_countAttributes_117 : decode b_Validator_countAttributes 117 = .ok (.iastore, 1) := by decide +kernel
theorem d_Validator_countAttributes_118 : decode b_Validator_countAttributes 118 = .ok (.iload 6, 2) := by decide +kernel
theorem d_Validator_countAttributes_120 : decode b_Validator_countAttributes 120 = .ok (.bipush 11, 2) := by decide +kernel
theorem d_Validator_countAttributes_122 : decode b_Validator_countAttributes 122 = .ok (.if_icmp .ne 36, 3) := by decide +kernel
theorem d_Validator_countAttributes_125 : decode b_Validator_countAttributes 125 = .ok (.aload_n 0, 1) := by decide +kernel
theorem d_Validator_countAttributes_126 : decode b_Validator_countAttributes 126 = .ok (.getfield 39, 3) := by decide +kernel
theorem d_Validator_countAttributes_129 : decode b_Validator_countAttributes 129 = .ok (.bipush 13, 2) := by decide +kernel
theorem d_Validator_countAttributes_131 : decode b_Validator_countAttributes 131 = .ok (.dup2, 1) := by decide +kernel
theorem d_Validator_countAttributes_132 : decode b_Validator_countAttributes 132 = .ok (.iaload, 1) := by decide +kernel
theorem d_Validator_countAttributes_133 : decode b_Validator_countAttributes 133 = .ok (.iload_n 3, 1) := by decide +kernel
theorem d_Validator_countAttributes_134 : decode b_Validator_countAttributes 134 = .ok (.iadd, 1) := by decide +kernel
theorem d_Validator_countAttributes_135 : decode b_Validator_countAttributes 135 = .ok (.iastore, 1) := by decide +kernel
theorem d_Validator_countAttributes_136 : decode b_Validator_countAttributes 136 = .ok (.aload_n 0, 1) := by decide +kernel
theorem d_Validator_countAttributes_137 : decode b_Validator_countAttributes 137 = .ok (.getfield 39, 3) := by decide +kernel
theorem d_Validator_countAttributes_140 : decode b_Validator_countAttributes 140 = .ok (.bipush 14, 2) := by decide +kernel
theorem d_Validator_countAttributes_142 : decode b_Validator_countAttributes 142 = .ok (.dup2, 1) := by decide +kernel
theorem d_Validator_countAttributes_143 : decode b_Validator_countAttributes 143 = .ok (.iaload, 1) := by decide +kernel
theorem d_Validator_countAttributes_144 : decode b_Validator_countAttributes 144 = .ok (.iload 7, 2) := by decide +kernel
theorem d_Validator_countAttributes_146 : decode b_Validator_countAttributes 146 = .ok (.ifCond .eq 7, 3) := by decide +kernel
theorem d_Validator_countAttributes_149 : decode b_Validator_countAttributes 149 = .ok (.iconst 1, 1) := by decide +kernel
theorem d_Validator_countAttributes_150 : decode b_Validator_countAttributes 150 = .ok (.goto 4, 3) := by decide +kernel
theorem d_Validator_countAttributes_153 : decode b_Validator_countAttributes 153 = .ok (.iconst 0, 1) := by decide +kernel
theorem d_Validator_countAttributes_154 : decode b_Validator_countAttributes 154 = .ok (.iadd, 1) := by decide +kernel
theorem d_Validator_countAttributes_155 : decode b_Validator_countAttributes 155 = .ok (.iastore, 1) := by decide +kernel
theorem d_Validator_countAttributes_156 : decode b_Validator_countAttributes 156 = .ok (.iconst 1, 1) := by decide +kernel
theorem d_Validator_countAttributes_157 : decode b_Validator_countAttributes 157 = .ok (.istore_n 3, 1) := by decide +kernel
theorem d_Validator_countAttributes_158 : decode b_Validator_countAttributes 158 = .ok (.iload 6, 2) := by decide +kernel
theorem d_Validator_countAttributes_160 : decode b_Validator_countAttributes 160 = .ok (.bipush 18, 2) := by decide +kernel
theorem d_Validator_countAttributes_162 : decode b_Validator_countAttributes 162 = .ok (.if_icmp .ne 44, 3) := by decide +kernel
theorem d_Validator_countAttributes_165 : decode b_Validator_countAttributes 165 = .ok (.aload_n 0, 1) := by decide +kernel
theorem d_Validator_countAttributes_166 : decode b_Validator_countAttributes 166 = .ok (.getfield 39, 3) := by decide +kernel
theorem d_Validator_countAttributes_169 : decode b_Validator_countAttributes 169 = .ok (.bipush 17, 2) := by decide +kernel
theorem d_Validator_countAttributes_171 : decode b_Validator_countAttributes 171 = .ok (.dup2, 1) := by decide +kernel
theorem d_Validator_countAttributes_172 : decode b_Validator_countAttributes 172 = .ok (.iaload, 1) := by decide +kernel
theorem d_Validator_countAttributes_173 : decode b_Validator_countAttributes 173 = .ok (.iload 4, 2) := by decide +kernel
theorem d_Validator_countAttributes_175 : decode b_Validator_countAttributes 175 = .ok (.iadd, 1) := by decide +kernel
theorem d_Validator_countAttributes_176 : decode b_Validator_countAttributes 176 = .ok (.iastore, 1) := by decide +kernel
theorem d_Validator_countAttributes_177 : decode b_Validator_countAttributes 177 = .ok (.aload_n 0, 1) := by decide +kernel
theorem d_Validator_countAttributes_178 : decode b_Validator_countAttributes 178 = .ok (.getfield 39, 3) := by decide +kernel
theorem d_Validator_countAttributes_181 : decode b_Validator_countAttributes 181 = .ok (.bipush 18, 2) := by decide +kernel
theorem d_Validator_countAttributes_183 : decode b_Validator_countAttributes 183 = .ok (.dup2, 1) := by decide +kernel
theorem d_Validator_countAttributes_184 : decode b_Validator_countAttributes 184 = .ok (.iaload, 1) := by decide +kernel
theorem d_Validator_countAttributes_185 : decode b_Validator_countAttributes 185 = .ok (.aload_n 0, 1) := by decide +kernel
theorem d_Validator_countAttributes_186 : decode b_Validator_countAttributes 186 = .ok (.getfield 23, 3) := by decide +kernel
theorem d_Validator_countAttributes_189 : decode b_Validator_countAttributes 189 = .ok (.iload_n 1, 1) := by decide +kernel
theorem d_Validator_countAttributes_190 : decode b_Validator_countAttributes 190 = .ok (.invokevirtual 290, 3) := by decide +kernel
theorem d_Validator_countAttributes_193 : decode b_Validator_countAttributes 193 = .ok (.ifCond .eq 7, 3) := by decide +kernel
theorem d_Validator_countAttributes_196 : decode b_Validator_countAttributes 196 = .ok (.iconst 1, 1) := by decide +kernel
theorem d_Validator_countAttributes_197 : decode b_Validator_countAttributes 197 = .ok (.goto 4, 3) := by decide +kernel
theorem d_Validator_countAttributes_200 : decode b_Validator_countAttributes 200 = .ok (.iconst 0, 1) := by decide +kernel
theorem d_Validator_countAttributes_201 : decode b_Validator_countAttributes 201 = .ok (.iadd, 1) := by decide +kernel
theorem d_Validator_countAttributes_202 : decode b_Validator_countAttributes 202 = .ok (.iastore, 1) := by decide +kernel
theorem d_Validator_countAttributes_203 : decode b_Validator_countAttributes 203 = .ok (.iconst 1, 1) := by decide +kernel
theorem d_Validator_countAttributes_204 : decode b_Validator_countAttributes 204 = .ok (.istore 4, 2) := by decide +kernel
theorem d_Validator_countAttributes_206 : decode b_Validator_countAttributes 206 = .ok (.aload_n 0, 1) := by decide +kernel
theorem d_Validator_countAttributes_207 : decode b_Validator_countAttributes 207 = .ok (.iload_n 2, 1) := by decide +kernel
theorem d_Validator_countAttributes_208 : decode b_Validator_countAttributes 208 = .ok (.iload 6, 2) := by decide +kernel
theorem d_Validator_countAttributes_210 : decode b_Validator_countAttributes 210 = .ok (.bipush 18, 2) := by decide +kernel
theorem d_Validator_countAttributes_212 : decode b_Validator_countAttributes 212 = .ok (.if_icmp .ne 7, 3) := by decide +kernel
theorem d_Validator_countAttributes_215 : decode b_Validator_countAttributes 215 = .ok (.iconst 1, 1) := by decide +kernel
theorem d_Validator_countAttributes_216 : decode b_Validator_countAttributes 216 = .ok (.goto 4, 3) := by decide +kernel
theorem d_Validator_countAttributes_219 : decode b_Validator_countAttributes 219 = .ok (.iconst 0, 1) := by decide +kernel
theorem d_Validator_countAttributes_220 : decode b_Validator_countAttributes 220 = .ok (.invokevirtual 293, 3) := by decide +kernel
theorem d_Validator_countAttributes_223 : decode b_Validator_countAttributes 223 = .ok (.aload_n 0, 1) := by decide +kernel
theorem d_Validator_countAttributes_224 : decode b_Validator_countAttributes 224 = .ok (.getfield 23, 3) := by decide +kernel
theorem d_Validator_countAttributes_227 : decode b_Validator_countAttributes 227 = .ok (.getfield 234, 3) := by decide +kernel
theorem d_Validator_countAttributes_230 : decode b_Validator_countAttributes 230 = .ok (.iload_n 2, 1) := by decide +kernel
theorem d_Validator_countAttributes_231 : decode b_Validator_countAttributes 231 = .ok (.iaload, 1) := by decide +kernel
theorem d_Validator_countAttributes_232 : decode b_Validator_countAttributes 232 = .ok (.istore_n 2, 1) := by decide +kernel
theorem d_Validator_countAttributes_233 : decode b_Validator_countAttributes 233 = .ok (.iinc 5 1, 3) := by decide +kernel
theorem d_Validator_countAttributes_236 : decode b_Validator_countAttributes 236 = .ok (.goto (-203), 3) := by decide +kernel
theorem d_Validator_countAttributes_239 : decode b_Validator_countAttributes 239 = .ok (.iinc 1 1, 3) := by decide +kernel
theorem d_Validator_countAttributes_242 : decode b_Validator_countAttributes 242 = .ok (.goto (-240), 3) := by decide +kernel
theorem d_Validator_countAttributes_245 : decode b_Validator_countAttributes 245 = .ok (.return_, 1) := by decide +kernel
/-- Validator_countAttributes -/
def w_Validator_countAttributes (L : Nat → Nat)  (Q : IS → Prop) (σ : IS) : Prop := WL (fun (K1 : Int → IS → Prop) (s3 : Int) (σ4 : IS) => if s3 < (σ4.1 1 14) then inL L 126 s3 ∧ inR ((σ4.2 126 (Int.toNat s3)) - 1) ∧ WL (fun (K6 : Int × Int × Int × Int → IS → Prop) (s8 : Int × Int × Int × Int) (σ9 : IS) => if s8.2.2.2 < (σ9.1 4 12) ∧ (¬ s8.1 = (-1)) then inL L 118 s8.1 ∧ inL L 119 s8.1 ∧ inL L 149 15 ∧ WJ (fun (s12 : Int) (σ13 : IS) => inR ((σ9.2 149 (Int.toNat 15)) + s12) ∧ inL L 149 15 ∧ WJ (fun (s16 : Int) (σ17 : IS) => WJ (fun (s20 : Int) (σ21 : IS) => w_Validator_countListed L s8.1 (if (σ9.2 118 (Int.toNat s8.1)) = 18 then (1 : Int) else (0 : Int)) (fun σ22 => inL L 123 s8.1 ∧ inR (s8.2.2.2 + 1) ∧ K6 ((σ22.2 123 (Int.toNat s8.1)), s16, s20, (s8.2.2.2 + 1)) σ22) σ21) (fun J18 => if (σ9.2 118 (Int.toNat s8.1)) = 18 then inL L 149 17 ∧ inR ((σ17.2 149 (Int.toNat 17)) + s8.2.2.1) ∧ inL L 149 17 ∧ inL L 149 18 ∧ w_Declared_isEmpty L s3 (fun v32 σ31 => inR (((pr σ17 149 (Int.toNat 17) ((σ17.2 149 (Int.toNat 17)) + s8.2.2.1)).2 149 (Int.toNat 18)) + (if v32 = 0 then (0 : Int) else (1 : Int))) ∧ inL L 149 18 ∧ J18 1 (pr σ31 149 (Int.toNat 18) (((pr σ17 149 (Int.toNat 17) ((σ17.2 149 (Int.toNat 17)) + s8.2.2.1)).2 149 (Int.toNat 18)) + (if v32 = 0 then (0 : Int) else (1 : Int))))) (pr σ17 149 (Int.toNat 17) ((σ17.2 149 (Int.toNat 17)) + s8.2.2.1)) else J18 s8.2.2.1 σ17)) (fun J14 => if (σ9.2 118 (Int.toNat s8.1)) = 11 then inL L 149 13 ∧ inR (((pr σ13 149 (Int.toNat 15) ((σ9.2 149 (Int.toNat 15)) + s12)).2 149 (Int.toNat 13)) + s8.2.1) ∧ inL L 149 13 ∧ inL L 149 14 ∧ inR (((pr (pr σ13 149 (Int.toNat 15) ((σ9.2 149 (Int.toNat 15)) + s12)) 149 (Int.toNat 13) (((pr σ13 149 (Int.toNat 15) ((σ9.2 149 (Int.toNat 15)) + s12)).2 149 (Int.toNat 13)) + s8.2.1)).2 149 (Int.toNat 14)) + (if (if (σ9.2 119 (Int.toNat s8.1)) < 2 then (0 : Int) else (1 : Int)) = 0 then (0 : Int) else (1 : Int))) ∧ inL L 149 14 ∧ J14 1 (pr (pr (pr σ13 149 (Int.toNat 15) ((σ9.2 149 (Int.toNat 15)) + s12)) 149 (Int.toNat 13) (((pr σ13 149 (Int.toNat 15) ((σ9.2 149 (Int.toNat 15)) + s12)).2 149 (Int.toNat 13)) + s8.2.1)) 149 (Int.toNat 14) (((pr (pr σ13 149 (Int.toNat 15) ((σ9.2 149 (Int.toNat 15)) + s12)) 149 (Int.toNat 13) (((pr σ13 149 (Int.toNat 15) ((σ9.2 149 (Int.toNat 15)) + s12)).2 149 (Int.toNat 13)) + s8.2.1)).2 149 (Int.toNat 14)) + (if (if (σ9.2 119 (Int.toNat s8.1)) < 2 then (0 : Int) else (1 : Int)) = 0 then (0 : Int) else (1 : Int)))) else J14 s8.2.1 (pr σ13 149 (Int.toNat 15) ((σ9.2 149 (Int.toNat 15)) + s12)))) (fun J10 => WJ (fun (s58 : Unit) (σ59 : IS) => J10 0 σ59) (fun J56 => if (if (σ9.2 119 (Int.toNat s8.1)) < 2 then (0 : Int) else (1 : Int)) = 0 then J56 () σ9 else inL L 120 s8.1 ∧ w_Validator_isAsWanted L (σ9.2 120 (Int.toNat s8.1)) s8.1 (fun v62 σ61 => if v62 = 0 then J10 1 σ61 else J56 () σ61) σ9)) else inR (s3 + 1) ∧ K1 (s3 + 1) σ9) (((σ4.2 126 (Int.toNat s3)) - 1), 0, 0, 0) σ4 else Q σ4) 0 σ
set_option maxHeartbeats 4000000 in
set_option maxRecDepth 20000 in
theorem s_Validator_countAttributes {L : Nat → Nat} (hL : ∀ r, L r < 2147483648) {d : Nat} (hd : 3 ≤ d)  {Q : IS → Prop} {σ : IS}  (h : w_Validator_countAttributes L  Q σ) : OkI BF L d 8 b_Validator_countAttributes 8 0 0 [] [some (.inr 8)] σ (qv Q) := by
  unfold w_Validator_countAttributes at h
  obtain ⟨d, rfl⟩ : ∃ e, d = e + 1 := ⟨d - 1, by omega⟩
  refine k_sb (lv' := [some (.inr 8), none, none, none, none, none, none, none]) (sb_s (sb_e (sb_e (sb_e (sb_e (sb_e (sb_e (sb_e sb_nil)))))))) ?_
  refine k_iconst d_Validator_countAttributes_0 cI_0 ?_
  refine k_istore_n (lv' := [some (.inr 8), some (.inl 0), none, none, none, none, none, none]) d_Validator_countAttributes_1 rfl rfl ?_
  refine k_sb (lv' := [some (.inr 8), some (.inl 0), none, none, none, none, none, none]) (sb_s (sb_s (sb_s (sb_s (sb_s (sb_s (sb_s (sb_s sb_nil)))))))) ?_
  refine k_loop (S := Int) (st := fun _ => []) (lv := fun s3 => [some (.inr 8), some (.inl s3), none, none, none, none, none, none]) (fun K1 hK2 s3 σ4 h => ?_) 0 _ h
  refine k_iload_n d_Validator_countAttributes_2 rfl ?_
  refine k_aload_n d_Validator_countAttributes_3 rfl ?_
  refine k_getR d_Validator_countAttributes_4 fl_8_9 ob_8 rfl ?_
  refine k_getI (x := (σ4.1 1 14)) d_Validator_countAttributes_7 fl_8_287 ob_1 rfl rfl ?_
  refine k_icge d_Validator_countAttributes_10 rfl (fun c5 => ?_) (fun c5 => ?_)
  · have h := ineg c5 h
    exact k_ret d_Validator_countAttributes_245 h
  · have h := ipos c5 h
    refine k_aload_n d_Validator_countAttributes_13 rfl ?_
    refine k_getR d_Validator_countAttributes_14 fl_8_23 ob_8 rfl ?_
    refine k_getR d_Validator_countAttributes_17 fl_8_228 ob_4 rfl ?_
    refine k_iload_n d_Validator_countAttributes_20 rfl ?_
    obtain ⟨p79, h⟩ := h
    refine k_ild (x := (σ4.2 126 (Int.toNat s3))) d_Validator_countAttributes_21 rI_126 p79 rfl ?_
    refine k_iconst d_Validator_countAttributes_22 cI_1 ?_
    obtain ⟨p78, h⟩ := h
    refine k_isub d_Validator_countAttributes_23 p78 ?_
    refine k_istore_n (lv' := [some (.inr 8), some (.inl s3), some (.inl ((σ4.2 126 (Int.toNat s3)) - 1)), none, none, none, none, none]) d_Validator_countAttributes_24 rfl rfl ?_
    refine k_iconst d_Validator_countAttributes_25 cI_0 ?_
    refine k_istore_n (lv' := [some (.inr 8), some (.inl s3), some (.inl ((σ4.2 126 (Int.toNat s3)) - 1)), some (.inl 0), none, none, none, none]) d_Validator_countAttributes_26 rfl rfl ?_
    refine k_iconst d_Validator_countAttributes_27 cI_0 ?_
    refine k_istore (lv' := [some (.inr 8), some (.inl s3), some (.inl ((σ4.2 126 (Int.toNat s3)) - 1)), some (.inl 0), some (.inl 0), none, none, none]) d_Validator_countAttributes_28 rfl rfl ?_
    refine k_iconst d_Validator_countAttributes_30 cI_0 ?_
    refine k_istore (lv' := [some (.inr 8), some (.inl s3), some (.inl ((σ4.2 126 (Int.toNat s3)) - 1)), some (.inl 0), some (.inl 0), some (.inl 0), none, none]) d_Validator_countAttributes_31 rfl rfl ?_
    refine k_sb (lv' := [some (.inr 8), some (.inl s3), some (.inl ((σ4.2 126 (Int.toNat s3)) - 1)), some (.inl 0), some (.inl 0), some (.inl 0), none, none]) (sb_s (sb_s (sb_s (sb_s (sb_s (sb_s (sb_s (sb_s sb_nil)))))))) ?_
    refine k_loop (S := Int × Int × Int × Int) (st := fun _ => []) (lv := fun s8 => [some (.inr 8), some (.inl s3), some (.inl s8.1), some (.inl s8.2.1), some (.inl s8.2.2.1), some (.inl s8.2.2.2), none, none]) (fun K6 hK7 s8 σ9 h => ?_) (((σ4.2 126 (Int.toNat s3)) - 1), 0, 0, 0) _ h
    refine k_iload d_Validator_countAttributes_33 rfl ?_
    refine k_aload_n d_Validator_countAttributes_35 rfl ?_
    refine k_getR d_Validator_countAttributes_36 fl_8_23 ob_8 rfl ?_
    refine k_getI (x := (σ9.1 4 12)) d_Validator_countAttributes_39 fl_8_231 ob_4 rfl rfl ?_
    have hX73 : (s8.2.2.2 < (σ9.1 4 12) ∧ (¬ s8.1 = (-1))) → OkI BF L (d + 1) 8 b_Validator_countAttributes 8 0 50 [] [some (.inr 8), some (.inl s3), some (.inl s8.1), some (.inl s8.2.1), some (.inl s8.2.2.1), some (.inl s8.2.2.2), none, none] σ9 (qv Q) := fun e75 => by
      have h := ipos e75 h
      refine k_aload_n d_Validator_countAttributes_50 rfl ?_
      refine k_getR d_Validator_countAttributes_51 fl_8_23 ob_8 rfl ?_
      refine k_getR d_Validator_countAttributes_54 fl_8_237 ob_4 rfl ?_
      refine k_iload_n d_Validator_countAttributes_57 rfl ?_
      obtain ⟨p71, h⟩ := h
      refine k_ild (x := (σ9.2 118 (Int.toNat s8.1))) d_Validator_countAttributes_58 rI_118 p71 rfl ?_
      refine k_istore (lv' := [some (.inr 8), some (.inl s3), some (.inl s8.1), some (.inl s8.2.1), some (.inl s8.2.2.1), some (.inl s8.2.2.2), some (.inl (σ9.2 118 (Int.toNat s8.1))), none]) d_Validator_countAttributes_59 rfl rfl ?_
      refine k_aload_n d_Validator_countAttributes_61 rfl ?_
      refine k_getR d_Validator_countAttributes_62 fl_8_23 ob_8 rfl ?_
      refine k_getR d_Validator_countAttributes_65 fl_8_224 ob_4 rfl ?_
      refine k_iload_n d_Validator_countAttributes_68 rfl ?_
      obtain ⟨p70, h⟩ := h
      refine k_ild (x := (σ9.2 119 (Int.toNat s8.1))) d_Validator_countAttributes_69 rI_119 p70 rfl ?_
      refine k_iconst d_Validator_countAttributes_70 cI_2 ?_
      have hV66 : OkI BF L (d + 1) 8 b_Validator_countAttributes 8 0 79 [.inl (if (σ9.2 119 (Int.toNat s8.1)) < 2 then (0 : Int) else (1 : Int))] [some (.inr 8), some (.inl s3), some (.inl s8.1), some (.inl s8.2.1), some (.inl s8.2.2.1), some (.inl s8.2.2.2), some (.inl (σ9.2 118 (Int.toNat s8.1))), none] σ9 (qv Q) := by
        refine k_istore (lv' := [some (.inr 8), some (.inl s3), some (.inl s8.1), some (.inl s8.2.1), some (.inl s8.2.2.1), some (.inl s8.2.2.2), some (.inl (σ9.2 118 (Int.toNat s8.1))), some (.inl (if (σ9.2 119 (Int.toNat s8.1)) < 2 then (0 : Int) else (1 : Int)))]) d_Validator_countAttributes_79 rfl rfl ?_
        refine k_aload_n d_Validator_countAttributes_81 rfl ?_
        refine k_getR d_Validator_countAttributes_82 fl_8_39 ob_8 rfl ?_
        refine k_bipush d_Validator_countAttributes_85 cB_15 ?_
        refine k_dup2 d_Validator_countAttributes_87 ?_
        obtain ⟨p65, h⟩ := h
        refine k_ild (x := (σ9.2 149 (Int.toNat 15))) d_Validator_countAttributes_88 rI_149 p65 rfl ?_
        refine k_iload d_Validator_countAttributes_89 rfl ?_
        refine k_join (S := Int) (pc' := 116) (st' := fun s12 => [.inl s12, .inl (σ9.2 149 (Int.toNat 15)), .inl 15, .inr 149]) (lv' := fun s12 => [some (.inr 8), some (.inl s3), some (.inl s8.1), some (.inl s8.2.1), some (.inl s8.2.2.1), some (.inl s8.2.2.2), some (.inl (σ9.2 118 (Int.toNat s8.1))), some (.inl (if (σ9.2 119 (Int.toNat s8.1)) < 2 then (0 : Int) else (1 : Int)))]) (fun s12 σ13 h => ?_) (fun J10 hJ11 h => ?_) h
        · obtain ⟨p55, h⟩ := h
          refine k_iadd d_Validator_countAttributes_116 p55 ?_
          obtain ⟨p54, h⟩ := h
          refine k_ist d_Validator_countAttributes_117 rI_149 p54 ?_
          refine k_iload d_Validator_countAttributes_118 rfl ?_
          refine k_bipush d_Validator_countAttributes_120 cB_11 ?_
          refine k_join (S := Int) (pc' := 158) (st' := fun s16 => []) (lv' := fun s16 => [some (.inr 8), some (.inl s3), some (.inl s8.1), some (.inl s16), some (.inl s8.2.2.1), some (.inl s8.2.2.2), some (.inl (σ9.2 118 (Int.toNat s8.1))), none]) (fun s16 σ17 h => ?_) (fun J14 hJ15 h => ?_) h
          · refine k_iload d_Validator_countAttributes_158 rfl ?_
            refine k_bipush d_Validator_countAttributes_160 cB_18 ?_
            refine k_join (S := Int) (pc' := 206) (st' := fun s20 => []) (lv' := fun s20 => [some (.inr 8), some (.inl s3), some (.inl s8.1), some (.inl s16), some (.inl s20), some (.inl s8.2.2.2), some (.inl (σ9.2 118 (Int.toNat s8.1))), none]) (fun s20 σ21 h => ?_) (fun J18 hJ19 h => ?_) h
            · refine k_aload_n d_Validator_countAttributes_206 rfl ?_
              refine k_iload_n d_Validator_countAttributes_207 rfl ?_
              refine k_iload d_Validator_countAttributes_208 rfl ?_
              refine k_bipush d_Validator_countAttributes_210 cB_18 ?_
              have hV26 : OkI BF L (d + 1) 8 b_Validator_countAttributes 8 0 220 [.inl (if (σ9.2 118 (Int.toNat s8.1)) = 18 then (1 : Int) else (0 : Int)), .inl s8.1, .inr 8] [some (.inr 8), some (.inl s3), some (.inl s8.1), some (.inl s16), some (.inl s20), some (.inl s8.2.2.2), some (.inl (σ9.2 118 (Int.toNat s8.1))), none] σ21 (qv Q) := by
                refine k_cvv [.inl s8.1, .inl (if (σ9.2 118 (Int.toNat s8.1)) = 18 then (1 : Int) else (0 : Int))] d_Validator_countAttributes_220 ml_8_293 rfl rfl ob_8 rfl (s_Validator_countListed hL (by omega)  h) (fun σ22 h => ?_)
                refine k_aload_n d_Validator_countAttributes_223 rfl ?_
                refine k_getR d_Validator_countAttributes_224 fl_8_23 ob_8 rfl ?_
                refine k_getR d_Validator_countAttributes_227 fl_8_234 ob_4 rfl ?_
                refine k_iload_n d_Validator_countAttributes_230 rfl ?_
                obtain ⟨p25, h⟩ := h
                refine k_ild (x := (σ22.2 123 (Int.toNat s8.1))) d_Validator_countAttributes_231 rI_123 p25 rfl ?_
                refine k_istore_n (lv' := [some (.inr 8), some (.inl s3), some (.inl (σ22.2 123 (Int.toNat s8.1))), some (.inl s16), some (.inl s20), some (.inl s8.2.2.2), some (.inl (σ9.2 118 (Int.toNat s8.1))), none]) d_Validator_countAttributes_232 rfl rfl ?_
                obtain ⟨p24, h⟩ := h
                refine k_iinc (lv' := [some (.inr 8), some (.inl s3), some (.inl (σ22.2 123 (Int.toNat s8.1))), some (.inl s16), some (.inl s20), some (.inl (s8.2.2.2 + 1)), some (.inl (σ9.2 118 (Int.toNat s8.1))), none]) d_Validator_countAttributes_233 cI_1 rfl rfl p24 rfl ?_
                refine k_goto d_Validator_countAttributes_236 rfl ?_
                exact k_sb (sb_s (sb_s (sb_s (sb_s (sb_s (sb_s (sb_n (sb_s sb_nil)))))))) (hK7 ((σ22.2 123 (Int.toNat s8.1)), s16, s20, (s8.2.2.2 + 1)) _ h)
              refine k_icne d_Validator_countAttributes_212 rfl (fun c27 => ?_) (fun c27 => ?_)
              · have hV29 := k_eqI (if_neg c27) hV26
                refine k_iconst d_Validator_countAttributes_219 cI_0 ?_
                exact hV29
              · have hV28 := k_eqI (if_pos c27) hV26
                refine k_iconst d_Validator_countAttributes_215 cI_1 ?_
                refine k_goto d_Validator_countAttributes_216 rfl ?_
                exact hV28
            · refine k_icne d_Validator_countAttributes_162 rfl (fun c30 => ?_) (fun c30 => ?_)
              · have h := ineg c30 h
                exact k_sb (sb_s (sb_s (sb_s (sb_s (sb_s (sb_s (sb_s (sb_s sb_nil)))))))) (hJ19 s8.2.2.1 _ h)
              · have h := ipos c30 h
                refine k_aload_n d_Validator_countAttributes_165 rfl ?_
                refine k_getR d_Validator_countAttributes_166 fl_8_39 ob_8 rfl ?_
                refine k_bipush d_Validator_countAttributes_169 cB_17 ?_
                refine k_dup2 d_Validator_countAttributes_171 ?_
                obtain ⟨p42, h⟩ := h
                refine k_ild (x := (σ17.2 149 (Int.toNat 17))) d_Validator_countAttributes_172 rI_149 p42 rfl ?_
                refine k_iload d_Validator_countAttributes_173 rfl ?_
                obtain ⟨p41, h⟩ := h
                refine k_iadd d_Validator_countAttributes_175 p41 ?_
                obtain ⟨p40, h⟩ := h
                refine k_ist d_Validator_countAttributes_176 rI_149 p40 ?_
                refine k_aload_n d_Validator_countAttributes_177 rfl ?_
                refine k_getR d_Validator_countAttributes_178 fl_8_39 ob_8 rfl ?_
                refine k_bipush d_Validator_countAttributes_181 cB_18 ?_
                refine k_dup2 d_Validator_countAttributes_183 ?_
                obtain ⟨p39, h⟩ := h
                refine k_ild (x := ((pr σ17 149 (Int.toNat 17) ((σ17.2 149 (Int.toNat 17)) + s8.2.2.1)).2 149 (Int.toNat 18))) d_Validator_countAttributes_184 rI_149 p39 rfl ?_
                refine k_aload_n d_Validator_countAttributes_185 rfl ?_
                refine k_getR d_Validator_countAttributes_186 fl_8_23 ob_8 rfl ?_
                refine k_iload_n d_Validator_countAttributes_189 rfl ?_
                refine k_cvi [.inl s3] d_Validator_countAttributes_190 ml_8_290 rfl rfl ob_4 rfl (s_Declared_isEmpty hL (by omega)  h) (fun v32 σ31 h => ?_)
                have hV35 : OkI BF L (d + 1) 8 b_Validator_countAttributes 8 0 201 [.inl (if v32 = 0 then (0 : Int) else (1 : Int)), .inl ((pr σ17 149 (Int.toNat 17) ((σ17.2 149 (Int.toNat 17)) + s8.2.2.1)).2 149 (Int.toNat 18)), .inl 18, .inr 149] [some (.inr 8), some (.inl s3), some (.inl s8.1), some (.inl s16), some (.inl s8.2.2.1), some (.inl s8.2.2.2), some (.inl (σ9.2 118 (Int.toNat s8.1))), none] σ31 (qv Q) := by
                  obtain ⟨p34, h⟩ := h
                  refine k_iadd d_Validator_countAttributes_201 p34 ?_
                  obtain ⟨p33, h⟩ := h
                  refine k_ist d_Validator_countAttributes_202 rI_149 p33 ?_
                  refine k_iconst d_Validator_countAttributes_203 cI_1 ?_
                  refine k_istore (lv' := [some (.inr 8), some (.inl s3), some (.inl s8.1), some (.inl s16), some (.inl 1), some (.inl s8.2.2.2), some (.inl (σ9.2 118 (Int.toNat s8.1))), none]) d_Validator_countAttributes_204 rfl rfl ?_
                  exact k_sb (sb_s (sb_s (sb_s (sb_s (sb_s (sb_s (sb_s (sb_s sb_nil)))))))) (hJ19 1 _ h)
                refine k_ifeq d_Validator_countAttributes_193 rfl (fun c36 => ?_) (fun c36 => ?_)
                · have hV37 := k_eqI (if_pos c36) hV35
                  refine k_iconst d_Validator_countAttributes_200 cI_0 ?_
                  exact hV37
                · have hV38 := k_eqI (if_neg c36) hV35
                  refine k_iconst d_Validator_countAttributes_196 cI_1 ?_
                  refine k_goto d_Validator_countAttributes_197 rfl ?_
                  exact hV38
          · refine k_icne d_Validator_countAttributes_122 rfl (fun c43 => ?_) (fun c43 => ?_)
            · have h := ineg c43 h
              exact k_sb (sb_s (sb_s (sb_s (sb_s (sb_s (sb_s (sb_s (sb_n sb_nil)))))))) (hJ15 s8.2.1 _ h)
            · have h := ipos c43 h
              refine k_aload_n d_Validator_countAttributes_125 rfl ?_
              refine k_getR d_Validator_countAttributes_126 fl_8_39 ob_8 rfl ?_
              refine k_bipush d_Validator_countAttributes_129 cB_13 ?_
              refine k_dup2 d_Validator_countAttributes_131 ?_
              obtain ⟨p53, h⟩ := h
              refine k_ild (x := ((pr σ13 149 (Int.toNat 15) ((σ9.2 149 (Int.toNat 15)) + s12)).2 149 (Int.toNat 13))) d_Validator_countAttributes_132 rI_149 p53 rfl ?_
              refine k_iload_n d_Validator_countAttributes_133 rfl ?_
              obtain ⟨p52, h⟩ := h
              refine k_iadd d_Validator_countAttributes_134 p52 ?_
              obtain ⟨p51, h⟩ := h
              refine k_ist d_Validator_countAttributes_135 rI_149 p51 ?_
              refine k_aload_n d_Validator_countAttributes_136 rfl ?_
              refine k_getR d_Validator_countAttributes_137 fl_8_39 ob_8 rfl ?_
              refine k_bipush d_Validator_countAttributes_140 cB_14 ?_
              refine k_dup2 d_Validator_countAttributes_142 ?_
              obtain ⟨p50, h⟩ := h
              refine k_ild (x := ((pr (pr σ13 149 (Int.toNat 15) ((σ9.2 149 (Int.toNat 15)) + s12)) 149 (Int.toNat 13) (((pr σ13 149 (Int.toNat 15) ((σ9.2 149 (Int.toNat 15)) + s12)).2 149 (Int.toNat 13)) + s8.2.1)).2 149 (Int.toNat 14))) d_Validator_countAttributes_143 rI_149 p50 rfl ?_
              refine k_iload d_Validator_countAttributes_144 rfl ?_
              have hV46 : OkI BF L (d + 1) 8 b_Validator_countAttributes 8 0 154 [.inl (if (if (σ9.2 119 (Int.toNat s8.1)) < 2 then (0 : Int) else (1 : Int)) = 0 then (0 : Int) else (1 : Int)), .inl ((pr (pr σ13 149 (Int.toNat 15) ((σ9.2 149 (Int.toNat 15)) + s12)) 149 (Int.toNat 13) (((pr σ13 149 (Int.toNat 15) ((σ9.2 149 (Int.toNat 15)) + s12)).2 149 (Int.toNat 13)) + s8.2.1)).2 149 (Int.toNat 14)), .inl 14, .inr 149] [some (.inr 8), some (.inl s3), some (.inl s8.1), some (.inl s8.2.1), some (.inl s8.2.2.1), some (.inl s8.2.2.2), some (.inl (σ9.2 118 (Int.toNat s8.1))), some (.inl (if (σ9.2 119 (Int.toNat s8.1)) < 2 then (0 : Int) else (1 : Int)))] (pr (pr σ13 149 (Int.toNat 15) ((σ9.2 149 (Int.toNat 15)) + s12)) 149 (Int.toNat 13) (((pr σ13 149 (Int.toNat 15) ((σ9.2 149 (Int.toNat 15)) + s12)).2 149 (Int.toNat 13)) + s8.2.1)) (qv Q) := by
                obtain ⟨p45, h⟩ := h
                refine k_iadd d_Validator_countAttributes_154 p45 ?_
                obtain ⟨p44, h⟩ := h
                refine k_ist d_Validator_countAttributes_155 rI_149 p44 ?_
                refine k_iconst d_Validator_countAttributes_156 cI_1 ?_
                refine k_istore_n (lv' := [some (.inr 8), some (.inl s3), some (.inl s8.1), some (.inl 1), some (.inl s8.2.2.1), some (.inl s8.2.2.2), some (.inl (σ9.2 118 (Int.toNat s8.1))), some (.inl (if (σ9.2 119 (Int.toNat s8.1)) < 2 then (0 : Int) else (1 : Int)))]) d_Validator_countAttributes_157 rfl rfl ?_
                exact k_sb (sb_s (sb_s (sb_s (sb_s (sb_s (sb_s (sb_s (sb_n sb_nil)))))))) (hJ15 1 _ h)
              refine k_ifeq d_Validator_countAttributes_146 rfl (fun c47 => ?_) (fun c47 => ?_)
              · have hV48 := k_eqI (if_pos c47) hV46
                refine k_iconst d_Validator_countAttributes_153 cI_0 ?_
                exact hV48
              · have hV49 := k_eqI (if_neg c47) hV46
                refine k_iconst d_Validator_countAttributes_149 cI_1 ?_
                refine k_goto d_Validator_countAttributes_150 rfl ?_
                exact hV49
        · refine k_join (S := Unit) (pc' := 115) (st' := fun s58 => [.inl (σ9.2 149 (Int.toNat 15)), .inl 15, .inr 149]) (lv' := fun s58 => [some (.inr 8), some (.inl s3), some (.inl s8.1), some (.inl s8.2.1), some (.inl s8.2.2.1), some (.inl s8.2.2.2), some (.inl (σ9.2 118 (Int.toNat s8.1))), some (.inl (if (σ9.2 119 (Int.toNat s8.1)) < 2 then (0 : Int) else (1 : Int)))]) (fun s58 σ59 h => ?_) (fun J56 hJ57 h => ?_) h
          · refine k_iconst d_Validator_countAttributes_115 cI_0 ?_
            exact k_sb (sb_s (sb_s (sb_s (sb_s (sb_s (sb_s (sb_s (sb_s sb_nil)))))))) (hJ11 0 _ h)
          · refine k_ifeq d_Validator_countAttributes_91 rfl (fun c60 => ?_) (fun c60 => ?_)
            · have h := ipos c60 h
              exact k_sb (sb_s (sb_s (sb_s (sb_s (sb_s (sb_s (sb_s (sb_s sb_nil)))))))) (hJ57 () _ h)
            · have h := ineg c60 h
              refine k_aload_n d_Validator_countAttributes_94 rfl ?_
              refine k_aload_n d_Validator_countAttributes_95 rfl ?_
              refine k_getR d_Validator_countAttributes_96 fl_8_23 ob_8 rfl ?_
              refine k_getR d_Validator_countAttributes_99 fl_8_227 ob_4 rfl ?_
              refine k_iload_n d_Validator_countAttributes_102 rfl ?_
              obtain ⟨p64, h⟩ := h
              refine k_ild (x := (σ9.2 120 (Int.toNat s8.1))) d_Validator_countAttributes_103 rI_120 p64 rfl ?_
              refine k_iload_n d_Validator_countAttributes_104 rfl ?_
              refine k_cvi [.inl (σ9.2 120 (Int.toNat s8.1)), .inl s8.1] d_Validator_countAttributes_105 ml_8_220 rfl rfl ob_8 rfl (s_Validator_isAsWanted hL (by omega)  h) (fun v62 σ61 h => ?_)
              refine k_ifne d_Validator_countAttributes_108 rfl (fun c63 => ?_) (fun c63 => ?_)
              · have h := ineg c63 h
                exact k_sb (sb_s (sb_s (sb_s (sb_s (sb_s (sb_s (sb_s (sb_s sb_nil)))))))) (hJ57 () _ h)
              · have h := ipos c63 h
                refine k_iconst d_Validator_countAttributes_111 cI_1 ?_
                refine k_goto d_Validator_countAttributes_112 rfl ?_
                exact k_sb (sb_s (sb_s (sb_s (sb_s (sb_s (sb_s (sb_s (sb_s sb_nil)))))))) (hJ11 1 _ h)
      refine k_iclt d_Validator_countAttributes_71 rfl (fun c67 => ?_) (fun c67 => ?_)
      · have hV68 := k_eqI (if_pos c67) hV66
        refine k_iconst d_Validator_countAttributes_78 cI_0 ?_
        exact hV68
      · have hV69 := k_eqI (if_neg c67) hV66
        refine k_iconst d_Validator_countAttributes_74 cI_1 ?_
        refine k_goto d_Validator_countAttributes_75 rfl ?_
        exact hV69
    have hY74 : ¬ (s8.2.2.2 < (σ9.1 4 12) ∧ (¬ s8.1 = (-1))) → OkI BF L (d + 1) 8 b_Validator_countAttributes 8 0 239 [] [some (.inr 8), some (.inl s3), some (.inl s8.1), some (.inl s8.2.1), some (.inl s8.2.2.1), some (.inl s8.2.2.2), none, none] σ9 (qv Q) := fun e75 => by
      have h := ineg e75 h
      obtain ⟨p72, h⟩ := h
      refine k_iinc (lv' := [some (.inr 8), some (.inl (s3 + 1)), some (.inl s8.1), some (.inl s8.2.1), some (.inl s8.2.2.1), some (.inl s8.2.2.2), none, none]) d_Validator_countAttributes_239 cI_1 rfl rfl p72 rfl ?_
      refine k_goto d_Validator_countAttributes_242 rfl ?_
      exact k_sb (sb_s (sb_s (sb_n (sb_n (sb_n (sb_n (sb_s (sb_s sb_nil)))))))) (hK2 (s3 + 1) _ h)
    refine k_icge d_Validator_countAttributes_42 rfl (fun c76 => ?_) (fun c76 => ?_)
    · exact hY74 (fun z => c76 z.1)
    · refine k_iload_n d_Validator_countAttributes_45 rfl ?_
      refine k_iconst d_Validator_countAttributes_46 cI_m1 ?_
      refine k_iceq d_Validator_countAttributes_47 rfl (fun c77 => ?_) (fun c77 => ?_)
      · exact hY74 (fun z => (fun z => z c77) z.2)
      · exact hX73 (⟨c76, c77⟩)
theorem d_Validator_countAll_0 : decode b_Validator_countAll 0 = .ok (.aload_n 0, 1) := by decide +kernel
theorem d_Validator_countAll_1 : decode b_Validator_countAll 1 = .ok (.getfield 39, 3) := by decide +kernel
theorem d_Validator_countAll_4 : decode b_Validator_countAll 4 = .ok (.iconst 0, 1) := by decide +kernel
theorem d_Validator_countAll_5 : decode b_Validator_countAll 5 = .ok (.invokestatic 71, 3) := by decide +kernel
theorem d_Validator_countAll_8 : decode b_Validator_countAll 8 = .ok (.aload_n 0, 1) := by decide +kernel
theorem d_Validator_countAll_9 : decode b_Validator_countAll 9 = .ok (.getfield 27, 3) := by decide +kernel
theorem d_Validator_countAll_12 : decode b_Validator_countAll 12 = .ok (.getfield 77, 3) := by decide +kernel
theorem d_Validator_countAll_15 : decode b_Validator_countAll 15 = .ok (.ifCond .ne 11, 3) := by decide +kernel
theorem d_Validator_countAll_18 : decode b_Validator_countAll 18 = .ok (.aload_n 0, 1) := by decide +kernel
theorem d_Validator_countAll_19 : decode b_Validator_countAll 19 = .ok (.getfield 39, 3) := by decide +kernel
theorem d_Validator_countAll_22 : decode b_Validator_countAll 22 = .ok (.iconst 0, 1) := by decide +kernel
theorem d_Validator_countAll_23 : decode b_Validator_countAll 23 = .ok (.iconst 1, 1) := by decide +kernel
theorem d_Validator_countAll_24 : decode b_Validator_countAll 24 = .ok (.iastore, 1) := by decide +kernel
theorem d_Validator_countAll_25 : decode b_Validator_countAll 25 = .ok (.return_, 1) := by decide +kernel
theorem d_Validator_countAll_26 : decode b_Validator_countAll 26 = .ok (.aload_n 0, 1) := by decide +kernel
theorem d_Validator_countAll_27 : decode b_Validator_countAll 27 = .ok (.getfield 39, 3) := by decide +kernel
theorem d_Validator_countAll_30 : decode b_Validator_countAll 30 = .ok (.iconst 1, 1) := by decide +kernel
theorem d_Validator_countAll_31 : decode b_Validator_countAll 31 = .ok (.aload_n 0, 1) := by decide +kernel
theorem d_Validator_countAll_32 : decode b_Validator_countAll 32 = .ok (.getfield 31, 3) := by decide +kernel
theorem d_Validator_countAll_35 : decode b_Validator_countAll 35 = .ok (.getfield 43, 3) := by decide +kernel
theorem d_Validator_countAll_38 : decode b_Validator_countAll 38 = .ok (.iconst 0, 1) := by decide +kernel
theorem d_Validator_countAll_39 : decode b_Validator_countAll 39 = .ok (.iaload, 1) := by decide +kernel
theorem d_Validator_countAll_40 : decode b_Validator_countAll 40 = .ok (.aload_n 0, 1) := by decide +kernel
theorem d_Validator_countAll_41 : decode b_Validator_countAll 41 = .ok (.getfield 27, 3) := by decide +kernel
theorem d_Validator_countAll_44 : decode b_Validator_countAll 44 = .ok (.getfield 83, 3) := by decide +kernel
theorem d_Validator_countAll_47 : decode b_Validator_countAll 47 = .ok (.if_icmp .ne 7, 3) := by decide +kernel
theorem d_Validator_countAll_50 : decode b_Validator_countAll 50 = .ok (.iconst 0, 1) := by decide +kernel
theorem d_Validator_countAll_51 : decode b_Validator_countAll 51 = .ok (.goto 4, 3) := by decide +kernel
theorem d_Validator_countAll_54 : decode b_Validator_countAll 54 = .ok (.iconst 1, 1) := by decide +kernel
theorem d_Validator_countAll_55 : decode b_Validator_countAll 55 = .ok (.iastore, 1) := by decide +kernel
theorem d_Validator_countAll_56 : decode b_Validator_countAll 56 = .ok (.aload_n 0, 1) := by decide +kernel
theorem d_Validator_countAll_57 : decode b_Validator_countAll 57 = .ok (.getfield 39, 3) := by decide +kernel
theorem d_Validator_countAll_60 : decode b_Validator_countAll 60 = .ok (.bipush 20, 2) := by decide +kernel
theorem d_Validator_countAll_62 : decode b_Validator_countAll 62 = .ok (.aload_n 0, 1) := by decide +kernel
theorem d_Validator_countAll_63 : decode b_Validator_countAll 63 = .ok (.getfield 23, 3) := by decide +kernel
theorem d_Validator_countAll_66 : decode b_Validator_countAll 66 = .ok (.getfield 87, 3) := by decide +kernel
theorem d_Validator_countAll_69 : decode b_Validator_countAll 69 = .ok (.iastore, 1) := by decide +kernel
theorem d_Validator_countAll_70 : decode b_Validator_countAll 70 = .ok (.aload_n 0, 1) := by decide +kernel
theorem d_Validator_countAll_71 : decode b_Validator_countAll 71 = .ok (.getfield 39, 3) := by decide +kernel
theorem d_Validator_countAll_74 : decode b_Validator_countAll 74 = .ok (.bipush 22, 2) := by decide +kernel
theorem d_Validator_countAll_76 : decode b_Validator_countAll 76 = .ok (.aload_n 0, 1) := by decide +kernel
theorem d_Validator_countAll_77 : decode b_Validator_countAll 77 = .ok (.getfield 19, 3) := by decide +kernel
theorem d_Validator_countAll_80 : decode b_Validator_countAll 80 = .ok (.getfield 90, 3) := by decide +kernel
theorem d_Validator_countAll_83 : decode b_Validator_countAll 83 = .ok (.iastore, 1) := by decide +kernel
theorem d_Validator_countAll_84 : decode b_Validator_countAll 84 = .ok (.aload_n 0, 1) := by decide +kernel
theorem d_Validator_countAll_85 : decode b_Validator_countAll 85 = .ok (.invokevirtual 95, 3) := by decide +kernel
theorem d_Validator_countAll_88 : decode b_Validator_countAll 88 = .ok (.aload_n 0, 1) := by decide +kernel
theorem d_Validator_countAll_89 : decode b_Validator_countAll 89 = .ok (.invokevirtual 98, 3) := by decide +kernel
theorem d_Validator_countAll_92 : decode b_Validator_countAll 92 = .ok (.aload_n 0, 1) := by decide +kernel
theorem d_Validator_countAll_93 : decode b_Validator_countAll 93 = .ok (.invokevirtual 101, 3) := by decide +kernel
theorem d_Validator_countAll_96 : decode b_Validator_countAll 96 = .ok (.aload_n 0, 1) := by decide +kernel
theorem d_Validator_countAll_97 : decode b_Validator_countAll 97 = .ok (.invokevirtual 104, 3) := by decide +kernel
theorem d_Validator_countAll_100 : decode b_Validator_countAll 100 = .ok (.aload_n 0, 1) := by decide +kernel
theorem d_Validator_countAll_101 : decode b_Validator_countAll 101 = .ok (.invokevirtual 107, 3) := by decide +kernel
theorem d_Validator_countAll_104 : decode b_Validator_countAll 104 = .ok (.aload_n 0, 1) := by decide +kernel
theorem d_Validator_countAll_105 : decode b_Validator_countAll 105 = .ok (.invokevirtual 110, 3) := by decide +kernel
theorem d_Validator_countAll_108 : decode b_Validator_countAll 108 = .ok (.return_, 1) := by decide +kernel
/-- Validator_countAll -/
def w_Validator_countAll (L : Nat → Nat)  (Q : IS → Prop) (σ : IS) : Prop := if (σ.1 5 5) = 0 then inL L 149 0 ∧ Q (pr (fa σ 149 0) 149 (Int.toNat 0) 1) else inL L 146 0 ∧ inL L 149 1 ∧ inL L 149 20 ∧ inL L 149 22 ∧ w_Validator_link L  (fun σ2 => w_Validator_countElements L  (fun σ4 => w_Validator_countTags L  (fun σ6 => w_Validator_countIdentities L  (fun σ8 => w_Validator_countReferences L  (fun σ10 => w_Validator_countAttributes L  (fun σ12 => Q σ12) σ10) σ8) σ6) σ4) σ2) (pr (pr (pr (fa σ 149 0) 149 (Int.toNat 1) (if ((fa σ 149 0).2 146 (Int.toNat 0)) = (σ.1 5 7) then (0 : Int) else (1 : Int))) 149 (Int.toNat 20) (σ.1 4 18)) 149 (Int.toNat 22) (σ.1 3 14))
set_option maxHeartbeats 4000000 in
set_option maxRecDepth 20000 in
theorem s_Validator_countAll {L : Nat → Nat} (hL : ∀ r, L r < 2147483648) {d : Nat} (hd : 6 ≤ d)  {Q : IS → Prop} {σ : IS}  (h : w_Validator_countAll L  Q σ) : OkI BF L d 8 b_Validator_countAll 1 0 0 [] [some (.inr 8)] σ (qv Q) := by
  unfold w_Validator_countAll at h
  obtain ⟨d, rfl⟩ : ∃ e, d = e + 1 := ⟨d - 1, by omega⟩
  refine k_sb (lv' := [some (.inr 8)]) (sb_s sb_nil) ?_
  refine k_aload_n d_Validator_countAll_0 rfl ?_
  refine k_getR d_Validator_countAll_1 fl_8_39 ob_8 rfl ?_
  refine k_iconst d_Validator_countAll_4 cI_0 ?_
  refine k_fill d_Validator_countAll_5 ml_8_71 rI_149 rfl ?_
  refine k_aload_n d_Validator_countAll_8 rfl ?_
  refine k_getR d_Validator_countAll_9 fl_8_27 ob_8 rfl ?_
  refine k_getI (x := (σ.1 5 5)) d_Validator_countAll_12 fl_8_77 ob_5 rfl rfl ?_
  refine k_ifne d_Validator_countAll_15 rfl (fun c1 => ?_) (fun c1 => ?_)
  · have h := ineg c1 h
    refine k_aload_n d_Validator_countAll_26 rfl ?_
    refine k_getR d_Validator_countAll_27 fl_8_39 ob_8 rfl ?_
    refine k_iconst d_Validator_countAll_30 cI_1 ?_
    refine k_aload_n d_Validator_countAll_31 rfl ?_
    refine k_getR d_Validator_countAll_32 fl_8_31 ob_8 rfl ?_
    refine k_getR d_Validator_countAll_35 fl_8_43 ob_6 rfl ?_
    refine k_iconst d_Validator_countAll_38 cI_0 ?_
    obtain ⟨p21, h⟩ := h
    refine k_ild (x := ((fa σ 149 0).2 146 (Int.toNat 0))) d_Validator_countAll_39 rI_146 p21 rfl ?_
    refine k_aload_n d_Validator_countAll_40 rfl ?_
    refine k_getR d_Validator_countAll_41 fl_8_27 ob_8 rfl ?_
    refine k_getI (x := (σ.1 5 7)) d_Validator_countAll_44 fl_8_83 ob_5 rfl rfl ?_
    have hV17 : OkI BF L (d + 1) 8 b_Validator_countAll 1 0 55 [.inl (if ((fa σ 149 0).2 146 (Int.toNat 0)) = (σ.1 5 7) then (0 : Int) else (1 : Int)), .inl 1, .inr 149] [some (.inr 8)] (fa σ 149 0) (qv Q) := by
      obtain ⟨p16, h⟩ := h
      refine k_ist d_Validator_countAll_55 rI_149 p16 ?_
      refine k_aload_n d_Validator_countAll_56 rfl ?_
      refine k_getR d_Validator_countAll_57 fl_8_39 ob_8 rfl ?_
      refine k_bipush d_Validator_countAll_60 cB_20 ?_
      refine k_aload_n d_Validator_countAll_62 rfl ?_
      refine k_getR d_Validator_countAll_63 fl_8_23 ob_8 rfl ?_
      refine k_getI (x := (σ.1 4 18)) d_Validator_countAll_66 fl_8_87 ob_4 rfl rfl ?_
      obtain ⟨p15, h⟩ := h
      refine k_ist d_Validator_countAll_69 rI_149 p15 ?_
      refine k_aload_n d_Validator_countAll_70 rfl ?_
      refine k_getR d_Validator_countAll_71 fl_8_39 ob_8 rfl ?_
      refine k_bipush d_Validator_countAll_74 cB_22 ?_
      refine k_aload_n d_Validator_countAll_76 rfl ?_
      refine k_getR d_Validator_countAll_77 fl_8_19 ob_8 rfl ?_
      refine k_getI (x := (σ.1 3 14)) d_Validator_countAll_80 fl_8_90 ob_3 rfl rfl ?_
      obtain ⟨p14, h⟩ := h
      refine k_ist d_Validator_countAll_83 rI_149 p14 ?_
      refine k_aload_n d_Validator_countAll_84 rfl ?_
      refine k_cvv [] d_Validator_countAll_85 ml_8_95 rfl rfl ob_8 rfl (s_Validator_link hL (by omega)  h) (fun σ2 h => ?_)
      refine k_aload_n d_Validator_countAll_88 rfl ?_
      refine k_cvv [] d_Validator_countAll_89 ml_8_98 rfl rfl ob_8 rfl (s_Validator_countElements hL (by omega)  h) (fun σ4 h => ?_)
      refine k_aload_n d_Validator_countAll_92 rfl ?_
      refine k_cvv [] d_Validator_countAll_93 ml_8_101 rfl rfl ob_8 rfl (s_Validator_countTags hL (by omega)  h) (fun σ6 h => ?_)
      refine k_aload_n d_Validator_countAll_96 rfl ?_
      refine k_cvv [] d_Validator_countAll_97 ml_8_104 rfl rfl ob_8 rfl (s_Validator_countIdentities hL (by omega)  h) (fun σ8 h => ?_)
      refine k_aload_n d_Validator_countAll_100 rfl ?_
      refine k_cvv [] d_Validator_countAll_101 ml_8_107 rfl rfl ob_8 rfl (s_Validator_countReferences hL (by omega)  h) (fun σ10 h => ?_)
      refine k_aload_n d_Validator_countAll_104 rfl ?_
      refine k_cvv [] d_Validator_countAll_105 ml_8_110 rfl rfl ob_8 rfl (s_Validator_countAttributes hL (by omega)  h) (fun σ12 h => ?_)
      exact k_ret d_Validator_countAll_108 h
    refine k_icne d_Validator_countAll_47 rfl (fun c18 => ?_) (fun c18 => ?_)
    · have hV20 := k_eqI (if_neg c18) hV17
      refine k_iconst d_Validator_countAll_54 cI_1 ?_
      exact hV20
    · have hV19 := k_eqI (if_pos c18) hV17
      refine k_iconst d_Validator_countAll_50 cI_0 ?_
      refine k_goto d_Validator_countAll_51 rfl ?_
      exact hV19
  · have h := ipos c1 h
    refine k_aload_n d_Validator_countAll_18 rfl ?_
    refine k_getR d_Validator_countAll_19 fl_8_39 ob_8 rfl ?_
    refine k_iconst d_Validator_countAll_22 cI_0 ?_
    refine k_iconst d_Validator_countAll_23 cI_1 ?_
    obtain ⟨p22, h⟩ := h
    refine k_ist d_Validator_countAll_24 rI_149 p22 ?_
    exact k_ret d_Validator_countAll_25 h
theorem d_Meanings_split_0 : decode b_Meanings_split 0 = .ok (.aload_n 0, 1) := by decide +kernel
theorem d_Meanings_split_1 : decode b_Meanings_split 1 = .ok (.getfield 25, 3) := by decide +kernel
theorem d_Meanings_split_4 : decode b_Meanings_split 4 = .ok (.iload_n 1, 1) := by decide +kernel
theorem d_Meanings_split_5 : decode b_Meanings_split 5 = .ok (.iaload, 1) := by decide +kernel
theorem d_Meanings_split_6 : decode b_Meanings_split 6 = .ok (.ifCond .eq 4, 3) := by decide +kernel
theorem d_Meanings_split_9 : decode b_Meanings_split 9 = .ok (.return_, 1) := by decide +kernel
theorem d_Meanings_split_10 : decode b_Meanings_split 10 = .ok (.aload_n 0, 1) := by decide +kernel
theorem d_Meanings_split_11 : decode b_Meanings_split 11 = .ok (.getfield 9, 3) := by decide +kernel
theorem d_Meanings_split_14 : decode b_Meanings_split 14 = .ok (.getfield 101, 3) := by decide +kernel
theorem d_Meanings_split_17 : decode b_Meanings_split 17 = .ok (.iload_n 1, 1) := by decide +kernel
theorem d_Meanings_split_18 : decode b_Meanings_split 18 = .ok (.iaload, 1) := by decide +kernel
theorem d_Meanings_split_19 : decode b_Meanings_split 19 = .ok (.istore_n 2, 1) := by decide +kernel
theorem d_Meanings_split_20 : decode b_Meanings_split 20 = .ok (.iconst (-1), 1) := by decide +kernel
theorem d_Meanings_split_21 : decode b_Meanings_split 21 = .ok (.istore_n 3, 1) := by decide +kernel
theorem d_Meanings_split_22 : decode b_Meanings_split 22 = .ok (.iconst 0, 1) := by decide +kernel
theorem d_Meanings_split_23 : decode b_Meanings_split 23 = .ok (.istore 4, 2) := by decide +kernel
theorem d_Meanings_split_25 : decode b_Meanings_split 25 = .ok (.iconst 0, 1) := by decide +kernel
theorem d_Meanings_split_26 : decode b_Meanings_split 26 = .ok (.istore 5, 2) := by decide +kernel
theorem d_Meanings_split_28 : decode b_Meanings_split 28 = .ok (.iload 5, 2) := by decide +kernel
theorem d_Meanings_split_30 : decode b_Meanings_split 30 = .ok (.iload_n 2, 1) := by decide +kernel
theorem d_Meanings_split_31 : decode b_Meanings_split 31 = .ok (.if_icmp .ge 30, 3) := by decide +kernel
theorem d_Meanings_split_34 : decode b_Meanings_split 34 = .ok (.aload_n 0, 1) := by decide +kernel
theorem d_Meanings_split_35 : decode b_Meanings_split 35 = .ok (.getfield 9, 3) := by decide +kernel
theorem d_Meanings_split_38 : decode b_Meanings_split 38 = .ok (.iload_n 1, 1) := by decide +kernel
theorem d_Meanings_split_39 : decode b_Meanings_split 39 = .ok (.iload 5, 2) := by decide +kernel
theorem d_Meanings_split_41 : decode b_Meanings_split 41 = .ok (.invokevirtual 104, 3) := by decide +kernel
theorem d_Meanings_split_44 : decode b_Meanings_split 44 = .ok (.bipush 58, 2) := by decide +kernel
theorem d_Meanings_split_46 : decode b_Meanings_split 46 = .ok (.if_icmp .ne 9, 3) := by decide +kernel
theorem d_Meanings_split_49 : decode b_Meanings_split 49 = .ok (.iload 5, 2) := by decide +kernel
theorem d_Meanings_split_51 : decode b_Meanings_split 51 = .ok (.istore_n 3, 1) := by decide +kernel
theorem d_Meanings_split_52 : decode b_Meanings_split 52 = .ok (.iinc 4 1, 3) := by decide +kernel
theorem d_Meanings_split_55 : decode b_Meanings_split 55 = .ok (.iinc 5 1, 3) := by decide +kernel
theorem d_Meanings_split_58 : decode b_Meanings_split 58 = .ok (.goto (-30), 3) := by decide +kernel
theorem d_Meanings_split_61 : decode b_Meanings_split 61 = .ok (.aload_n 0, 1) := by decide +kernel
theorem d_Meanings_split_62 : decode b_Meanings_split 62 = .ok (.getfield 25, 3) := by decide +kernel
theorem d_Meanings_split_65 : decode b_Meanings_split 65 = .ok (.iload_n 1, 1) := by decide +kernel
theorem d_Meanings_split_66 : decode b_Meanings_split 66 = .ok (.iconst (-1), 1) := by decide +kernel
theorem d_Meanings_split_67 : decode b_Meanings_split 67 = .ok (.iastore, 1) := by decide +kernel
theorem d_Meanings_split_68 : decode b_Meanings_split 68 = .ok (.aload_n 0, 1) := by decide +kernel
theorem d_Meanings_split_69 : decode b_Meanings_split 69 = .ok (.getfield 28, 3) := by decide +kernel
theorem d_Meanings_split_72 : decode b_Meanings_split 72 = .ok (.iload_n 1, 1) := by decide +kernel
theorem d_Meanings_split_73 : decode b_Meanings_split 73 = .ok (.iload_n 1, 1) := by decide +kernel
theorem d_Meanings_split_74 : decode b_Meanings_split 74 = .ok (.iastore, 1) := by decide +kernel
theorem d_Meanings_split_75 : decode b_Meanings_split 75 = .ok (.iload 4, 2) := by decide +kernel
theorem d_Meanings_split_77 : decode b_Meanings_split 77 = .ok (.ifCond .ne 13, 3) := by decide +kernel
theorem d_Meanings_split_80 : decode b_Meanings_split 80 = .ok (.aload_n 0, 1) := by decide +kernel
theorem d_Meanings_split_81 : decode b_Meanings_split 81 = .ok (.getfield 25, 3) := by decide +kernel
theorem d_Meanings_split_84 : decode b_Meanings_split 84 = .ok (.iload_n 1, 1) := by decide +kernel
theorem d_Meanings_split_85 : decode b_Meanings_split 85 = .ok (.iconst 1, 1) := by decide +kernel
theorem d_Meanings_split_86 : decode b_Meanings_split 86 = .ok (.iastore, 1) := by decide +kernel
theorem d_Meanings_split_87 : decode b_Meanings_split 87 = .ok (.goto 93, 3) := by decide +kernel
theorem d_Meanings_split_90 : decode b_Meanings_split 90 = .ok (.iload 4, 2) := by decide +kernel
theorem d_Meanings_split_92 : decode b_Meanings_split 92 = .ok (.iconst 1, 1) := by decide +kernel
theorem d_Meanings_split_93 : decode b_Meanings_split 93 = .ok (.if_icmp .ne 87, 3) := by decide +kernel
theorem d_Meanings_split_96 : decode b_Meanings_split 96 = .ok (.iload_n 3, 1) := by decide +kernel
theorem d_Meanings_split_97 : decode b_Meanings_split 97 = .ok (.ifCond .le 83, 3) := by decide +kernel
theorem d_Meanings_split_100 : decode b_Meanings_split 100 = .ok (.iload_n 3, 1) := by decide +kernel
theorem d_Meanings_split_101 : decode b_Meanings_split 101 = .ok (.iload_n 2, 1) := by decide +kernel
theorem d_Meanings_split_102 : decode b_Meanings_split 102 = .ok (.iconst 1, 1) := by decide +kernel
theorem d_Meanings_split_103 : decode b_Meanings_split 103 = .ok (.isub, 1) := by decide +kernel
theorem d_Meanings_split_104 : decode b_Meanings_split 104 = .ok (.if_icmp .ge 76, 3) := by decide +kernel
theorem d_Meanings_split_107 : decode b_Meanings_split 107 = .ok (.aload_n 0, 1) := by decide +kernel
theorem d_Meanings_split_108 : decode b_Meanings_split 108 = .ok (.getfield 9, 3) := by decide +kernel
theorem d_Meanings_split_111 : decode b_Meanings_split 111 = .ok (.iload_n 1, 1) := by decide +kernel
theorem d_Meanings_split_112 : decode b_Meanings_split 112 = .ok (.iload_n 3, 1) := by decide +kernel
theorem d_Meanings_split_113 : decode b_Meanings_split 113 = .ok (.iconst 1, 1) := by decide +kernel
theorem d_Meanings_split_114 : decode b_Meanings_split 114 = .ok (.iadd, 1) := by decide +kernel
theorem d_Meanings_split_115 : decode b_Meanings_split 115 = .ok (.invokevirtual 104, 3) := by decide +kernel
theorem d_Meanings_split_118 : decode b_Meanings_split 118 = .ok (.invokestatic 108, 3) := by decide +kernel
theorem d_Meanings_split_121 : decode b_Meanings_split 121 = .ok (.ifCond .ne 59, 3) := by decide +kernel
theorem d_Meanings_split_124 : decode b_Meanings_split 124 = .ok (.aload_n 0, 1) := by decide +kernel
theorem d_Meanings_split_125 : decode b_Meanings_split 125 = .ok (.getfield 25, 3) := by decide +kernel
theorem d_Meanings_split_128 : decode b_Meanings_split 128 = .ok (.iload_n 1, 1) := by decide +kernel
theorem d_Meanings_split_129 : decode b_Meanings_split 129 = .ok (.aload_n 0, 1) := by decide +kernel
theorem d_Meanings_split_130 : decode b_Meanings_split 130 = .ok (.getfield 9, 3) := by decide +kernel
theorem d_Meanings_split_133 : decode b_Meanings_split 133 = .ok (.aload_n 0, 1) := by decide +kernel
theorem d_Meanings_split_134 : decode b_Meanings_split 134 = .ok (.getfield 9, 3) := by decide +kernel
theorem d_Meanings_split_137 : decode b_Meanings_split 137 = .ok (.getfield 114, 3) := by decide +kernel
theorem d_Meanings_split_140 : decode b_Meanings_split 140 = .ok (.iload_n 1, 1) := by decide +kernel
theorem d_Meanings_split_141 : decode b_Meanings_split 141 = .ok (.iaload, 1) := by decide +kernel
theorem d_Meanings_split_142 : decode b_Meanings_split 142 = .ok (.iload_n 3, 1) := by decide +kernel
theorem d_Meanings_split_143 : decode b_Meanings_split 143 = .ok (.invokevirtual 117, 3) := by decide +kernel
theorem d_Meanings_split_146 : decode b_Meanings_split 146 = .ok (.iconst 1, 1) := by decide +kernel
theorem d_Meanings_split_147 : decode b_Meanings_split 147 = .ok (.iadd, 1) := by decide +kernel
theorem d_Meanings_split_148 : decode b_Meanings_split 148 = .ok (.iastore, 1) := by decide +kernel
theorem d_Meanings_split_149 : decode b_Meanings_split 149 = .ok (.aload_n 0, 1) := by decide +kernel
theorem d_Meanings_split_150 : decode b_Meanings_split 150 = .ok (.getfield 28, 3) := by decide +kernel
theorem d_Meanings_split_153 : decode b_Meanings_split 153 = .ok (.iload_n 1, 1) := by decide +kernel
theorem d_Meanings_split_154 : decode b_Meanings_split 154 = .ok (.aload_n 0, 1) := by decide +kernel
theorem d_Meanings_split_155 : decode b_Meanings_split 155 = .ok (.getfield 9, 3) := by decide +kernel
theorem d_Meanings_split_158 : decode b_Meanings_split 158 = .ok (.aload_n 0, 1) := by decide +kernel
theorem d_Meanings_split_159 : decode b_Meanings_split 159 = .ok (.getfield 9, 3) := by decide +kernel
theorem d_Meanings_split_162 : decode b_Meanings_split 162 = .ok (.getfield 114, 3) := by decide +kernel
theorem d_Meanings_split_165 : decode b_Meanings_split 165 = .ok (.iload_n 1, 1) := by decide +kernel
theorem d_Meanings_split_166 : decode b_Meanings_split 166 = .ok (.iaload, 1) := by decide +kernel
theorem d_Meanings_split_167 : decode b_Meanings_split 167 = .ok (.iload_n 3, 1) := by decide +kernel
theorem d_Meanings_split_168 : decode b_Meanings_split 168 = .ok (.iadd, 1) := by decide +kernel
theorem d_Meanings_split_169 : decode b_Meanings_split 169 = .ok (.iconst 1, 1) := by decide +kernel
theorem d_Meanings_split_170 : decode b_Meanings_split 170 = .ok (.iadd, 1) := by decide +kernel
theorem d_Meanings_split_171 : decode b_Meanings_split 171 = .ok (.iload_n 2, 1) := by decide +kernel
theorem d_Meanings_split_172 : decode b_Meanings_split 172 = .ok (.iload_n 3, 1) := by decide +kernel
theorem d_Meanings_split_173 : decode b_Meanings_split 173 = .ok (.isub, 1) := by decide +kernel
theorem d_Meanings_split_174 : decode b_Meanings_split 174 = .ok (.iconst 1, 1) := by decide +kernel
theorem d_Meanings_split_175 : decode b_Meanings_split 175 = .ok (.isub, 1) := by decide +kernel
theorem d_Meanings_split_176 : decode b_Meanings_split 176 = .ok (.invokevirtual 117, 3) := by decide +kernel
theorem d_Meanings_split_179 : decode b_Meanings_split 179 = .ok (.iastore, 1) := by decide +kernel
theorem d_Meanings_split_180 : decode b_Meanings_split 180 = .ok (.return_, 1) := by decide +kernel
/-- Meanings_split -/
def w_Meanings_split (L : Nat → Nat) (a1 : Int) (Q : IS → Prop) (σ : IS) : Prop := inL L 156 a1 ∧ if (σ.2 156 (Int.toNat a1)) = 0 then inL L 103 a1 ∧ WL (fun (K2 : Int × Int × Int → IS → Prop) (s4 : Int × Int × Int) (σ5 : IS) => if s4.2.2 < (σ.2 103 (Int.toNat a1)) then w_Store_letter L a1 s4.2.2 (fun v45 σ44 => WJ (fun (s48 : Int × Int) (σ49 : IS) => inR (s4.2.2 + 1) ∧ K2 (s48.1, s48.2, (s4.2.2 + 1)) σ49) (fun J46 => if v45 = 58 then inR (s4.2.1 + 1) ∧ J46 (s4.2.2, (s4.2.1 + 1)) σ44 else J46 (s4.1, s4.2.1) σ44)) σ5 else inL L 156 a1 ∧ inL L 157 a1 ∧ WJ (fun (s9 : Unit) (σ10 : IS) => Q σ10) (fun J7 => if s4.2.1 = 0 then inL L 156 a1 ∧ J7 () (pr (pr (pr σ5 156 (Int.toNat a1) (-1)) 157 (Int.toNat a1) a1) 156 (Int.toNat a1) 1) else ((s4.2.1 = 1 → (0 < s4.1 → inR ((σ.2 103 (Int.toNat a1)) - 1)))) ∧ if s4.2.1 = 1 ∧ (0 < s4.1 ∧ (s4.1 < ((σ.2 103 (Int.toNat a1)) - 1))) then inR (s4.1 + 1) ∧ w_Store_letter L a1 (s4.1 + 1) (fun v14 σ13 => w_Reader_isNoStart L v14 (fun v16 σ15 => if v16 = 0 then inL L 102 a1 ∧ w_Store_intern L (σ15.2 102 (Int.toNat a1)) s4.1 (fun v19 σ18 => inR (v19 + 1) ∧ inL L 156 a1 ∧ inL L 102 a1 ∧ inR ((σ18.2 102 (Int.toNat a1)) + s4.1) ∧ inR (((σ18.2 102 (Int.toNat a1)) + s4.1) + 1) ∧ inR ((σ.2 103 (Int.toNat a1)) - s4.1) ∧ inR (((σ.2 103 (Int.toNat a1)) - s4.1) - 1) ∧ w_Store_intern L (((σ18.2 102 (Int.toNat a1)) + s4.1) + 1) (((σ.2 103 (Int.toNat a1)) - s4.1) - 1) (fun v21 σ20 => inL L 157 a1 ∧ J7 () (pr σ20 157 (Int.toNat a1) v21)) (pr σ18 156 (Int.toNat a1) (v19 + 1))) σ15 else J7 () σ15) σ13) (pr (pr σ5 156 (Int.toNat a1) (-1)) 157 (Int.toNat a1) a1) else J7 () (pr (pr σ5 156 (Int.toNat a1) (-1)) 157 (Int.toNat a1) a1))) ((-1), 0, 0) σ else Q σ
set_option maxHeartbeats 4000000 in
set_option maxRecDepth 20000 in
theorem s_Meanings_split {L : Nat → Nat} (hL : ∀ r, L r < 2147483648) {d : Nat} (hd : 2 ≤ d) {a1 : Int} {Q : IS → Prop} {σ : IS}  (h : w_Meanings_split L a1 Q σ) : OkI BF L d 10 b_Meanings_split 6 0 0 [] [some (.inr 10), some (.inl a1)] σ (qv Q) := by
  unfold w_Meanings_split at h
  obtain ⟨d, rfl⟩ : ∃ e, d = e + 1 := ⟨d - 1, by omega⟩
  refine k_sb (lv' := [some (.inr 10), some (.inl a1), none, none, none, none]) (sb_s (sb_s (sb_e (sb_e (sb_e (sb_e sb_nil)))))) ?_
  refine k_aload_n d_Meanings_split_0 rfl ?_
  refine k_getR d_Meanings_split_1 fl_10_25 ob_10 rfl ?_
  refine k_iload_n d_Meanings_split_4 rfl ?_
  obtain ⟨p54, h⟩ := h
  refine k_ild (x := (σ.2 156 (Int.toNat a1))) d_Meanings_split_5 rI_156 p54 rfl ?_
  refine k_ifeq d_Meanings_split_6 rfl (fun c1 => ?_) (fun c1 => ?_)
  · have h := ipos c1 h
    refine k_aload_n d_Meanings_split_10 rfl ?_
    refine k_getR d_Meanings_split_11 fl_10_9 ob_10 rfl ?_
    refine k_getR d_Meanings_split_14 fl_10_101 ob_1 rfl ?_
    refine k_iload_n d_Meanings_split_17 rfl ?_
    obtain ⟨p53, h⟩ := h
    refine k_ild (x := (σ.2 103 (Int.toNat a1))) d_Meanings_split_18 rI_103 p53 rfl ?_
    refine k_istore_n (lv' := [some (.inr 10), some (.inl a1), some (.inl (σ.2 103 (Int.toNat a1))), none, none, none]) d_Meanings_split_19 rfl rfl ?_
    refine k_iconst d_Meanings_split_20 cI_m1 ?_
    refine k_istore_n (lv' := [some (.inr 10), some (.inl a1), some (.inl (σ.2 103 (Int.toNat a1))), some (.inl (-1)), none, none]) d_Meanings_split_21 rfl rfl ?_
    refine k_iconst d_Meanings_split_22 cI_0 ?_
    refine k_istore (lv' := [some (.inr 10), some (.inl a1), some (.inl (σ.2 103 (Int.toNat a1))), some (.inl (-1)), some (.inl 0), none]) d_Meanings_split_23 rfl rfl ?_
    refine k_iconst d_Meanings_split_25 cI_0 ?_
    refine k_istore (lv' := [some (.inr 10), some (.inl a1), some (.inl (σ.2 103 (Int.toNat a1))), some (.inl (-1)), some (.inl 0), some (.inl 0)]) d_Meanings_split_26 rfl rfl ?_
    refine k_sb (lv' := [some (.inr 10), some (.inl a1), some (.inl (σ.2 103 (Int.toNat a1))), some (.inl (-1)), some (.inl 0), some (.inl 0)]) (sb_s (sb_s (sb_s (sb_s (sb_s (sb_s sb_nil)))))) ?_
    refine k_loop (S := Int × Int × Int) (st := fun _ => []) (lv := fun s4 => [some (.inr 10), some (.inl a1), some (.inl (σ.2 103 (Int.toNat a1))), some (.inl s4.1), some (.inl s4.2.1), some (.inl s4.2.2)]) (fun K2 hK3 s4 σ5 h => ?_) ((-1), 0, 0) _ h
    refine k_iload d_Meanings_split_28 rfl ?_
    refine k_iload_n d_Meanings_split_30 rfl ?_
    refine k_icge d_Meanings_split_31 rfl (fun c6 => ?_) (fun c6 => ?_)
    · have h := ineg c6 h
      refine k_aload_n d_Meanings_split_61 rfl ?_
      refine k_getR d_Meanings_split_62 fl_10_25 ob_10 rfl ?_
      refine k_iload_n d_Meanings_split_65 rfl ?_
      refine k_iconst d_Meanings_split_66 cI_m1 ?_
      obtain ⟨p43, h⟩ := h
      refine k_ist d_Meanings_split_67 rI_156 p43 ?_
      refine k_aload_n d_Meanings_split_68 rfl ?_
      refine k_getR d_Meanings_split_69 fl_10_28 ob_10 rfl ?_
      refine k_iload_n d_Meanings_split_72 rfl ?_
      refine k_iload_n d_Meanings_split_73 rfl ?_
      obtain ⟨p42, h⟩ := h
      refine k_ist d_Meanings_split_74 rI_157 p42 ?_
      refine k_iload d_Meanings_split_75 rfl ?_
      refine k_join (S := Unit) (pc' := 180) (st' := fun s9 => []) (lv' := fun s9 => [none, none, none, none, none, none]) (fun s9 σ10 h => ?_) (fun J7 hJ8 h => ?_) h
      · exact k_ret d_Meanings_split_180 h
      · refine k_ifne d_Meanings_split_77 rfl (fun c11 => ?_) (fun c11 => ?_)
        · have h := ineg c11 h
          refine k_iload d_Meanings_split_90 rfl ?_
          refine k_iconst d_Meanings_split_92 cI_1 ?_
          obtain ⟨pt35, h⟩ := h
          have hX32 : (s4.2.1 = 1 ∧ (0 < s4.1 ∧ (s4.1 < ((σ.2 103 (Int.toNat a1)) - 1)))) → OkI BF L (d + 1) 10 b_Meanings_split 6 0 107 [] [some (.inr 10), some (.inl a1), some (.inl (σ.2 103 (Int.toNat a1))), some (.inl s4.1), some (.inl s4.2.1), some (.inl s4.2.2)] (pr (pr σ5 156 (Int.toNat a1) (-1)) 157 (Int.toNat a1) a1) (qv Q) := fun e34 => by
            have h := ipos e34 h
            refine k_aload_n d_Meanings_split_107 rfl ?_
            refine k_getR d_Meanings_split_108 fl_10_9 ob_10 rfl ?_
            refine k_iload_n d_Meanings_split_111 rfl ?_
            refine k_iload_n d_Meanings_split_112 rfl ?_
            refine k_iconst d_Meanings_split_113 cI_1 ?_
            obtain ⟨p31, h⟩ := h
            refine k_iadd d_Meanings_split_114 p31 ?_
            refine k_cvi [.inl a1, .inl (s4.1 + 1)] d_Meanings_split_115 ml_10_104 rfl rfl ob_1 rfl (s_Store_letter hL (by omega)  h) (fun v14 σ13 h => ?_)
            refine k_csi [.inl v14] d_Meanings_split_118 ml_10_108 (Or.inl rfl) rfl rfl rfl (s_Reader_isNoStart hL (by omega)  h) (fun v16 σ15 h => ?_)
            refine k_ifne d_Meanings_split_121 rfl (fun c17 => ?_) (fun c17 => ?_)
            · have h := ineg c17 h
              exact k_sb (sb_n (sb_n (sb_n (sb_n (sb_n (sb_n sb_nil)))))) (hJ8 () _ h)
            · have h := ipos c17 h
              refine k_aload_n d_Meanings_split_124 rfl ?_
              refine k_getR d_Meanings_split_125 fl_10_25 ob_10 rfl ?_
              refine k_iload_n d_Meanings_split_128 rfl ?_
              refine k_aload_n d_Meanings_split_129 rfl ?_
              refine k_getR d_Meanings_split_130 fl_10_9 ob_10 rfl ?_
              refine k_aload_n d_Meanings_split_133 rfl ?_
              refine k_getR d_Meanings_split_134 fl_10_9 ob_10 rfl ?_
              refine k_getR d_Meanings_split_137 fl_10_114 ob_1 rfl ?_
              refine k_iload_n d_Meanings_split_140 rfl ?_
              obtain ⟨p30, h⟩ := h
              refine k_ild (x := (σ15.2 102 (Int.toNat a1))) d_Meanings_split_141 rI_102 p30 rfl ?_
              refine k_iload_n d_Meanings_split_142 rfl ?_
              refine k_cvi [.inl (σ15.2 102 (Int.toNat a1)), .inl s4.1] d_Meanings_split_143 ml_10_117 rfl rfl ob_1 rfl (s_Store_intern hL (by omega) stB_BF h) (fun v19 σ18 h => ?_)
              refine k_iconst d_Meanings_split_146 cI_1 ?_
              obtain ⟨p29, h⟩ := h
              refine k_iadd d_Meanings_split_147 p29 ?_
              obtain ⟨p28, h⟩ := h
              refine k_ist d_Meanings_split_148 rI_156 p28 ?_
              refine k_aload_n d_Meanings_split_149 rfl ?_
              refine k_getR d_Meanings_split_150 fl_10_28 ob_10 rfl ?_
              refine k_iload_n d_Meanings_split_153 rfl ?_
              refine k_aload_n d_Meanings_split_154 rfl ?_
              refine k_getR d_Meanings_split_155 fl_10_9 ob_10 rfl ?_
              refine k_aload_n d_Meanings_split_158 rfl ?_
              refine k_getR d_Meanings_split_159 fl_10_9 ob_10 rfl ?_
              refine k_getR d_Meanings_split_162 fl_10_114 ob_1 rfl ?_
              refine k_iload_n d_Meanings_split_165 rfl ?_
              obtain ⟨p27, h⟩ := h
              refine k_ild (x := (σ18.2 102 (Int.toNat a1))) d_Meanings_split_166 rI_102 p27 rfl ?_
              refine k_iload_n d_Meanings_split_167 rfl ?_
              obtain ⟨p26, h⟩ := h
              refine k_iadd d_Meanings_split_168 p26 ?_
              refine k_iconst d_Meanings_split_169 cI_1 ?_
              obtain ⟨p25, h⟩ := h
              refine k_iadd d_Meanings_split_170 p25 ?_
              refine k_iload_n d_Meanings_split_171 rfl ?_
              refine k_iload_n d_Meanings_split_172 rfl ?_
              obtain ⟨p24, h⟩ := h
              refine k_isub d_Meanings_split_173 p24 ?_
              refine k_iconst d_Meanings_split_174 cI_1 ?_
              obtain ⟨p23, h⟩ := h
              refine k_isub d_Meanings_split_175 p23 ?_
              refine k_cvi [.inl (((σ18.2 102 (Int.toNat a1)) + s4.1) + 1), .inl (((σ.2 103 (Int.toNat a1)) - s4.1) - 1)] d_Meanings_split_176 ml_10_117 rfl rfl ob_1 rfl (s_Store_intern hL (by omega) stB_BF h) (fun v21 σ20 h => ?_)
              obtain ⟨p22, h⟩ := h
              refine k_ist d_Meanings_split_179 rI_157 p22 ?_
              exact k_sb (sb_n (sb_n (sb_n (sb_n (sb_n (sb_n sb_nil)))))) (hJ8 () _ h)
          have hY33 : ¬ (s4.2.1 = 1 ∧ (0 < s4.1 ∧ (s4.1 < ((σ.2 103 (Int.toNat a1)) - 1)))) → OkI BF L (d + 1) 10 b_Meanings_split 6 0 180 [] [some (.inr 10), some (.inl a1), some (.inl (σ.2 103 (Int.toNat a1))), some (.inl s4.1), some (.inl s4.2.1), some (.inl s4.2.2)] (pr (pr σ5 156 (Int.toNat a1) (-1)) 157 (Int.toNat a1) a1) (qv Q) := fun e34 => by
            have h := ineg e34 h
            exact k_sb (sb_n (sb_n (sb_n (sb_n (sb_n (sb_n sb_nil)))))) (hJ8 () _ h)
          have pa36 := pt35
          refine k_icne d_Meanings_split_93 rfl (fun c37 => ?_) (fun c37 => ?_)
          · exact hY33 (fun z => c37 z.1)
          · have pa36 := pa36 c37
            have pa38 := pa36
            refine k_iload_n d_Meanings_split_96 rfl ?_
            refine k_ifle d_Meanings_split_97 rfl (fun c39 => ?_) (fun c39 => ?_)
            · exact hY33 (fun z => (fun z => c39 z.1) z.2)
            · have pa38 := pa38 c39
              have p12 := pa38
              refine k_iload_n d_Meanings_split_100 rfl ?_
              refine k_iload_n d_Meanings_split_101 rfl ?_
              refine k_iconst d_Meanings_split_102 cI_1 ?_
              refine k_isub d_Meanings_split_103 p12 ?_
              refine k_icge d_Meanings_split_104 rfl (fun c40 => ?_) (fun c40 => ?_)
              · exact hY33 (fun z => (fun z => (c40) z.2) z.2)
              · exact hX32 (⟨c37, ⟨c39, c40⟩⟩)
        · have h := ipos c11 h
          refine k_aload_n d_Meanings_split_80 rfl ?_
          refine k_getR d_Meanings_split_81 fl_10_25 ob_10 rfl ?_
          refine k_iload_n d_Meanings_split_84 rfl ?_
          refine k_iconst d_Meanings_split_85 cI_1 ?_
          obtain ⟨p41, h⟩ := h
          refine k_ist d_Meanings_split_86 rI_156 p41 ?_
          refine k_goto d_Meanings_split_87 rfl ?_
          exact k_sb (sb_n (sb_n (sb_n (sb_n (sb_n (sb_n sb_nil)))))) (hJ8 () _ h)
    · have h := ipos c6 h
      refine k_aload_n d_Meanings_split_34 rfl ?_
      refine k_getR d_Meanings_split_35 fl_10_9 ob_10 rfl ?_
      refine k_iload_n d_Meanings_split_38 rfl ?_
      refine k_iload d_Meanings_split_39 rfl ?_
      refine k_cvi [.inl a1, .inl s4.2.2] d_Meanings_split_41 ml_10_104 rfl rfl ob_1 rfl (s_Store_letter hL (by omega)  h) (fun v45 σ44 h => ?_)
      refine k_bipush d_Meanings_split_44 cB_58 ?_
      refine k_join (S := Int × Int) (pc' := 55) (st' := fun s48 => []) (lv' := fun s48 => [some (.inr 10), some (.inl a1), some (.inl (σ.2 103 (Int.toNat a1))), some (.inl s48.1), some (.inl s48.2), some (.inl s4.2.2)]) (fun s48 σ49 h => ?_) (fun J46 hJ47 h => ?_) h
      · obtain ⟨p50, h⟩ := h
        refine k_iinc (lv' := [some (.inr 10), some (.inl a1), some (.inl (σ.2 103 (Int.toNat a1))), some (.inl s48.1), some (.inl s48.2), some (.inl (s4.2.2 + 1))]) d_Meanings_split_55 cI_1 rfl rfl p50 rfl ?_
        refine k_goto d_Meanings_split_58 rfl ?_
        exact k_sb (sb_s (sb_s (sb_s (sb_s (sb_s (sb_s sb_nil)))))) (hK3 (s48.1, s48.2, (s4.2.2 + 1)) _ h)
      · refine k_icne d_Meanings_split_46 rfl (fun c51 => ?_) (fun c51 => ?_)
        · have h := ineg c51 h
          exact k_sb (sb_s (sb_s (sb_s (sb_s (sb_s (sb_s sb_nil)))))) (hJ47 (s4.1, s4.2.1) _ h)
        · have h := ipos c51 h
          refine k_iload d_Meanings_split_49 rfl ?_
          refine k_istore_n (lv' := [some (.inr 10), some (.inl a1), some (.inl (σ.2 103 (Int.toNat a1))), some (.inl s4.2.2), some (.inl s4.2.1), some (.inl s4.2.2)]) d_Meanings_split_51 rfl rfl ?_
          obtain ⟨p52, h⟩ := h
          refine k_iinc (lv' := [some (.inr 10), some (.inl a1), some (.inl (σ.2 103 (Int.toNat a1))), some (.inl s4.2.2), some (.inl (s4.2.1 + 1)), some (.inl s4.2.2)]) d_Meanings_split_52 cI_1 rfl rfl p52 rfl ?_
          exact k_sb (sb_s (sb_s (sb_s (sb_s (sb_s (sb_s sb_nil)))))) (hJ47 (s4.2.2, (s4.2.1 + 1)) _ h)
  · have h := ineg c1 h
    exact k_ret d_Meanings_split_9 h
theorem d_Meanings_splitAll_0 : decode b_Meanings_splitAll 0 = .ok (.iconst 0, 1) := by decide +kernel
theorem d_Meanings_splitAll_1 : decode b_Meanings_splitAll 1 = .ok (.istore_n 1, 1) := by decide +kernel
theorem d_Meanings_splitAll_2 : decode b_Meanings_splitAll 2 = .ok (.iload_n 1, 1) := by decide +kernel
theorem d_Meanings_splitAll_3 : decode b_Meanings_splitAll 3 = .ok (.aload_n 0, 1) := by decide +kernel
theorem d_Meanings_splitAll_4 : decode b_Meanings_splitAll 4 = .ok (.getfield 15, 3) := by decide +kernel
theorem d_Meanings_splitAll_7 : decode b_Meanings_splitAll 7 = .ok (.getfield 89, 3) := by decide +kernel
theorem d_Meanings_splitAll_10 : decode b_Meanings_splitAll 10 = .ok (.if_icmp .ge 22, 3) := by decide +kernel
theorem d_Meanings_splitAll_13 : decode b_Meanings_splitAll 13 = .ok (.aload_n 0, 1) := by decide +kernel
theorem d_Meanings_splitAll_14 : decode b_Meanings_splitAll 14 = .ok (.aload_n 0, 1) := by decide +kernel
theorem d_Meanings_splitAll_15 : decode b_Meanings_splitAll 15 = .ok (.getfield 15, 3) := by decide +kernel
theorem d_Meanings_splitAll_18 : decode b_Meanings_splitAll 18 = .ok (.getfield 92, 3) := by decide +kernel
theorem d_Meanings_splitAll_21 : decode b_Meanings_splitAll 21 = .ok (.iload_n 1, 1) := by decide +kernel
theorem d_Meanings_splitAll_22 : decode b_Meanings_splitAll 22 = .ok (.iaload, 1) := by decide +kernel
theorem d_Meanings_splitAll_23 : decode b_Meanings_splitAll 23 = .ok (.invokevirtual 95, 3) := by decide +kernel
theorem d_Meanings_splitAll_26 : decode b_Meanings_splitAll 26 = .ok (.iinc 1 1, 3) := by decide +kernel
theorem d_Meanings_splitAll_29 : decode b_Meanings_splitAll 29 = .ok (.goto (-27), 3) := by decide +kernel
theorem d_Meanings_splitAll_32 : decode b_Meanings_splitAll 32 = .ok (.iconst 0, 1) := by decide +kernel
theorem d_Meanings_splitAll_33 : decode b_Meanings_splitAll 33 = .ok (.istore_n 1, 1) := by decide +kernel
theorem d_Meanings_splitAll_34 : decode b_Meanings_splitAll 34 = .ok (.iload_n 1, 1) := by decide +kernel
theorem d_Meanings_splitAll_35 : decode b_Meanings_splitAll 35 = .ok (.aload_n 0, 1) := by decide +kernel
theorem d_Meanings_splitAll_36 : decode b_Meanings_splitAll 36 = .ok (.getfield 15, 3) := by decide +kernel
theorem d_Meanings_splitAll_39 : decode b_Meanings_splitAll 39 = .ok (.getfield 98, 3) := by decide +kernel
theorem d_Meanings_splitAll_42 : decode b_Meanings_splitAll 42 = .ok (.if_icmp .ge 22, 3) := by decide +kernel
theorem d_Meanings_splitAll_45 : decode b_Meanings_splitAll 45 = .ok (.aload_n 0, 1) := by decide +kernel
theorem d_Meanings_splitAll_46 : decode b_Meanings_splitAll 46 = .ok (.aload_n 0, 1) := by decide +kernel
theorem d_Meanings_splitAll_47 : decode b_Meanings_splitAll 47 = .ok (.getfield 15, 3) := by decide +kernel
theorem d_Meanings_splitAll_50 : decode b_Meanings_splitAll 50 = .ok (.getfield 34, 3) := by decide +kernel
theorem d_Meanings_splitAll_53 : decode b_Meanings_splitAll 53 = .ok (.iload_n 1, 1) := by decide +kernel
theorem d_Meanings_splitAll_54 : decode b_Meanings_splitAll 54 = .ok (.iaload, 1) := by decide +kernel
theorem d_Meanings_splitAll_55 : decode b_Meanings_splitAll 55 = .ok (.invokevirtual 95, 3) := by decide +kernel
theorem d_Meanings_splitAll_58 : decode b_Meanings_splitAll 58 = .ok (.iinc 1 1, 3) := by decide +kernel
theorem d_Meanings_splitAll_61 : decode b_Meanings_splitAll 61 = .ok (.goto (-27), 3) := by decide +kernel
theorem d_Meanings_splitAll_64 : decode b_Meanings_splitAll 64 = .ok (.return_, 1) := by decide +kernel
/-- Meanings_splitAll -/
def w_Meanings_splitAll (L : Nat → Nat)  (Q : IS → Prop) (σ : IS) : Prop := WL (fun (K1 : Int → IS → Prop) (s3 : Int) (σ4 : IS) => if s3 < (σ4.1 6 2) then inL L 146 s3 ∧ w_Meanings_split L (σ4.2 146 (Int.toNat s3)) (fun σ15 => inR (s3 + 1) ∧ K1 (s3 + 1) σ15) σ4 else WL (fun (K6 : Int → IS → Prop) (s8 : Int) (σ9 : IS) => if s8 < (σ9.1 6 10) then inL L 161 s8 ∧ w_Meanings_split L (σ9.2 161 (Int.toNat s8)) (fun σ11 => inR (s8 + 1) ∧ K6 (s8 + 1) σ11) σ9 else Q σ9) 0 σ4) 0 σ
set_option maxHeartbeats 4000000 in
set_option maxRecDepth 20000 in
theorem s_Meanings_splitAll {L : Nat → Nat} (hL : ∀ r, L r < 2147483648) {d : Nat} (hd : 3 ≤ d)  {Q : IS → Prop} {σ : IS}  (h : w_Meanings_splitAll L  Q σ) : OkI BF L d 10 b_Meanings_splitAll 2 0 0 [] [some (.inr 10)] σ (qv Q) := by
  unfold w_Meanings_splitAll at h
  obtain ⟨d, rfl⟩ : ∃ e, d = e + 1 := ⟨d - 1, by omega⟩
  refine k_sb (lv' := [some (.inr 10), none]) (sb_s (sb_e sb_nil)) ?_
  refine k_iconst d_Meanings_splitAll_0 cI_0 ?_
  refine k_istore_n (lv' := [some (.inr 10), some (.inl 0)]) d_Meanings_splitAll_1 rfl rfl ?_
  refine k_sb (lv' := [some (.inr 10), some (.inl 0)]) (sb_s (sb_s sb_nil)) ?_
  refine k_loop (S := Int) (st := fun _ => []) (lv := fun s3 => [some (.inr 10), some (.inl s3)]) (fun K1 hK2 s3 σ4 h => ?_) 0 _ h
  refine k_iload_n d_Meanings_splitAll_2 rfl ?_
  refine k_aload_n d_Meanings_splitAll_3 rfl ?_
  refine k_getR d_Meanings_splitAll_4 fl_10_15 ob_10 rfl ?_
  refine k_getI (x := (σ4.1 6 2)) d_Meanings_splitAll_7 fl_10_89 ob_6 rfl rfl ?_
  refine k_icge d_Meanings_splitAll_10 rfl (fun c5 => ?_) (fun c5 => ?_)
  · have h := ineg c5 h
    refine k_iconst d_Meanings_splitAll_32 cI_0 ?_
    refine k_istore_n (lv' := [some (.inr 10), some (.inl 0)]) d_Meanings_splitAll_33 rfl rfl ?_
    refine k_sb (lv' := [some (.inr 10), some (.inl 0)]) (sb_s (sb_s sb_nil)) ?_
    refine k_loop (S := Int) (st := fun _ => []) (lv := fun s8 => [some (.inr 10), some (.inl s8)]) (fun K6 hK7 s8 σ9 h => ?_) 0 _ h
    refine k_iload_n d_Meanings_splitAll_34 rfl ?_
    refine k_aload_n d_Meanings_splitAll_35 rfl ?_
    refine k_getR d_Meanings_splitAll_36 fl_10_15 ob_10 rfl ?_
    refine k_getI (x := (σ9.1 6 10)) d_Meanings_splitAll_39 fl_10_98 ob_6 rfl rfl ?_
    refine k_icge d_Meanings_splitAll_42 rfl (fun c10 => ?_) (fun c10 => ?_)
    · have h := ineg c10 h
      exact k_ret d_Meanings_splitAll_64 h
    · have h := ipos c10 h
      refine k_aload_n d_Meanings_splitAll_45 rfl ?_
      refine k_aload_n d_Meanings_splitAll_46 rfl ?_
      refine k_getR d_Meanings_splitAll_47 fl_10_15 ob_10 rfl ?_
      refine k_getR d_Meanings_splitAll_50 fl_10_34 ob_6 rfl ?_
      refine k_iload_n d_Meanings_splitAll_53 rfl ?_
      obtain ⟨p14, h⟩ := h
      refine k_ild (x := (σ9.2 161 (Int.toNat s8))) d_Meanings_splitAll_54 rI_161 p14 rfl ?_
      refine k_cvv [.inl (σ9.2 161 (Int.toNat s8))] d_Meanings_splitAll_55 ml_10_95 rfl rfl ob_10 rfl (s_Meanings_split hL (by omega)  h) (fun σ11 h => ?_)
      obtain ⟨p13, h⟩ := h
      refine k_iinc (lv' := [some (.inr 10), some (.inl (s8 + 1))]) d_Meanings_splitAll_58 cI_1 rfl rfl p13 rfl ?_
      refine k_goto d_Meanings_splitAll_61 rfl ?_
      exact k_sb (sb_s (sb_s sb_nil)) (hK7 (s8 + 1) _ h)
  · have h := ipos c5 h
    refine k_aload_n d_Meanings_splitAll_13 rfl ?_
    refine k_aload_n d_Meanings_splitAll_14 rfl ?_
    refine k_getR d_Meanings_splitAll_15 fl_10_15 ob_10 rfl ?_
    refine k_getR d_Meanings_splitAll_18 fl_10_92 ob_6 rfl ?_
    refine k_iload_n d_Meanings_splitAll_21 rfl ?_
    obtain ⟨p18, h⟩ := h
    refine k_ild (x := (σ4.2 146 (Int.toNat s3))) d_Meanings_splitAll_22 rI_146 p18 rfl ?_
    refine k_cvv [.inl (σ4.2 146 (Int.toNat s3))] d_Meanings_splitAll_23 ml_10_95 rfl rfl ob_10 rfl (s_Meanings_split hL (by omega)  h) (fun σ15 h => ?_)
    obtain ⟨p17, h⟩ := h
    refine k_iinc (lv' := [some (.inr 10), some (.inl (s3 + 1))]) d_Meanings_splitAll_26 cI_1 rfl rfl p17 rfl ?_
    refine k_goto d_Meanings_splitAll_29 rfl ?_
    exact k_sb (sb_s (sb_s sb_nil)) (hK2 (s3 + 1) _ h)
theorem d_Meanings_countName_0 : decode b_Meanings_countName 0 = .ok (.aload_n 0, 1) := by decide +kernel
theorem d_Meanings_countName_1 : decode b_Meanings_countName 1 = .ok (.iload_n 1, 1) := by decide +kernel
theorem d_Meanings_countName_2 : decode b_Meanings_countName 2 = .ok (.invokevirtual 120, 3) := by decide +kernel
theorem d_Meanings_countName_5 : decode b_Meanings_countName 5 = .ok (.istore_n 2, 1) := by decide +kernel
theorem d_Meanings_countName_6 : decode b_Meanings_countName 6 = .ok (.aload_n 0, 1) := by decide +kernel
theorem d_Meanings_countName_7 : decode b_Meanings_countName 7 = .ok (.getfield 42, 3) := by decide +kernel
theorem d_Meanings_countName_10 : decode b_Meanings_countName 10 = .ok (.iconst 0, 1) := by decide +kernel
theorem d_Meanings_countName_11 : decode b_Meanings_countName 11 = .ok (.dup2, 1) := by decide +kernel
theorem d_Meanings_countName_12 : decode b_Meanings_countName 12 = .ok (.iaload, 1) := by decide +kernel
theorem d_Meanings_countName_13 : decode b_Meanings_countName 13 = .ok (.aload_n 0, 1) := by decide +kernel
theorem d_Meanings_countName_14 : decode b_Meanings_countName 14 = .ok (.getfield 25, 3) := by decide +kernel
theorem d_Meanings_countName_17 : decode b_Meanings_countName 17 = .ok (.iload_n 1, 1) := by decide +kernel
theorem d_Meanings_countName_18 : decode b_Meanings_countName 18 = .ok (.iaload, 1) := by decide +kernel
theorem d_Meanings_countName_19 : decode b_Meanings_countName 19 = .ok (.iconst (-1), 1) := by decide +kernel
theorem d_Meanings_countName_20 : decode b_Meanings_countName 20 = .ok (.if_icmp .ne 7, 3) := by decide +kernel
theorem d_Meanings_countName_23 : decode b_Meanings_countName 23 = .ok (.iconst 1, 1) := by decide +kernel
theorem d_Meanings_countName_24 : decode b_Meanings_countName 24 = .ok (.goto 4, 3) := by decide +kernel
theorem d_Meanings_countName_27 : decode b_Meanings_countName 27 = .ok (.iconst 0, 1) := by decide +kernel
theorem d_Meanings_countName_28 : decode b_Meanings_countName 28 = .ok (.iadd, 1) := by decide +kernel
theorem d_Meanings_countName_29 : decode b_Meanings_countName 29 = .ok (.iastore, 1) := by decide +kernel
theorem d_Meanings_countName_30 : decode b_Meanings_countName 30 = .ok (.aload_n 0, 1) := by decide +kernel
theorem d_Meanings_countName_31 : decode b_Meanings_countName 31 = .ok (.getfield 42, 3) := by decide +kernel
theorem d_Meanings_countName_34 : decode b_Meanings_countName 34 = .ok (.iconst 1, 1) := by decide +kernel
theorem d_Meanings_countName_35 : decode b_Meanings_countName 35 = .ok (.dup2, 1) := by decide +kernel
theorem d_Meanings_countName_36 : decode b_Meanings_countName 36 = .ok (.iaload, 1) := by decide +kernel
theorem d_Meanings_countName_37 : decode b_Meanings_countName 37 = .ok (.iload_n 2, 1) := by decide +kernel
theorem d_Meanings_countName_38 : decode b_Meanings_countName 38 = .ok (.ifCond .eq 22, 3) := by decide +kernel
theorem d_Meanings_countName_41 : decode b_Meanings_countName 41 = .ok (.iload_n 2, 1) := by decide +kernel
theorem d_Meanings_countName_42 : decode b_Meanings_countName 42 = .ok (.bipush 7, 2) := by decide +kernel
theorem d_Meanings_countName_44 : decode b_Meanings_countName 44 = .ok (.if_icmp .eq 16, 3) := by decide +kernel
theorem d_Meanings_countName_47 : decode b_Meanings_countName 47 = .ok (.aload_n 0, 1) := by decide +kernel
theorem d_Meanings_countName_48 : decode b_Meanings_countName 48 = .ok (.getfield 31, 3) := by decide +kernel
theorem d_Meanings_countName_51 : decode b_Meanings_countName 51 = .ok (.iload_n 2, 1) := by decide +kernel
theorem d_Meanings_countName_52 : decode b_Meanings_countName 52 = .ok (.iaload, 1) := by decide +kernel
theorem d_Meanings_countName_53 : decode b_Meanings_countName 53 = .ok (.ifCond .ne 7, 3) := by decide +kernel
theorem d_Meanings_countName_56 : decode b_Meanings_countName 56 = .ok (.iconst 1, 1) := by decide +kernel
theorem d_Meanings_countName_57 : decode b_Meanings_countName 57 = .ok (.goto 4, 3) := by decide +kernel
theorem d_Meanings_countName_60 : decode b_Meanings_countName 60 = .ok (.iconst 0, 1) := by decide +kernel
theorem d_Meanings_countName_61 : decode b_Meanings_countName 61 = .ok (.iadd, 1) := by decide +kernel
theorem d_Meanings_countName_62 : decode b_Meanings_countName 62 = .ok (.iastore, 1) := by decide +kernel
theorem d_Meanings_countName_63 : decode b_Meanings_countName 63 = .ok (.return_, 1) := by decide +kernel
/-- Meanings_countName -/
def w_Meanings_countName (L : Nat → Nat) (a1 : Int) (Q : IS → Prop) (σ : IS) : Prop := w_Meanings_prefix L a1 (fun v2 σ1 => inL L 160 0 ∧ inL L 156 a1 ∧ inR ((σ1.2 160 (Int.toNat 0)) + (if (σ1.2 156 (Int.toNat a1)) = (-1) then (1 : Int) else (0 : Int))) ∧ inL L 160 0 ∧ inL L 160 1 ∧ ((¬ v2 = 0 → (¬ v2 = 7 → inL L 158 v2))) ∧ inR (((pr σ1 160 (Int.toNat 0) ((σ1.2 160 (Int.toNat 0)) + (if (σ1.2 156 (Int.toNat a1)) = (-1) then (1 : Int) else (0 : Int)))).2 160 (Int.toNat 1)) + (if v2 = 0 then (0 : Int) else (if v2 = 7 then (0 : Int) else (if (σ1.2 158 (Int.toNat v2)) = 0 then (1 : Int) else (0 : Int))))) ∧ inL L 160 1 ∧ Q (pr (pr σ1 160 (Int.toNat 0) ((σ1.2 160 (Int.toNat 0)) + (if (σ1.2 156 (Int.toNat a1)) = (-1) then (1 : Int) else (0 : Int)))) 160 (Int.toNat 1) (((pr σ1 160 (Int.toNat 0) ((σ1.2 160 (Int.toNat 0)) + (if (σ1.2 156 (Int.toNat a1)) = (-1) then (1 : Int) else (0 : Int)))).2 160 (Int.toNat 1)) + (if v2 = 0 then (0 : Int) else (if v2 = 7 then (0 : Int) else (if (σ1.2 158 (Int.toNat v2)) = 0 then (1 : Int) else (0 : Int))))))) σ
set_option maxHeartbeats 4000000 in
set_option maxRecDepth 20000 in
theorem s_Meanings_countName {L : Nat → Nat} (hL : ∀ r, L r < 2147483648) {d : Nat} (hd : 1 ≤ d) {a1 : Int} {Q : IS → Prop} {σ : IS}  (h : w_Meanings_countName L a1 Q σ) : OkI BF L d 10 b_Meanings_countName 3 0 0 [] [some (.inr 10), some (.inl a1)] σ (qv Q) := by
  unfold w_Meanings_countName at h
  obtain ⟨d, rfl⟩ : ∃ e, d = e + 1 := ⟨d - 1, by omega⟩
  refine k_sb (lv' := [some (.inr 10), some (.inl a1), none]) (sb_s (sb_s (sb_e sb_nil))) ?_
  refine k_aload_n d_Meanings_countName_0 rfl ?_
  refine k_iload_n d_Meanings_countName_1 rfl ?_
  refine k_cvi [.inl a1] d_Meanings_countName_2 ml_10_120 rfl rfl ob_10 rfl (s_Meanings_prefix hL (by omega)  h) (fun v2 σ1 h => ?_)
  refine k_istore_n (lv' := [some (.inr 10), some (.inl a1), some (.inl v2)]) d_Meanings_countName_5 rfl rfl ?_
  refine k_aload_n d_Meanings_countName_6 rfl ?_
  refine k_getR d_Meanings_countName_7 fl_10_42 ob_10 rfl ?_
  refine k_iconst d_Meanings_countName_10 cI_0 ?_
  refine k_dup2 d_Meanings_countName_11 ?_
  obtain ⟨p27, h⟩ := h
  refine k_ild (x := (σ1.2 160 (Int.toNat 0))) d_Meanings_countName_12 rI_160 p27 rfl ?_
  refine k_aload_n d_Meanings_countName_13 rfl ?_
  refine k_getR d_Meanings_countName_14 fl_10_25 ob_10 rfl ?_
  refine k_iload_n d_Meanings_countName_17 rfl ?_
  obtain ⟨p26, h⟩ := h
  refine k_ild (x := (σ1.2 156 (Int.toNat a1))) d_Meanings_countName_18 rI_156 p26 rfl ?_
  refine k_iconst d_Meanings_countName_19 cI_m1 ?_
  have hV22 : OkI BF L (d + 1) 10 b_Meanings_countName 3 0 28 [.inl (if (σ1.2 156 (Int.toNat a1)) = (-1) then (1 : Int) else (0 : Int)), .inl (σ1.2 160 (Int.toNat 0)), .inl 0, .inr 160] [some (.inr 10), some (.inl a1), some (.inl v2)] σ1 (qv Q) := by
    obtain ⟨p21, h⟩ := h
    refine k_iadd d_Meanings_countName_28 p21 ?_
    obtain ⟨p20, h⟩ := h
    refine k_ist d_Meanings_countName_29 rI_160 p20 ?_
    refine k_aload_n d_Meanings_countName_30 rfl ?_
    refine k_getR d_Meanings_countName_31 fl_10_42 ob_10 rfl ?_
    refine k_iconst d_Meanings_countName_34 cI_1 ?_
    refine k_dup2 d_Meanings_countName_35 ?_
    obtain ⟨p19, h⟩ := h
    refine k_ild (x := ((pr σ1 160 (Int.toNat 0) ((σ1.2 160 (Int.toNat 0)) + (if (σ1.2 156 (Int.toNat a1)) = (-1) then (1 : Int) else (0 : Int)))).2 160 (Int.toNat 1))) d_Meanings_countName_36 rI_160 p19 rfl ?_
    refine k_iload_n d_Meanings_countName_37 rfl ?_
    obtain ⟨pt7, h⟩ := h
    have hV6 : OkI BF L (d + 1) 10 b_Meanings_countName 3 0 61 [.inl (if v2 = 0 then (0 : Int) else (if v2 = 7 then (0 : Int) else (if (σ1.2 158 (Int.toNat v2)) = 0 then (1 : Int) else (0 : Int)))), .inl ((pr σ1 160 (Int.toNat 0) ((σ1.2 160 (Int.toNat 0)) + (if (σ1.2 156 (Int.toNat a1)) = (-1) then (1 : Int) else (0 : Int)))).2 160 (Int.toNat 1)), .inl 1, .inr 160] [some (.inr 10), some (.inl a1), some (.inl v2)] (pr σ1 160 (Int.toNat 0) ((σ1.2 160 (Int.toNat 0)) + (if (σ1.2 156 (Int.toNat a1)) = (-1) then (1 : Int) else (0 : Int)))) (qv Q) := by
      obtain ⟨p5, h⟩ := h
      refine k_iadd d_Meanings_countName_61 p5 ?_
      obtain ⟨p4, h⟩ := h
      refine k_ist d_Meanings_countName_62 rI_160 p4 ?_
      exact k_ret d_Meanings_countName_63 h
    have pb8 := pt7
    refine k_ifeq d_Meanings_countName_38 rfl (fun c9 => ?_) (fun c9 => ?_)
    · have hV10 := k_eqI (if_pos c9) hV6
      refine k_iconst d_Meanings_countName_60 cI_0 ?_
      exact hV10
    · have pb8 := pb8 c9
      have hV11 := k_eqI (if_neg c9) hV6
      have pb12 := pb8
      refine k_iload_n d_Meanings_countName_41 rfl ?_
      refine k_bipush d_Meanings_countName_42 cB_7 ?_
      refine k_iceq d_Meanings_countName_44 rfl (fun c13 => ?_) (fun c13 => ?_)
      · have hV14 := k_eqI (if_pos c13) hV11
        refine k_iconst d_Meanings_countName_60 cI_0 ?_
        exact hV14
      · have pb12 := pb12 c13
        have hV15 := k_eqI (if_neg c13) hV11
        have p3 := pb12
        refine k_aload_n d_Meanings_countName_47 rfl ?_
        refine k_getR d_Meanings_countName_48 fl_10_31 ob_10 rfl ?_
        refine k_iload_n d_Meanings_countName_51 rfl ?_
        refine k_ild (x := (σ1.2 158 (Int.toNat v2))) d_Meanings_countName_52 rI_158 p3 rfl ?_
        refine k_ifne d_Meanings_countName_53 rfl (fun c16 => ?_) (fun c16 => ?_)
        · have hV18 := k_eqI (if_neg c16) hV15
          refine k_iconst d_Meanings_countName_60 cI_0 ?_
          exact hV18
        · have hV17 := k_eqI (if_pos c16) hV15
          refine k_iconst d_Meanings_countName_56 cI_1 ?_
          refine k_goto d_Meanings_countName_57 rfl ?_
          exact hV17
  refine k_icne d_Meanings_countName_20 rfl (fun c23 => ?_) (fun c23 => ?_)
  · have hV25 := k_eqI (if_neg c23) hV22
    refine k_iconst d_Meanings_countName_27 cI_0 ?_
    exact hV25
  · have hV24 := k_eqI (if_pos c23) hV22
    refine k_iconst d_Meanings_countName_23 cI_1 ?_
    refine k_goto d_Meanings_countName_24 rfl ?_
    exact hV24
theorem d_Meanings_hasBefore_0 : decode b_Meanings_hasBefore 0 = .ok (.aload_n 0, 1) := by decide +kernel
theorem d_Meanings_hasBefore_1 : decode b_Meanings_hasBefore 1 = .ok (.getfield 15, 3) := by decide +kernel
theorem d_Meanings_hasBefore_4 : decode b_Meanings_hasBefore 4 = .ok (.getfield 127, 3) := by decide +kernel
theorem d_Meanings_hasBefore_7 : decode b_Meanings_hasBefore 7 = .ok (.iload_n 1, 1) := by decide +kernel
theorem d_Meanings_hasBefore_8 : decode b_Meanings_hasBefore 8 = .ok (.iaload, 1) := by decide +kernel
theorem d_Meanings_hasBefore_9 : decode b_Meanings_hasBefore 9 = .ok (.istore_n 3, 1) := by decide +kernel
theorem d_Meanings_hasBefore_10 : decode b_Meanings_hasBefore 10 = .ok (.iload_n 3, 1) := by decide +kernel
theorem d_Meanings_hasBefore_11 : decode b_Meanings_hasBefore 11 = .ok (.iload_n 2, 1) := by decide +kernel
theorem d_Meanings_hasBefore_12 : decode b_Meanings_hasBefore 12 = .ok (.if_icmp .ge 37, 3) := by decide +kernel
theorem d_Meanings_hasBefore_15 : decode b_Meanings_hasBefore 15 = .ok (.aload_n 0, 1) := by decide +kernel
theorem d_Meanings_hasBefore_16 : decode b_Meanings_hasBefore 16 = .ok (.iload_n 3, 1) := by decide +kernel
theorem d_Meanings_hasBefore_17 : decode b_Meanings_hasBefore 17 = .ok (.invokevirtual 146, 3) := by decide +kernel
theorem d_Meanings_hasBefore_20 : decode b_Meanings_hasBefore 20 = .ok (.aload_n 0, 1) := by decide +kernel
theorem d_Meanings_hasBefore_21 : decode b_Meanings_hasBefore 21 = .ok (.iload_n 2, 1) := by decide +kernel
theorem d_Meanings_hasBefore_22 : decode b_Meanings_hasBefore 22 = .ok (.invokevirtual 146, 3) := by decide +kernel
theorem d_Meanings_hasBefore_25 : decode b_Meanings_hasBefore 25 = .ok (.if_icmp .ne 18, 3) := by decide +kernel
theorem d_Meanings_hasBefore_28 : decode b_Meanings_hasBefore 28 = .ok (.aload_n 0, 1) := by decide +kernel
theorem d_Meanings_hasBefore_29 : decode b_Meanings_hasBefore 29 = .ok (.iload_n 3, 1) := by decide +kernel
theorem d_Meanings_hasBefore_30 : decode b_Meanings_hasBefore 30 = .ok (.invokevirtual 139, 3) := by decide +kernel
theorem d_Meanings_hasBefore_33 : decode b_Meanings_hasBefore 33 = .ok (.aload_n 0, 1) := by decide +kernel
theorem d_Meanings_hasBefore_34 : decode b_Meanings_hasBefore 34 = .ok (.iload_n 2, 1) := by decide +kernel
theorem d_Meanings_hasBefore_35 : decode b_Meanings_hasBefore 35 = .ok (.invokevirtual 139, 3) := by decide +kernel
theorem d_Meanings_hasBefore_38 : decode b_Meanings_hasBefore 38 = .ok (.if_icmp .ne 5, 3) := by decide +kernel
theorem d_Meanings_hasBefore_41 : decode b_Meanings_hasBefore 41 = .ok (.iconst 1, 1) := by decide +kernel
theorem d_Meanings_hasBefore_42 : decode b_Meanings_hasBefore 42 = .ok (.ireturn, 1) := by decide +kernel
theorem d_Meanings_hasBefore_43 : decode b_Meanings_hasBefore 43 = .ok (.iinc 3 1, 3) := by decide +kernel
theorem d_Meanings_hasBefore_46 : decode b_Meanings_hasBefore 46 = .ok (.goto (-36), 3) := by decide +kernel
theorem d_Meanings_hasBefore_49 : decode b_Meanings_hasBefore 49 = .ok (.iconst 0, 1) := by decide +kernel
theorem d_Meanings_hasBefore_50 : decode b_Meanings_hasBefore 50 = .ok (.ireturn, 1) := by decide +kernel
/-- Meanings_hasBefore -/
def w_Meanings_hasBefore (L : Nat → Nat) (a1 : Int) (a2 : Int) (Q : Int → IS → Prop) (σ : IS) : Prop := inL L 130 a1 ∧ WL (fun (K1 : Int → IS → Prop) (s3 : Int) (σ4 : IS) => if s3 < a2 then w_Meanings_local L s3 (fun v7 σ6 => w_Meanings_local L a2 (fun v9 σ8 => WJ (fun (s12 : Unit) (σ13 : IS) => inR (s3 + 1) ∧ K1 (s3 + 1) σ13) (fun J10 => if v7 = v9 then w_Meanings_meaning L s3 (fun v17 σ16 => w_Meanings_meaning L a2 (fun v19 σ18 => if v17 = v19 then Q 1 σ18 else J10 () σ18) σ16) σ8 else J10 () σ8)) σ6) σ4 else Q 0 σ4) (σ.2 130 (Int.toNat a1)) σ
set_option maxHeartbeats 4000000 in
set_option maxRecDepth 20000 in
theorem s_Meanings_hasBefore {L : Nat → Nat} (hL : ∀ r, L r < 2147483648) {d : Nat} (hd : 2 ≤ d) {a1 : Int} {a2 : Int} {Q : Int → IS → Prop} {σ : IS}  (h : w_Meanings_hasBefore L a1 a2 Q σ) : OkI BF L d 10 b_Meanings_hasBefore 4 2 0 [] [some (.inr 10), some (.inl a1), some (.inl a2)] σ (qi Q) := by
  unfold w_Meanings_hasBefore at h
  obtain ⟨d, rfl⟩ : ∃ e, d = e + 1 := ⟨d - 1, by omega⟩
  refine k_sb (lv' := [some (.inr 10), some (.inl a1), some (.inl a2), none]) (sb_s (sb_s (sb_s (sb_e sb_nil)))) ?_
  refine k_aload_n d_Meanings_hasBefore_0 rfl ?_
  refine k_getR d_Meanings_hasBefore_1 fl_10_15 ob_10 rfl ?_
  refine k_getR d_Meanings_hasBefore_4 fl_10_127 ob_6 rfl ?_
  refine k_iload_n d_Meanings_hasBefore_7 rfl ?_
  obtain ⟨p21, h⟩ := h
  refine k_ild (x := (σ.2 130 (Int.toNat a1))) d_Meanings_hasBefore_8 rI_130 p21 rfl ?_
  refine k_istore_n (lv' := [some (.inr 10), some (.inl a1), some (.inl a2), some (.inl (σ.2 130 (Int.toNat a1)))]) d_Meanings_hasBefore_9 rfl rfl ?_
  refine k_sb (lv' := [some (.inr 10), none, some (.inl a2), some (.inl (σ.2 130 (Int.toNat a1)))]) (sb_s (sb_n (sb_s (sb_s sb_nil)))) ?_
  refine k_loop (S := Int) (st := fun _ => []) (lv := fun s3 => [some (.inr 10), none, some (.inl a2), some (.inl s3)]) (fun K1 hK2 s3 σ4 h => ?_) (σ.2 130 (Int.toNat a1)) _ h
  refine k_iload_n d_Meanings_hasBefore_10 rfl ?_
  refine k_iload_n d_Meanings_hasBefore_11 rfl ?_
  refine k_icge d_Meanings_hasBefore_12 rfl (fun c5 => ?_) (fun c5 => ?_)
  · have h := ineg c5 h
    refine k_iconst d_Meanings_hasBefore_49 cI_0 ?_
    exact k_iret d_Meanings_hasBefore_50 (Or.inr ⟨rfl, Or.inl rfl⟩) h
  · have h := ipos c5 h
    refine k_aload_n d_Meanings_hasBefore_15 rfl ?_
    refine k_iload_n d_Meanings_hasBefore_16 rfl ?_
    refine k_cvi [.inl s3] d_Meanings_hasBefore_17 ml_10_146 rfl rfl ob_10 rfl (s_Meanings_local hL (by omega)  h) (fun v7 σ6 h => ?_)
    refine k_aload_n d_Meanings_hasBefore_20 rfl ?_
    refine k_iload_n d_Meanings_hasBefore_21 rfl ?_
    refine k_cvi [.inl a2] d_Meanings_hasBefore_22 ml_10_146 rfl rfl ob_10 rfl (s_Meanings_local hL (by omega)  h) (fun v9 σ8 h => ?_)
    refine k_join (S := Unit) (pc' := 43) (st' := fun s12 => []) (lv' := fun s12 => [some (.inr 10), none, some (.inl a2), some (.inl s3)]) (fun s12 σ13 h => ?_) (fun J10 hJ11 h => ?_) h
    · obtain ⟨p14, h⟩ := h
      refine k_iinc (lv' := [some (.inr 10), none, some (.inl a2), some (.inl (s3 + 1))]) d_Meanings_hasBefore_43 cI_1 rfl rfl p14 rfl ?_
      refine k_goto d_Meanings_hasBefore_46 rfl ?_
      exact k_sb (sb_s (sb_s (sb_s (sb_s sb_nil)))) (hK2 (s3 + 1) _ h)
    · refine k_icne d_Meanings_hasBefore_25 rfl (fun c15 => ?_) (fun c15 => ?_)
      · have h := ineg c15 h
        exact k_sb (sb_s (sb_s (sb_s (sb_s sb_nil)))) (hJ11 () _ h)
      · have h := ipos c15 h
        refine k_aload_n d_Meanings_hasBefore_28 rfl ?_
        refine k_iload_n d_Meanings_hasBefore_29 rfl ?_
        refine k_cvi [.inl s3] d_Meanings_hasBefore_30 ml_10_139 rfl rfl ob_10 rfl (s_Meanings_meaning hL (by omega)  h) (fun v17 σ16 h => ?_)
        refine k_aload_n d_Meanings_hasBefore_33 rfl ?_
        refine k_iload_n d_Meanings_hasBefore_34 rfl ?_
        refine k_cvi [.inl a2] d_Meanings_hasBefore_35 ml_10_139 rfl rfl ob_10 rfl (s_Meanings_meaning hL (by omega)  h) (fun v19 σ18 h => ?_)
        refine k_icne d_Meanings_hasBefore_38 rfl (fun c20 => ?_) (fun c20 => ?_)
        · have h := ineg c20 h
          exact k_sb (sb_s (sb_s (sb_s (sb_s sb_nil)))) (hJ11 () _ h)
        · have h := ipos c20 h
          refine k_iconst d_Meanings_hasBefore_41 cI_1 ?_
          exact k_iret d_Meanings_hasBefore_42 (Or.inr ⟨rfl, Or.inr rfl⟩) h
theorem d_Meanings_countNames_0 : decode b_Meanings_countNames 0 = .ok (.aload_n 0, 1) := by decide +kernel
theorem d_Meanings_countNames_1 : decode b_Meanings_countNames 1 = .ok (.aload_n 0, 1) := by decide +kernel
theorem d_Meanings_countNames_2 : decode b_Meanings_countNames 2 = .ok (.getfield 15, 3) := by decide +kernel
theorem d_Meanings_countNames_5 : decode b_Meanings_countNames 5 = .ok (.getfield 92, 3) := by decide +kernel
theorem d_Meanings_countNames_8 : decode b_Meanings_countNames 8 = .ok (.iload_n 1, 1) := by decide +kernel
theorem d_Meanings_countNames_9 : decode b_Meanings_countNames 9 = .ok (.iaload, 1) := by decide +kernel
theorem d_Meanings_countNames_10 : decode b_Meanings_countNames 10 = .ok (.invokevirtual 136, 3) := by decide +kernel
theorem d_Meanings_countNames_13 : decode b_Meanings_countNames 13 = .ok (.aload_n 0, 1) := by decide +kernel
theorem d_Meanings_countNames_14 : decode b_Meanings_countNames 14 = .ok (.getfield 42, 3) := by decide +kernel
theorem d_Meanings_countNames_17 : decode b_Meanings_countNames 17 = .ok (.iconst 4, 1) := by decide +kernel
theorem d_Meanings_countNames_18 : decode b_Meanings_countNames 18 = .ok (.dup2, 1) := by decide +kernel
theorem d_Meanings_countNames_19 : decode b_Meanings_countNames 19 = .ok (.iaload, 1) := by decide +kernel
theorem d_Meanings_countNames_20 : decode b_Meanings_countNames 20 = .ok (.aload_n 0, 1) := by decide +kernel
theorem d_Meanings_countNames_21 : decode b_Meanings_countNames 21 = .ok (.aload_n 0, 1) := by decide +kernel
theorem d_Meanings_countNames_22 : decode b_Meanings_countNames 22 = .ok (.getfield 15, 3) := by decide +kernel
theorem d_Meanings_countNames_25 : decode b_Meanings_countNames 25 = .ok (.getfield 92, 3) := by decide +kernel
theorem d_Meanings_countNames_28 : decode b_Meanings_countNames 28 = .ok (.iload_n 1, 1) := by decide +kernel
theorem d_Meanings_countNames_29 : decode b_Meanings_countNames 29 = .ok (.iaload, 1) := by decide +kernel
theorem d_Meanings_countNames_30 : decode b_Meanings_countNames 30 = .ok (.invokevirtual 120, 3) := by decide +kernel
theorem d_Meanings_countNames_33 : decode b_Meanings_countNames 33 = .ok (.bipush 7, 2) := by decide +kernel
theorem d_Meanings_countNames_35 : decode b_Meanings_countNames 35 = .ok (.if_icmp .ne 7, 3) := by decide +kernel
theorem d_Meanings_countNames_38 : decode b_Meanings_countNames 38 = .ok (.iconst 1, 1) := by decide +kernel
theorem d_Meanings_countNames_39 : decode b_Meanings_countNames 39 = .ok (.goto 4, 3) := by decide +kernel
theorem d_Meanings_countNames_42 : decode b_Meanings_countNames 42 = .ok (.iconst 0, 1) := by decide +kernel
theorem d_Meanings_countNames_43 : decode b_Meanings_countNames 43 = .ok (.iadd, 1) := by decide +kernel
theorem d_Meanings_countNames_44 : decode b_Meanings_countNames 44 = .ok (.iastore, 1) := by decide +kernel
theorem d_Meanings_countNames_45 : decode b_Meanings_countNames 45 = .ok (.aload_n 0, 1) := by decide +kernel
theorem d_Meanings_countNames_46 : decode b_Meanings_countNames 46 = .ok (.getfield 15, 3) := by decide +kernel
theorem d_Meanings_countNames_49 : decode b_Meanings_countNames 49 = .ok (.getfield 127, 3) := by decide +kernel
theorem d_Meanings_countNames_52 : decode b_Meanings_countNames 52 = .ok (.iload_n 1, 1) := by decide +kernel
theorem d_Meanings_countNames_53 : decode b_Meanings_countNames 53 = .ok (.iaload, 1) := by decide +kernel
theorem d_Meanings_countNames_54 : decode b_Meanings_countNames 54 = .ok (.istore_n 2, 1) := by decide +kernel
theorem d_Meanings_countNames_55 : decode b_Meanings_countNames 55 = .ok (.iload_n 2, 1) := by decide +kernel
theorem d_Meanings_countNames_56 : decode b_Meanings_countNames 56 = .ok (.aload_n 0, 1) := by decide +kernel
theorem d_Meanings_countNames_57 : decode b_Meanings_countNames 57 = .ok (.getfield 15, 3) := by decide +kernel
theorem d_Meanings_countNames_60 : decode b_Meanings_countNames 60 = .ok (.getfield 127, 3) := by decide +kernel
theorem d_Meanings_countNames_63 : decode b_Meanings_countNames 63 = .ok (.iload_n 1, 1) := by decide +kernel
theorem d_Meanings_countNames_64 : decode b_Meanings_countNames 64 = .ok (.iaload, 1) := by decide +kernel
theorem d_Meanings_countNames_65 : decode b_Meanings_countNames 65 = .ok (.aload_n 0, 1) := by decide +kernel
theorem d_Meanings_countNames_66 : decode b_Meanings_countNames 66 = .ok (.getfield 15, 3) := by decide +kernel
theorem d_Meanings_countNames_69 : decode b_Meanings_countNames 69 = .ok (.getfield 130, 3) := by decide +kernel
theorem d_Meanings_countNames_72 : decode b_Meanings_countNames 72 = .ok (.iload_n 1, 1) := by decide +kernel
theorem d_Meanings_countNames_73 : decode b_Meanings_countNames 73 = .ok (.iaload, 1) := by decide +kernel
theorem d_Meanings_countNames_74 : decode b_Meanings_countNames 74 = .ok (.iadd, 1) := by decide +kernel
theorem d_Meanings_countNames_75 : decode b_Meanings_countNames 75 = .ok (.if_icmp .ge 49, 3) := by decide +kernel
theorem d_Meanings_countNames_78 : decode b_Meanings_countNames 78 = .ok (.aload_n 0, 1) := by decide +kernel
theorem d_Meanings_countNames_79 : decode b_Meanings_countNames 79 = .ok (.aload_n 0, 1) := by decide +kernel
theorem d_Meanings_countNames_80 : decode b_Meanings_countNames 80 = .ok (.getfield 15, 3) := by decide +kernel
theorem d_Meanings_countNames_83 : decode b_Meanings_countNames 83 = .ok (.getfield 34, 3) := by decide +kernel
theorem d_Meanings_countNames_86 : decode b_Meanings_countNames 86 = .ok (.iload_n 2, 1) := by decide +kernel
theorem d_Meanings_countNames_87 : decode b_Meanings_countNames 87 = .ok (.iaload, 1) := by decide +kernel
theorem d_Meanings_countNames_88 : decode b_Meanings_countNames 88 = .ok (.invokevirtual 136, 3) := by decide +kernel
theorem d_Meanings_countNames_91 : decode b_Meanings_countNames 91 = .ok (.aload_n 0, 1) := by decide +kernel
theorem d_Meanings_countNames_92 : decode b_Meanings_countNames 92 = .ok (.iload_n 2, 1) := by decide +kernel
theorem d_Meanings_countNames_93 : decode b_Meanings_countNames 93 = .ok (.invokevirtual 139, 3) := by decide +kernel
theorem d_Meanings_countNames_96 : decode b_Meanings_countNames 96 = .ok (.ifCond .eq 22, 3) := by decide +kernel
theorem d_Meanings_countNames_99 : decode b_Meanings_countNames 99 = .ok (.aload_n 0, 1) := by decide +kernel
theorem d_Meanings_countNames_100 : decode b_Meanings_countNames 100 = .ok (.iload_n 1, 1) := by decide +kernel
theorem d_Meanings_countNames_101 : decode b_Meanings_countNames 101 = .ok (.iload_n 2, 1) := by decide +kernel
theorem d_Meanings_countNames_102 : decode b_Meanings_countNames 102 = .ok (.invokevirtual 142, 3) := by decide +kernel
theorem d_Meanings_countNames_105 : decode b_Meanings_countNames 105 = .ok (.ifCond .eq 13, 3) := by decide +kernel
theorem d_Meanings_countNames_108 : decode b_Meanings_countNames 108 = .ok (.aload_n 0, 1) := by decide +kernel
theorem d_Meanings_countNames_109 : decode b_Meanings_countNames 109 = .ok (.getfield 42, 3) := by decide +kernel
theorem d_Meanings_countNames_112 : decode b_Meanings_countNames 112 = .ok (.iconst 2, 1) := by decide +kernel
theorem d_Meanings_countNames_113 : decode b_Meanings_countNames 113 = .ok (.dup2, 1) := by decide +kernel
theorem d_Meanings_countNames_114 : decode b_Meanings_countNames 114 = .ok (.iaload, 1) := by decide +kernel
theorem d_Meanings_countNames_115 : decode b_Meanings_countNames 115 = .ok (.iconst 1, 1) := by decide +kernel
theorem d_Meanings_countNames_116 : decode b_Meanings_countNames 116 = .ok (.iadd, 1) := by decide +kernel
theorem d_Meanings_countNames_117 : decode b_Meanings_countNames 117 = .ok (.iastore, 1) := by decide +kernel
theorem d_Meanings_countNames_118 : decode b_Meanings_countNames 118 = .ok (.iinc 2 1, 3) := by decide +kernel
theorem d_Meanings_countNames_121 : decode b_Meanings_countNames 121 = .ok (.goto (-66), 3) := by decide +kernel
theorem d_Meanings_countNames_124 : decode b_Meanings_countNames 124 = .ok (.return_, 1) := by decide +kernel
/-- Meanings_countNames -/
def w_Meanings_countNames (L : Nat → Nat) (a1 : Int) (Q : IS → Prop) (σ : IS) : Prop := inL L 146 a1 ∧ w_Meanings_countName L (σ.2 146 (Int.toNat a1)) (fun σ1 => inL L 160 4 ∧ inL L 146 a1 ∧ w_Meanings_prefix L (σ1.2 146 (Int.toNat a1)) (fun v4 σ3 => inR ((σ1.2 160 (Int.toNat 4)) + (if v4 = 7 then (1 : Int) else (0 : Int))) ∧ inL L 160 4 ∧ inL L 130 a1 ∧ WL (fun (K5 : Int → IS → Prop) (s7 : Int) (σ8 : IS) => inL L 130 a1 ∧ inL L 131 a1 ∧ inR ((σ8.2 130 (Int.toNat a1)) + (σ8.2 131 (Int.toNat a1))) ∧ if s7 < ((σ8.2 130 (Int.toNat a1)) + (σ8.2 131 (Int.toNat a1))) then inL L 161 s7 ∧ w_Meanings_countName L (σ8.2 161 (Int.toNat s7)) (fun σ10 => w_Meanings_meaning L s7 (fun v13 σ12 => WJ (fun (s16 : Unit) (σ17 : IS) => inR (s7 + 1) ∧ K5 (s7 + 1) σ17) (fun J14 => if v13 = 0 then J14 () σ12 else w_Meanings_hasBefore L a1 s7 (fun v21 σ20 => if v21 = 0 then J14 () σ20 else inL L 160 2 ∧ inR ((σ20.2 160 (Int.toNat 2)) + 1) ∧ inL L 160 2 ∧ J14 () (pr σ20 160 (Int.toNat 2) ((σ20.2 160 (Int.toNat 2)) + 1))) σ12)) σ10) σ8 else Q σ8) (σ3.2 130 (Int.toNat a1)) (pr σ3 160 (Int.toNat 4) ((σ1.2 160 (Int.toNat 4)) + (if v4 = 7 then (1 : Int) else (0 : Int))))) σ1) σ
set_option maxHeartbeats 4000000 in
set_option maxRecDepth 20000 in
theorem s_Meanings_countNames {L : Nat → Nat} (hL : ∀ r, L r < 2147483648) {d : Nat} (hd : 3 ≤ d) {a1 : Int} {Q : IS → Prop} {σ : IS}  (h : w_Meanings_countNames L a1 Q σ) : OkI BF L d 10 b_Meanings_countNames 3 0 0 [] [some (.inr 10), some (.inl a1)] σ (qv Q) := by
  unfold w_Meanings_countNames at h
  obtain ⟨d, rfl⟩ : ∃ e, d = e + 1 := ⟨d - 1, by omega⟩
  refine k_sb (lv' := [some (.inr 10), some (.inl a1), none]) (sb_s (sb_s (sb_e sb_nil))) ?_
  refine k_aload_n d_Meanings_countNames_0 rfl ?_
  refine k_aload_n d_Meanings_countNames_1 rfl ?_
  refine k_getR d_Meanings_countNames_2 fl_10_15 ob_10 rfl ?_
  refine k_getR d_Meanings_countNames_5 fl_10_92 ob_6 rfl ?_
  refine k_iload_n d_Meanings_countNames_8 rfl ?_
  obtain ⟨p39, h⟩ := h
  refine k_ild (x := (σ.2 146 (Int.toNat a1))) d_Meanings_countNames_9 rI_146 p39 rfl ?_
  refine k_cvv [.inl (σ.2 146 (Int.toNat a1))] d_Meanings_countNames_10 ml_10_136 rfl rfl ob_10 rfl (s_Meanings_countName hL (by omega)  h) (fun σ1 h => ?_)
  refine k_aload_n d_Meanings_countNames_13 rfl ?_
  refine k_getR d_Meanings_countNames_14 fl_10_42 ob_10 rfl ?_
  refine k_iconst d_Meanings_countNames_17 cI_4 ?_
  refine k_dup2 d_Meanings_countNames_18 ?_
  obtain ⟨p38, h⟩ := h
  refine k_ild (x := (σ1.2 160 (Int.toNat 4))) d_Meanings_countNames_19 rI_160 p38 rfl ?_
  refine k_aload_n d_Meanings_countNames_20 rfl ?_
  refine k_aload_n d_Meanings_countNames_21 rfl ?_
  refine k_getR d_Meanings_countNames_22 fl_10_15 ob_10 rfl ?_
  refine k_getR d_Meanings_countNames_25 fl_10_92 ob_6 rfl ?_
  refine k_iload_n d_Meanings_countNames_28 rfl ?_
  obtain ⟨p37, h⟩ := h
  refine k_ild (x := (σ1.2 146 (Int.toNat a1))) d_Meanings_countNames_29 rI_146 p37 rfl ?_
  refine k_cvi [.inl (σ1.2 146 (Int.toNat a1))] d_Meanings_countNames_30 ml_10_120 rfl rfl ob_10 rfl (s_Meanings_prefix hL (by omega)  h) (fun v4 σ3 h => ?_)
  refine k_bipush d_Meanings_countNames_33 cB_7 ?_
  have hV33 : OkI BF L (d + 1) 10 b_Meanings_countNames 3 0 43 [.inl (if v4 = 7 then (1 : Int) else (0 : Int)), .inl (σ1.2 160 (Int.toNat 4)), .inl 4, .inr 160] [some (.inr 10), some (.inl a1), none] σ3 (qv Q) := by
    obtain ⟨p32, h⟩ := h
    refine k_iadd d_Meanings_countNames_43 p32 ?_
    obtain ⟨p31, h⟩ := h
    refine k_ist d_Meanings_countNames_44 rI_160 p31 ?_
    refine k_aload_n d_Meanings_countNames_45 rfl ?_
    refine k_getR d_Meanings_countNames_46 fl_10_15 ob_10 rfl ?_
    refine k_getR d_Meanings_countNames_49 fl_10_127 ob_6 rfl ?_
    refine k_iload_n d_Meanings_countNames_52 rfl ?_
    obtain ⟨p30, h⟩ := h
    refine k_ild (x := (σ3.2 130 (Int.toNat a1))) d_Meanings_countNames_53 rI_130 p30 rfl ?_
    refine k_istore_n (lv' := [some (.inr 10), some (.inl a1), some (.inl (σ3.2 130 (Int.toNat a1)))]) d_Meanings_countNames_54 rfl rfl ?_
    refine k_sb (lv' := [some (.inr 10), some (.inl a1), some (.inl (σ3.2 130 (Int.toNat a1)))]) (sb_s (sb_s (sb_s sb_nil))) ?_
    refine k_loop (S := Int) (st := fun _ => []) (lv := fun s7 => [some (.inr 10), some (.inl a1), some (.inl s7)]) (fun K5 hK6 s7 σ8 h => ?_) (σ3.2 130 (Int.toNat a1)) _ h
    refine k_iload_n d_Meanings_countNames_55 rfl ?_
    refine k_aload_n d_Meanings_countNames_56 rfl ?_
    refine k_getR d_Meanings_countNames_57 fl_10_15 ob_10 rfl ?_
    refine k_getR d_Meanings_countNames_60 fl_10_127 ob_6 rfl ?_
    refine k_iload_n d_Meanings_countNames_63 rfl ?_
    obtain ⟨p29, h⟩ := h
    refine k_ild (x := (σ8.2 130 (Int.toNat a1))) d_Meanings_countNames_64 rI_130 p29 rfl ?_
    refine k_aload_n d_Meanings_countNames_65 rfl ?_
    refine k_getR d_Meanings_countNames_66 fl_10_15 ob_10 rfl ?_
    refine k_getR d_Meanings_countNames_69 fl_10_130 ob_6 rfl ?_
    refine k_iload_n d_Meanings_countNames_72 rfl ?_
    obtain ⟨p28, h⟩ := h
    refine k_ild (x := (σ8.2 131 (Int.toNat a1))) d_Meanings_countNames_73 rI_131 p28 rfl ?_
    obtain ⟨p27, h⟩ := h
    refine k_iadd d_Meanings_countNames_74 p27 ?_
    refine k_icge d_Meanings_countNames_75 rfl (fun c9 => ?_) (fun c9 => ?_)
    · have h := ineg c9 h
      exact k_ret d_Meanings_countNames_124 h
    · have h := ipos c9 h
      refine k_aload_n d_Meanings_countNames_78 rfl ?_
      refine k_aload_n d_Meanings_countNames_79 rfl ?_
      refine k_getR d_Meanings_countNames_80 fl_10_15 ob_10 rfl ?_
      refine k_getR d_Meanings_countNames_83 fl_10_34 ob_6 rfl ?_
      refine k_iload_n d_Meanings_countNames_86 rfl ?_
      obtain ⟨p26, h⟩ := h
      refine k_ild (x := (σ8.2 161 (Int.toNat s7))) d_Meanings_countNames_87 rI_161 p26 rfl ?_
      refine k_cvv [.inl (σ8.2 161 (Int.toNat s7))] d_Meanings_countNames_88 ml_10_136 rfl rfl ob_10 rfl (s_Meanings_countName hL (by omega)  h) (fun σ10 h => ?_)
      refine k_aload_n d_Meanings_countNames_91 rfl ?_
      refine k_iload_n d_Meanings_countNames_92 rfl ?_
      refine k_cvi [.inl s7] d_Meanings_countNames_93 ml_10_139 rfl rfl ob_10 rfl (s_Meanings_meaning hL (by omega)  h) (fun v13 σ12 h => ?_)
      refine k_join (S := Unit) (pc' := 118) (st' := fun s16 => []) (lv' := fun s16 => [some (.inr 10), some (.inl a1), some (.inl s7)]) (fun s16 σ17 h => ?_) (fun J14 hJ15 h => ?_) h
      · obtain ⟨p18, h⟩ := h
        refine k_iinc (lv' := [some (.inr 10), some (.inl a1), some (.inl (s7 + 1))]) d_Meanings_countNames_118 cI_1 rfl rfl p18 rfl ?_
        refine k_goto d_Meanings_countNames_121 rfl ?_
        exact k_sb (sb_s (sb_s (sb_s sb_nil))) (hK6 (s7 + 1) _ h)
      · refine k_ifeq d_Meanings_countNames_96 rfl (fun c19 => ?_) (fun c19 => ?_)
        · have h := ipos c19 h
          exact k_sb (sb_s (sb_s (sb_s sb_nil))) (hJ15 () _ h)
        · have h := ineg c19 h
          refine k_aload_n d_Meanings_countNames_99 rfl ?_
          refine k_iload_n d_Meanings_countNames_100 rfl ?_
          refine k_iload_n d_Meanings_countNames_101 rfl ?_
          refine k_cvi [.inl a1, .inl s7] d_Meanings_countNames_102 ml_10_142 rfl rfl ob_10 rfl (s_Meanings_hasBefore hL (by omega)  h) (fun v21 σ20 h => ?_)
          refine k_ifeq d_Meanings_countNames_105 rfl (fun c22 => ?_) (fun c22 => ?_)
          · have h := ipos c22 h
            exact k_sb (sb_s (sb_s (sb_s sb_nil))) (hJ15 () _ h)
          · have h := ineg c22 h
            refine k_aload_n d_Meanings_countNames_108 rfl ?_
            refine k_getR d_Meanings_countNames_109 fl_10_42 ob_10 rfl ?_
            refine k_iconst d_Meanings_countNames_112 cI_2 ?_
            refine k_dup2 d_Meanings_countNames_113 ?_
            obtain ⟨p25, h⟩ := h
            refine k_ild (x := (σ20.2 160 (Int.toNat 2))) d_Meanings_countNames_114 rI_160 p25 rfl ?_
            refine k_iconst d_Meanings_countNames_115 cI_1 ?_
            obtain ⟨p24, h⟩ := h
            refine k_iadd d_Meanings_countNames_116 p24 ?_
            obtain ⟨p23, h⟩ := h
            refine k_ist d_Meanings_countNames_117 rI_160 p23 ?_
            exact k_sb (sb_s (sb_s (sb_s sb_nil))) (hJ15 () _ h)
  refine k_icne d_Meanings_countNames_35 rfl (fun c34 => ?_) (fun c34 => ?_)
  · have hV36 := k_eqI (if_neg c34) hV33
    refine k_iconst d_Meanings_countNames_42 cI_0 ?_
    exact hV36
  · have hV35 := k_eqI (if_pos c34) hV33
    refine k_iconst d_Meanings_countNames_38 cI_1 ?_
    refine k_goto d_Meanings_countNames_39 rfl ?_
    exact hV35
theorem d_Meanings_isAbsolute_0 : decode b_Meanings_isAbsolute 0 = .ok (.aload_n 0, 1) := by decide +kernel
theorem d_Meanings_isAbsolute_1 : decode b_Meanings_isAbsolute 1 = .ok (.getfield 9, 3) := by decide +kernel
theorem d_Meanings_isAbsolute_4 : decode b_Meanings_isAbsolute 4 = .ok (.iload_n 1, 1) := by decide +kernel
theorem d_Meanings_isAbsolute_5 : decode b_Meanings_isAbsolute 5 = .ok (.iconst 0, 1) := by decide +kernel
theorem d_Meanings_isAbsolute_6 : decode b_Meanings_isAbsolute 6 = .ok (.invokevirtual 104, 3) := by decide +kernel
theorem d_Meanings_isAbsolute_9 : decode b_Meanings_isAbsolute 9 = .ok (.invokestatic 152, 3) := by decide +kernel
theorem d_Meanings_isAbsolute_12 : decode b_Meanings_isAbsolute 12 = .ok (.ifCond .ne 5, 3) := by decide +kernel
theorem d_Meanings_isAbsolute_15 : decode b_Meanings_isAbsolute 15 = .ok (.iconst 0, 1) := by decide +kernel
theorem d_Meanings_isAbsolute_16 : decode b_Meanings_isAbsolute 16 = .ok (.ireturn, 1) := by decide +kernel
theorem d_Meanings_isAbsolute_17 : decode b_Meanings_isAbsolute 17 = .ok (.iconst 1, 1) := by decide +kernel
theorem d_Meanings_isAbsolute_18 : decode b_Meanings_isAbsolute 18 = .ok (.istore_n 2, 1) := by decide +kernel
theorem d_Meanings_isAbsolute_19 : decode b_Meanings_isAbsolute 19 = .ok (.iload_n 2, 1) := by decide +kernel
theorem d_Meanings_isAbsolute_20 : decode b_Meanings_isAbsolute 20 = .ok (.aload_n 0, 1) := by decide +kernel
theorem d_Meanings_isAbsolute_21 : decode b_Meanings_isAbsolute 21 = .ok (.getfield 9, 3) := by decide +kernel
theorem d_Meanings_isAbsolute_24 : decode b_Meanings_isAbsolute 24 = .ok (.getfield 101, 3) := by decide +kernel
theorem d_Meanings_isAbsolute_27 : decode b_Meanings_isAbsolute 27 = .ok (.iload_n 1, 1) := by decide +kernel
theorem d_Meanings_isAbsolute_28 : decode b_Meanings_isAbsolute 28 = .ok (.iaload, 1) := by decide +kernel
theorem d_Meanings_isAbsolute_29 : decode b_Meanings_isAbsolute 29 = .ok (.if_icmp .ge 61, 3) := by decide +kernel
theorem d_Meanings_isAbsolute_32 : decode b_Meanings_isAbsolute 32 = .ok (.aload_n 0, 1) := by decide +kernel
theorem d_Meanings_isAbsolute_33 : decode b_Meanings_isAbsolute 33 = .ok (.getfield 9, 3) := by decide +kernel
theorem d_Meanings_isAbsolute_36 : decode b_Meanings_isAbsolute 36 = .ok (.iload_n 1, 1) := by decide +kernel
theorem d_Meanings_isAbsolute_37 : decode b_Meanings_isAbsolute 37 = .ok (.iload_n 2, 1) := by decide +kernel
theorem d_Meanings_isAbsolute_38 : decode b_Meanings_isAbsolute 38 = .ok (.invokevirtual 104, 3) := by decide +kernel
theorem d_Meanings_isAbsolute_41 : decode b_Meanings_isAbsolute 41 = .ok (.istore_n 3, 1) := by decide +kernel
theorem d_Meanings_isAbsolute_42 : decode b_Meanings_isAbsolute 42 = .ok (.iload_n 3, 1) := by decide +kernel
theorem d_Meanings_isAbsolute_43 : decode b_Meanings_isAbsolute 43 = .ok (.bipush 58, 2) := by decide +kernel
theorem d_Meanings_isAbsolute_45 : decode b_Meanings_isAbsolute 45 = .ok (.if_icmp .ne 5, 3) := by decide +kernel
theorem d_Meanings_isAbsolute_48 : decode b_Meanings_isAbsolute 48 = .ok (.iconst 1, 1) := by decide +kernel
theorem d_Meanings_isAbsolute_49 : decode b_Meanings_isAbsolute 49 = .ok (.ireturn, 1) := by decide +kernel
theorem d_Meanings_isAbsolute_50 : decode b_Meanings_isAbsolute 50 = .ok (.iload_n 3, 1) := by decide +kernel
theorem d_Meanings_isAbsolute_51 : decode b_Meanings_isAbsolute 51 = .ok (.invokestatic 152, 3) := by decide +kernel
theorem d_Meanings_isAbsolute_54 : decode b_Meanings_isAbsolute 54 = .ok (.ifCond .ne 30, 3) := by decide +kernel
theorem d_Meanings_isAbsolute_57 : decode b_Meanings_isAbsolute 57 = .ok (.iload_n 3, 1) := by decide +kernel
theorem d_Meanings_isAbsolute_58 : decode b_Meanings_isAbsolute 58 = .ok (.invokestatic 155, 3) := by decide +kernel
theorem d_Meanings_isAbsolute_61 : decode b_Meanings_isAbsolute 61 = .ok (.ifCond .ne 23, 3) := by decide +kernel
theorem d_Meanings_isAbsolute_64 : decode b_Meanings_isAbsolute 64 = .ok (.iload_n 3, 1) := by decide +kernel
theorem d_Meanings_isAbsolute_65 : decode b_Meanings_isAbsolute 65 = .ok (.bipush 43, 2) := by decide +kernel
theorem d_Meanings_isAbsolute_67 : decode b_Meanings_isAbsolute 67 = .ok (.if_icmp .eq 17, 3) := by decide +kernel
theorem d_Meanings_isAbsolute_70 : decode b_Meanings_isAbsolute 70 = .ok (.iload_n 3, 1) := by decide +kernel
theorem d_Meanings_isAbsolute_71 : decode b_Meanings_isAbsolute 71 = .ok (.bipush 45, 2) := by decide +kernel
theorem d_Meanings_isAbsolute_73 : decode b_Meanings_isAbsolute 73 = .ok (.if_icmp .eq 11, 3) := by decide +kernel
theorem d_Meanings_isAbsolute_76 : decode b_Meanings_isAbsolute 76 = .ok (.iload_n 3, 1) := by decide +kernel
theorem d_Meanings_isAbsolute_77 : decode b_Meanings_isAbsolute 77 = .ok (.bipush 46, 2) := by decide +kernel
theorem d_Meanings_isAbsolute_79 : decode b_Meanings_isAbsolute 79 = .ok (.if_icmp .eq 5, 3) := by decide +kernel
theorem d_Meanings_isAbsolute_82 : decode b_Meanings_isAbsolute 82 = .ok (.iconst 0, 1) := by decide +kernel
theorem d_Meanings_isAbsolute_83 : decode b_Meanings_isAbsolute 83 = .ok (.ireturn, 1) := by decide +kernel
theorem d_Meanings_isAbsolute_84 : decode b_Meanings_isAbsolute 84 = .ok (.iinc 2 1, 3) := by decide +kernel
theorem d_Meanings_isAbsolute_87 : decode b_Meanings_isAbsolute 87 = .ok (.goto (-68), 3) := by decide +kernel
theorem d_Meanings_isAbsolute_90 : decode b_Meanings_isAbsolute 90 = .ok (.iconst 0, 1) := by decide +kernel
theorem d_Meanings_isAbsolute_91 : decode b_Meanings_isAbsolute 91 = .ok (.ireturn, 1) := by decide +kernel
/-- Meanings_isAbsolute -/
def w_Meanings_isAbsolute (L : Nat → Nat) (a1 : Int) (Q : Int → IS → Prop) (σ : IS) : Prop := w_Store_letter L a1 0 (fun v2 σ1 => w_Reader_isLetter L v2 (fun v4 σ3 => if v4 = 0 then Q 0 σ3 else WL (fun (K6 : Int → IS → Prop) (s8 : Int) (σ9 : IS) => inL L 103 a1 ∧ if s8 < (σ9.2 103 (Int.toNat a1)) then w_Store_letter L a1 s8 (fun v12 σ11 => if v12 = 58 then Q 1 σ11 else w_Reader_isLetter L v12 (fun v15 σ14 => WJ (fun (s18 : Unit) (σ19 : IS) => inR (s8 + 1) ∧ K6 (s8 + 1) σ19) (fun J16 => if v15 = 0 then w_Reader_isDigit L v12 (fun v23 σ22 => if v23 = 0 ∧ (¬ v12 = 43 ∧ (¬ v12 = 45 ∧ (¬ v12 = 46))) then Q 0 σ22 else J16 () σ22) σ14 else J16 () σ14)) σ11) σ9 else Q 0 σ9) 1 σ3) σ1) σ
set_option maxHeartbeats 4000000 in
set_option maxRecDepth 20000 in
theorem s_Meanings_isAbsolute {L : Nat → Nat} (hL : ∀ r, L r < 2147483648) {d : Nat} (hd : 1 ≤ d) {a1 : Int} {Q : Int → IS → Prop} {σ : IS}  (h : w_Meanings_isAbsolute L a1 Q σ) : OkI BF L d 10 b_Meanings_isAbsolute 4 2 0 [] [some (.inr 10), some (.inl a1)] σ (qi Q) := by
  unfold w_Meanings_isAbsolute at h
  obtain ⟨d, rfl⟩ : ∃ e, d = e + 1 := ⟨d - 1, by omega⟩
  refine k_sb (lv' := [some (.inr 10), some (.inl a1), none, none]) (sb_s (sb_s (sb_e (sb_e sb_nil)))) ?_
  refine k_aload_n d_Meanings_isAbsolute_0 rfl ?_
  refine k_getR d_Meanings_isAbsolute_1 fl_10_9 ob_10 rfl ?_
  refine k_iload_n d_Meanings_isAbsolute_4 rfl ?_
  refine k_iconst d_Meanings_isAbsolute_5 cI_0 ?_
  refine k_cvi [.inl a1, .inl 0] d_Meanings_isAbsolute_6 ml_10_104 rfl rfl ob_1 rfl (s_Store_letter hL (by omega)  h) (fun v2 σ1 h => ?_)
  refine k_csi [.inl v2] d_Meanings_isAbsolute_9 ml_10_152 (Or.inl rfl) rfl rfl rfl (s_Reader_isLetter hL (by omega)  h) (fun v4 σ3 h => ?_)
  refine k_ifne d_Meanings_isAbsolute_12 rfl (fun c5 => ?_) (fun c5 => ?_)
  · have h := ineg c5 h
    refine k_iconst d_Meanings_isAbsolute_17 cI_1 ?_
    refine k_istore_n (lv' := [some (.inr 10), some (.inl a1), some (.inl 1), none]) d_Meanings_isAbsolute_18 rfl rfl ?_
    refine k_sb (lv' := [some (.inr 10), some (.inl a1), some (.inl 1), none]) (sb_s (sb_s (sb_s (sb_s sb_nil)))) ?_
    refine k_loop (S := Int) (st := fun _ => []) (lv := fun s8 => [some (.inr 10), some (.inl a1), some (.inl s8), none]) (fun K6 hK7 s8 σ9 h => ?_) 1 _ h
    refine k_iload_n d_Meanings_isAbsolute_19 rfl ?_
    refine k_aload_n d_Meanings_isAbsolute_20 rfl ?_
    refine k_getR d_Meanings_isAbsolute_21 fl_10_9 ob_10 rfl ?_
    refine k_getR d_Meanings_isAbsolute_24 fl_10_101 ob_1 rfl ?_
    refine k_iload_n d_Meanings_isAbsolute_27 rfl ?_
    obtain ⟨p31, h⟩ := h
    refine k_ild (x := (σ9.2 103 (Int.toNat a1))) d_Meanings_isAbsolute_28 rI_103 p31 rfl ?_
    refine k_icge d_Meanings_isAbsolute_29 rfl (fun c10 => ?_) (fun c10 => ?_)
    · have h := ineg c10 h
      refine k_iconst d_Meanings_isAbsolute_90 cI_0 ?_
      exact k_iret d_Meanings_isAbsolute_91 (Or.inr ⟨rfl, Or.inl rfl⟩) h
    · have h := ipos c10 h
      refine k_aload_n d_Meanings_isAbsolute_32 rfl ?_
      refine k_getR d_Meanings_isAbsolute_33 fl_10_9 ob_10 rfl ?_
      refine k_iload_n d_Meanings_isAbsolute_36 rfl ?_
      refine k_iload_n d_Meanings_isAbsolute_37 rfl ?_
      refine k_cvi [.inl a1, .inl s8] d_Meanings_isAbsolute_38 ml_10_104 rfl rfl ob_1 rfl (s_Store_letter hL (by omega)  h) (fun v12 σ11 h => ?_)
      refine k_istore_n (lv' := [some (.inr 10), some (.inl a1), some (.inl s8), some (.inl v12)]) d_Meanings_isAbsolute_41 rfl rfl ?_
      refine k_iload_n d_Meanings_isAbsolute_42 rfl ?_
      refine k_bipush d_Meanings_isAbsolute_43 cB_58 ?_
      refine k_icne d_Meanings_isAbsolute_45 rfl (fun c13 => ?_) (fun c13 => ?_)
      · have h := ineg c13 h
        refine k_iload_n d_Meanings_isAbsolute_50 rfl ?_
        refine k_csi [.inl v12] d_Meanings_isAbsolute_51 ml_10_152 (Or.inl rfl) rfl rfl rfl (s_Reader_isLetter hL (by omega)  h) (fun v15 σ14 h => ?_)
        refine k_join (S := Unit) (pc' := 84) (st' := fun s18 => []) (lv' := fun s18 => [some (.inr 10), some (.inl a1), some (.inl s8), none]) (fun s18 σ19 h => ?_) (fun J16 hJ17 h => ?_) h
        · obtain ⟨p20, h⟩ := h
          refine k_iinc (lv' := [some (.inr 10), some (.inl a1), some (.inl (s8 + 1)), none]) d_Meanings_isAbsolute_84 cI_1 rfl rfl p20 rfl ?_
          refine k_goto d_Meanings_isAbsolute_87 rfl ?_
          exact k_sb (sb_s (sb_s (sb_s (sb_s sb_nil)))) (hK7 (s8 + 1) _ h)
        · refine k_ifne d_Meanings_isAbsolute_54 rfl (fun c21 => ?_) (fun c21 => ?_)
          · have h := ineg c21 h
            exact k_sb (sb_s (sb_s (sb_s (sb_n sb_nil)))) (hJ17 () _ h)
          · have h := ipos c21 h
            refine k_iload_n d_Meanings_isAbsolute_57 rfl ?_
            refine k_csi [.inl v12] d_Meanings_isAbsolute_58 ml_10_155 (Or.inl rfl) rfl rfl rfl (s_Reader_isDigit hL (by omega)  h) (fun v23 σ22 h => ?_)
            have hX24 : (v23 = 0 ∧ (¬ v12 = 43 ∧ (¬ v12 = 45 ∧ (¬ v12 = 46)))) → OkI BF L (d + 1) 10 b_Meanings_isAbsolute 4 2 82 [] [some (.inr 10), some (.inl a1), some (.inl s8), some (.inl v12)] σ22 (qi Q) := fun e26 => by
              have h := ipos e26 h
              refine k_iconst d_Meanings_isAbsolute_82 cI_0 ?_
              exact k_iret d_Meanings_isAbsolute_83 (Or.inr ⟨rfl, Or.inl rfl⟩) h
            have hY25 : ¬ (v23 = 0 ∧ (¬ v12 = 43 ∧ (¬ v12 = 45 ∧ (¬ v12 = 46)))) → OkI BF L (d + 1) 10 b_Meanings_isAbsolute 4 2 84 [] [some (.inr 10), some (.inl a1), some (.inl s8), some (.inl v12)] σ22 (qi Q) := fun e26 => by
              have h := ineg e26 h
              exact k_sb (sb_s (sb_s (sb_s (sb_n sb_nil)))) (hJ17 () _ h)
            refine k_ifne d_Meanings_isAbsolute_61 rfl (fun c27 => ?_) (fun c27 => ?_)
            · exact hY25 (fun z => c27 z.1)
            · refine k_iload_n d_Meanings_isAbsolute_64 rfl ?_
              refine k_bipush d_Meanings_isAbsolute_65 cB_43 ?_
              refine k_iceq d_Meanings_isAbsolute_67 rfl (fun c28 => ?_) (fun c28 => ?_)
              · exact hY25 (fun z => (fun z => z.1 c28) z.2)
              · refine k_iload_n d_Meanings_isAbsolute_70 rfl ?_
                refine k_bipush d_Meanings_isAbsolute_71 cB_45 ?_
                refine k_iceq d_Meanings_isAbsolute_73 rfl (fun c29 => ?_) (fun c29 => ?_)
                · exact hY25 (fun z => (fun z => (fun z => z.1 c29) z.2) z.2)
                · refine k_iload_n d_Meanings_isAbsolute_76 rfl ?_
                  refine k_bipush d_Meanings_isAbsolute_77 cB_46 ?_
                  refine k_iceq d_Meanings_isAbsolute_79 rfl (fun c30 => ?_) (fun c30 => ?_)
                  · exact hY25 (fun z => (fun z => (fun z => (fun z => z c30) z.2) z.2) z.2)
                  · exact hX24 (⟨c27, ⟨c28, ⟨c29, c30⟩⟩⟩)
      · have h := ipos c13 h
        refine k_iconst d_Meanings_isAbsolute_48 cI_1 ?_
        exact k_iret d_Meanings_isAbsolute_49 (Or.inr ⟨rfl, Or.inr rfl⟩) h
  · have h := ipos c5 h
    refine k_iconst d_Meanings_isAbsolute_15 cI_0 ?_
    exact k_iret d_Meanings_isAbsolute_16 (Or.inr ⟨rfl, Or.inl rfl⟩) h
theorem d_Meanings_countDeclarations_0 : decode b_Meanings_countDeclarations 0 = .ok (.aload_n 0, 1) := by decide +kernel
theorem d_Meanings_countDeclarations_1 : decode b_Meanings_countDeclarations 1 = .ok (.getfield 15, 3) := by decide +kernel
theorem d_Meanings_countDeclarations_4 : decode b_Meanings_countDeclarations 4 = .ok (.getfield 127, 3) := by decide +kernel
theorem d_Meanings_countDeclarations_7 : decode b_Meanings_countDeclarations 7 = .ok (.iload_n 1, 1) := by decide +kernel
theorem d_Meanings_countDeclarations_8 : decode b_Meanings_countDeclarations 8 = .ok (.iaload, 1) := by decide +kernel
theorem d_Meanings_countDeclarations_9 : decode b_Meanings_countDeclarations 9 = .ok (.istore_n 3, 1) := by decide +kernel
theorem d_Meanings_countDeclarations_10 : decode b_Meanings_countDeclarations 10 = .ok (.iload_n 3, 1) := by decide +kernel
theorem d_Meanings_countDeclarations_11 : decode b_Meanings_countDeclarations 11 = .ok (.aload_n 0, 1) := by decide +kernel
theorem d_Meanings_countDeclarations_12 : decode b_Meanings_countDeclarations 12 = .ok (.getfield 15, 3) := by decide +kernel
theorem d_Meanings_countDeclarations_15 : decode b_Meanings_countDeclarations 15 = .ok (.getfield 127, 3) := by decide +kernel
theorem d_Meanings_countDeclarations_18 : decode b_Meanings_countDeclarations 18 = .ok (.iload_n 1, 1) := by decide +kernel
theorem d_Meanings_countDeclarations_19 : decode b_Meanings_countDeclarations 19 = .ok (.iaload, 1) := by decide +kernel
theorem d_Meanings_countDeclarations_20 : decode b_Meanings_countDeclarations 20 = .ok (.aload_n 0, 1) := by decide +kernel
theorem d_Meanings_countDeclarations_21 : decode b_Meanings_countDeclarations 21 = .ok (.getfield 15, 3) := by decide +kernel
theorem d_Meanings_countDeclarations_24 : decode b_Meanings_countDeclarations 24 = .ok (.getfield 130, 3) := by decide +kernel
theorem d_Meanings_countDeclarations_27 : decode b_Meanings_countDeclarations 27 = .ok (.iload_n 1, 1) := by decide +kernel
theorem d_Meanings_countDeclarations_28 : decode b_Meanings_countDeclarations 28 = .ok (.iaload, 1) := by decide +kernel
theorem d_Meanings_countDeclarations_29 : decode b_Meanings_countDeclarations 29 = .ok (.iadd, 1) := by decide +kernel
theorem d_Meanings_countDeclarations_30 : decode b_Meanings_countDeclarations 30 = .ok (.if_icmp .ge 150, 3) := by decide +kernel
theorem d_Meanings_countDeclarations_33 : decode b_Meanings_countDeclarations 33 = .ok (.aload_n 0, 1) := by decide +kernel
theorem d_Meanings_countDeclarations_34 : decode b_Meanings_countDeclarations 34 = .ok (.iload_n 3, 1) := by decide +kernel
theorem d_Meanings_countDeclarations_35 : decode b_Meanings_countDeclarations 35 = .ok (.invokevirtual 133, 3) := by decide +kernel
theorem d_Meanings_countDeclarations_38 : decode b_Meanings_countDeclarations 38 = .ok (.istore 4, 2) := by decide +kernel
theorem d_Meanings_countDeclarations_40 : decode b_Meanings_countDeclarations 40 = .ok (.aload_n 0, 1) := by decide +kernel
theorem d_Meanings_countDeclarations_41 : decode b_Meanings_countDeclarations 41 = .ok (.getfield 15, 3) := by decide +kernel
theorem d_Meanings_countDeclarations_44 : decode b_Meanings_countDeclarations 44 = .ok (.getfield 124, 3) := by decide +kernel
theorem d_Meanings_countDeclarations_47 : decode b_Meanings_countDeclarations 47 = .ok (.iload_n 3, 1) := by decide +kernel
theorem d_Meanings_countDeclarations_48 : decode b_Meanings_countDeclarations 48 = .ok (.iaload, 1) := by decide +kernel
theorem d_Meanings_countDeclarations_49 : decode b_Meanings_countDeclarations 49 = .ok (.istore 5, 2) := by decide +kernel
theorem d_Meanings_countDeclarations_51 : decode b_Meanings_countDeclarations 51 = .ok (.iload 4, 2) := by decide +kernel
theorem d_Meanings_countDeclarations_53 : decode b_Meanings_countDeclarations 53 = .ok (.iconst (-1), 1) := by decide +kernel
theorem d_Meanings_countDeclarations_54 : decode b_Meanings_countDeclarations 54 = .ok (.if_icmp .ne 6, 3) := by decide +kernel
theorem d_Meanings_countDeclarations_57 : decode b_Meanings_countDeclarations 57 = .ok (.goto 117, 3) := by decide +kernel
theorem d_Meanings_countDeclarations_60 : decode b_Meanings_countDeclarations 60 = .ok (.iload 4, 2) := by decide +kernel
theorem d_Meanings_countDeclarations_62 : decode b_Meanings_countDeclarations 62 = .ok (.bipush 7, 2) := by decide +kernel
theorem d_Meanings_countDeclarations_64 : decode b_Meanings_countDeclarations 64 = .ok (.if_icmp .eq 47, 3) := by decide +kernel
theorem d_Meanings_countDeclarations_67 : decode b_Meanings_countDeclarations 67 = .ok (.iload 5, 2) := by decide +kernel
theorem d_Meanings_countDeclarations_69 : decode b_Meanings_countDeclarations 69 = .ok (.bipush 9, 2) := by decide +kernel
theorem d_Meanings_countDeclarations_71 : decode b_Meanings_countDeclarations 71 = .ok (.if_icmp .eq 40, 3) := by decide +kernel
theorem d_Meanings_countDeclarations_74 : decode b_Meanings_countDeclarations 74 = .ok (.iload 4, 2) := by decide +kernel
theorem d_Meanings_countDeclarations_76 : decode b_Meanings_countDeclarations 76 = .ok (.bipush 6, 2) := by decide +kernel
theorem d_Meanings_countDeclarations_78 : decode b_Meanings_countDeclarations 78 = .ok (.if_icmp .ne 7, 3) := by decide +kernel
theorem d_Meanings_countDeclarations_81 : decode b_Meanings_countDeclarations 81 = .ok (.iconst 1, 1) := by decide +kernel
theorem d_Meanings_countDeclarations_82 : decode b_Meanings_countDeclarations 82 = .ok (.goto 4, 3) := by decide +kernel
theorem d_Meanings_countDeclarations_85 : decode b_Meanings_countDeclarations 85 = .ok (.iconst 0, 1) := by decide +kernel
theorem d_Meanings_countDeclarations_86 : decode b_Meanings_countDeclarations 86 = .ok (.iload 5, 2) := by decide +kernel
theorem d_Meanings_countDeclarations_88 : decode b_Meanings_countDeclarations 88 = .ok (.bipush 8, 2) := by decide +kernel
theorem d_Meanings_countDeclarations_90 : decode b_Meanings_countDeclarations 90 = .ok (.if_icmp .ne 7, 3) := by decide +kernel
theorem d_Meanings_countDeclarations_93 : decode b_Meanings_countDeclarations 93 = .ok (.iconst 1, 1) := by decide +kernel
theorem d_Meanings_countDeclarations_94 : decode b_Meanings_countDeclarations 94 = .ok (.goto 4, 3) := by decide +kernel
theorem d_Meanings_countDeclarations_97 : decode b_Meanings_countDeclarations 97 = .ok (.iconst 0, 1) := by decide +kernel
theorem d_Meanings_countDeclarations_98 : decode b_Meanings_countDeclarations 98 = .ok (.if_icmp .ne 13, 3) := by decide +kernel
theorem d_Meanings_countDeclarations_101 : decode b_Meanings_countDeclarations 101 = .ok (.iload 4, 2) := by decide +kernel
theorem d_Meanings_countDeclarations_103 : decode b_Meanings_countDeclarations 103 = .ok (.ifCond .eq 18, 3) := by decide +kernel
theorem d_Meanings_countDeclarations_106 : decode b_Meanings_countDeclarations 106 = .ok (.iload 5, 2) := by decide +kernel
theorem d_Meanings_countDeclarations_108 : decode b_Meanings_countDeclarations 108 = .ok (.ifCond .ne 13, 3) := by decide +kernel
theorem d_Meanings_countDeclarations_111 : decode b_Meanings_countDeclarations 111 = .ok (.aload_n 0, 1) := by decide +kernel
theorem d_Meanings_countDeclarations_112 : decode b_Meanings_countDeclarations 112 = .ok (.getfield 42, 3) := by decide +kernel
theorem d_Meanings_countDeclarations_115 : decode b_Meanings_countDeclarations 115 = .ok (.iconst 3, 1) := by decide +kernel
theorem d_Meanings_countDeclarations_116 : decode b_Meanings_countDeclarations 116 = .ok (.dup2, 1) := by decide +kernel
theorem d_Meanings_countDeclarations_117 : decode b_Meanings_countDeclarations 117 = .ok (.iaload, 1) := by decide +kernel
theorem d_Meanings_countDeclarations_118 : decode b_Meanings_countDeclarations 118 = .ok (.iconst 1, 1) := by decide +kernel
theorem d_Meanings_countDeclarations_119 : decode b_Meanings_countDeclarations 119 = .ok (.iadd, 1) := by decide +kernel
theorem d_Meanings_countDeclarations_120 : decode b_Meanings_countDeclarations 120 = .ok (.iastore, 1) := by decide +kernel
theorem d_Meanings_countDeclarations_121 : decode b_Meanings_countDeclarations 121 = .ok (.iload 5, 2) := by decide +kernel
theorem d_Meanings_countDeclarations_123 : decode b_Meanings_countDeclarations 123 = .ok (.ifCond .eq 51, 3) := by decide +kernel
theorem d_Meanings_countDeclarations_126 : decode b_Meanings_countDeclarations 126 = .ok (.aload_n 0, 1) := by decide +kernel
theorem d_Meanings_countDeclarations_127 : decode b_Meanings_countDeclarations 127 = .ok (.getfield 9, 3) := by decide +kernel
theorem d_Meanings_countDeclarations_130 : decode b_Meanings_countDeclarations 130 = .ok (.getfield 19, 3) := by decide +kernel
theorem d_Meanings_countDeclarations_133 : decode b_Meanings_countDeclarations 133 = .ok (.iload 5, 2) := by decide +kernel
theorem d_Meanings_countDeclarations_135 : decode b_Meanings_countDeclarations 135 = .ok (.iaload, 1) := by decide +kernel
theorem d_Meanings_countDeclarations_136 : decode b_Meanings_countDeclarations 136 = .ok (.iload_n 2, 1) := by decide +kernel
theorem d_Meanings_countDeclarations_137 : decode b_Meanings_countDeclarations 137 = .ok (.if_icmp .eq 37, 3) := by decide +kernel
theorem d_Meanings_countDeclarations_140 : decode b_Meanings_countDeclarations 140 = .ok (.aload_n 0, 1) := by decide +kernel
theorem d_Meanings_countDeclarations_141 : decode b_Meanings_countDeclarations 141 = .ok (.getfield 9, 3) := by decide +kernel
theorem d_Meanings_countDeclarations_144 : decode b_Meanings_countDeclarations 144 = .ok (.getfield 19, 3) := by decide +kernel
theorem d_Meanings_countDeclarations_147 : decode b_Meanings_countDeclarations 147 = .ok (.iload 5, 2) := by decide +kernel
theorem d_Meanings_countDeclarations_149 : decode b_Meanings_countDeclarations 149 = .ok (.iload_n 2, 1) := by decide +kernel
theorem d_Meanings_countDeclarations_150 : decode b_Meanings_countDeclarations 150 = .ok (.iastore, 1) := by decide +kernel
theorem d_Meanings_countDeclarations_151 : decode b_Meanings_countDeclarations 151 = .ok (.aload_n 0, 1) := by decide +kernel
theorem d_Meanings_countDeclarations_152 : decode b_Meanings_countDeclarations 152 = .ok (.dup, 1) := by decide +kernel
theorem d_Meanings_countDeclarations_153 : decode b_Meanings_countDeclarations 153 = .ok (.getfield 54, 3) := by decide +kernel
theorem d_Meanings_countDeclarations_156 : decode b_Meanings_countDeclarations 156 = .ok (.aload_n 0, 1) := by decide +kernel
theorem d_Meanings_countDeclarations_157 : decode b_Meanings_countDeclarations 157 = .ok (.iload 5, 2) := by decide +kernel
theorem d_Meanings_countDeclarations_159 : decode b_Meanings_countDeclarations 159 = .ok (.invokevirtual 149, 3) := by decide +kernel
theorem d_Meanings_countDeclarations_162 : decode b_Meanings_countDeclarations 162 = .ok (.ifCond .ne 7, 3) := by decide +kernel
theorem d_Meanings_countDeclarations_165 : decode b_Meanings_countDeclarations 165 = .ok (.iconst 1, 1) := by decide +kernel
theorem d_Meanings_countDeclarations_166 : decode b_Meanings_countDeclarations 166 = .ok (.goto 4, 3) := by decide +kernel
theorem d_Meanings_countDeclarations_169 : decode b_Meanings_countDeclarations 169 = .ok (.iconst 0, 1) := by decide +kernel
theorem d_Meanings_countDeclarations_170 : decode b_Meanings_countDeclarations 170 = .ok (.ior, 1) := by decide +kernel
theorem d_Meanings_countDeclarations_171 : decode b_Meanings_countDeclarations 171 = .ok (.putfield 54, 3) := by decide +kernel
theorem d_Meanings_countDeclarations_174 : decode b_Meanings_countDeclarations 174 = .ok (.iinc 3 1, 3) := by decide +kernel
theorem d_Meanings_countDeclarations_177 : decode b_Meanings_countDeclarations 177 = .ok (.goto (-167), 3) := by decide +kernel
theorem d_Meanings_countDeclarations_180 : decode b_Meanings_countDeclarations 180 = .ok (.return_, 1) := by decide +kernel
/-- Meanings_countDeclarations -/
def w_Meanings_countDeclarations (L : Nat → Nat) (a1 : Int) (a2 : Int) (Q : IS → Prop) (σ : IS) : Prop := inL L 130 a1 ∧ WL (fun (K1 : Int → IS → Prop) (s3 : Int) (σ4 : IS) => inL L 130 a1 ∧ inL L 131 a1 ∧ inR ((σ4.2 130 (Int.toNat a1)) + (σ4.2 131 (Int.toNat a1))) ∧ if s3 < ((σ4.2 130 (Int.toNat a1)) + (σ4.2 131 (Int.toNat a1))) then w_Meanings_declares L s3 (fun v7 σ6 => inL L 134 s3 ∧ WJ (fun (s10 : Unit) (σ11 : IS) => inR (s3 + 1) ∧ K1 (s3 + 1) σ11) (fun J8 => if v7 = (-1) then J8 () σ6 else WJ (fun (s16 : Unit) (σ17 : IS) => ((¬ (σ6.2 134 (Int.toNat s3)) = 0 → inL L 155 (σ6.2 134 (Int.toNat s3)))) ∧ if ¬ (σ6.2 134 (Int.toNat s3)) = 0 ∧ (¬ (σ17.2 155 (Int.toNat (σ6.2 134 (Int.toNat s3)))) = a2) then inL L 155 (σ6.2 134 (Int.toNat s3)) ∧ w_Meanings_isAbsolute L (σ6.2 134 (Int.toNat s3)) (fun v20 σ19 => is01 (io (σ17.1 10 7) (if v20 = 0 then (1 : Int) else (0 : Int))) ∧ J8 () (pf σ19 10 7 (io (σ17.1 10 7) (if v20 = 0 then (1 : Int) else (0 : Int))))) (pr σ17 155 (Int.toNat (σ6.2 134 (Int.toNat s3))) a2) else J8 () σ17) (fun J14 => WJ (fun (s36 : Unit) (σ37 : IS) => inL L 160 3 ∧ inR ((σ37.2 160 (Int.toNat 3)) + 1) ∧ inL L 160 3 ∧ J14 () (pr σ37 160 (Int.toNat 3) ((σ37.2 160 (Int.toNat 3)) + 1))) (fun J34 => if ¬ v7 = 7 ∧ (¬ (σ6.2 134 (Int.toNat s3)) = 9) then if (if v7 = 6 then (1 : Int) else (0 : Int)) = (if (σ6.2 134 (Int.toNat s3)) = 8 then (1 : Int) else (0 : Int)) then if ¬ v7 = 0 ∧ ((σ6.2 134 (Int.toNat s3)) = 0) then J34 () σ6 else J14 () σ6 else J34 () σ6 else J34 () σ6)))) σ4 else Q σ4) (σ.2 130 (Int.toNat a1)) σ
set_option maxHeartbeats 4000000 in
set_option maxRecDepth 20000 in
theorem s_Meanings_countDeclarations {L : Nat → Nat} (hL : ∀ r, L r < 2147483648) {d : Nat} (hd : 2 ≤ d) {a1 : Int} {a2 : Int} {Q : IS → Prop} {σ : IS}  (h : w_Meanings_countDeclarations L a1 a2 Q σ) : OkI BF L d 10 b_Meanings_countDeclarations 6 0 0 [] [some (.inr 10), some (.inl a1), some (.inl a2)] σ (qv Q) := by
  unfold w_Meanings_countDeclarations at h
  obtain ⟨d, rfl⟩ : ∃ e, d = e + 1 := ⟨d - 1, by omega⟩
  refine k_sb (lv' := [some (.inr 10), some (.inl a1), some (.inl a2), none, none, none]) (sb_s (sb_s (sb_s (sb_e (sb_e (sb_e sb_nil)))))) ?_
  refine k_aload_n d_Meanings_countDeclarations_0 rfl ?_
  refine k_getR d_Meanings_countDeclarations_1 fl_10_15 ob_10 rfl ?_
  refine k_getR d_Meanings_countDeclarations_4 fl_10_127 ob_6 rfl ?_
  refine k_iload_n d_Meanings_countDeclarations_7 rfl ?_
  obtain ⟨p64, h⟩ := h
  refine k_ild (x := (σ.2 130 (Int.toNat a1))) d_Meanings_countDeclarations_8 rI_130 p64 rfl ?_
  refine k_istore_n (lv' := [some (.inr 10), some (.inl a1), some (.inl a2), some (.inl (σ.2 130 (Int.toNat a1))), none, none]) d_Meanings_countDeclarations_9 rfl rfl ?_
  refine k_sb (lv' := [some (.inr 10), some (.inl a1), some (.inl a2), some (.inl (σ.2 130 (Int.toNat a1))), none, none]) (sb_s (sb_s (sb_s (sb_s (sb_s (sb_s sb_nil)))))) ?_
  refine k_loop (S := Int) (st := fun _ => []) (lv := fun s3 => [some (.inr 10), some (.inl a1), some (.inl a2), some (.inl s3), none, none]) (fun K1 hK2 s3 σ4 h => ?_) (σ.2 130 (Int.toNat a1)) _ h
  refine k_iload_n d_Meanings_countDeclarations_10 rfl ?_
  refine k_aload_n d_Meanings_countDeclarations_11 rfl ?_
  refine k_getR d_Meanings_countDeclarations_12 fl_10_15 ob_10 rfl ?_
  refine k_getR d_Meanings_countDeclarations_15 fl_10_127 ob_6 rfl ?_
  refine k_iload_n d_Meanings_countDeclarations_18 rfl ?_
  obtain ⟨p63, h⟩ := h
  refine k_ild (x := (σ4.2 130 (Int.toNat a1))) d_Meanings_countDeclarations_19 rI_130 p63 rfl ?_
  refine k_aload_n d_Meanings_countDeclarations_20 rfl ?_
  refine k_getR d_Meanings_countDeclarations_21 fl_10_15 ob_10 rfl ?_
  refine k_getR d_Meanings_countDeclarations_24 fl_10_130 ob_6 rfl ?_
  refine k_iload_n d_Meanings_countDeclarations_27 rfl ?_
  obtain ⟨p62, h⟩ := h
  refine k_ild (x := (σ4.2 131 (Int.toNat a1))) d_Meanings_countDeclarations_28 rI_131 p62 rfl ?_
  obtain ⟨p61, h⟩ := h
  refine k_iadd d_Meanings_countDeclarations_29 p61 ?_
  refine k_icge d_Meanings_countDeclarations_30 rfl (fun c5 => ?_) (fun c5 => ?_)
  · have h := ineg c5 h
    exact k_ret d_Meanings_countDeclarations_180 h
  · have h := ipos c5 h
    refine k_aload_n d_Meanings_countDeclarations_33 rfl ?_
    refine k_iload_n d_Meanings_countDeclarations_34 rfl ?_
    refine k_cvi [.inl s3] d_Meanings_countDeclarations_35 ml_10_133 rfl rfl ob_10 rfl (s_Meanings_declares hL (by omega)  h) (fun v7 σ6 h => ?_)
    refine k_istore (lv' := [some (.inr 10), some (.inl a1), some (.inl a2), some (.inl s3), some (.inl v7), none]) d_Meanings_countDeclarations_38 rfl rfl ?_
    refine k_aload_n d_Meanings_countDeclarations_40 rfl ?_
    refine k_getR d_Meanings_countDeclarations_41 fl_10_15 ob_10 rfl ?_
    refine k_getR d_Meanings_countDeclarations_44 fl_10_124 ob_6 rfl ?_
    refine k_iload_n d_Meanings_countDeclarations_47 rfl ?_
    obtain ⟨p60, h⟩ := h
    refine k_ild (x := (σ6.2 134 (Int.toNat s3))) d_Meanings_countDeclarations_48 rI_134 p60 rfl ?_
    refine k_istore (lv' := [some (.inr 10), some (.inl a1), some (.inl a2), some (.inl s3), some (.inl v7), some (.inl (σ6.2 134 (Int.toNat s3)))]) d_Meanings_countDeclarations_49 rfl rfl ?_
    refine k_iload d_Meanings_countDeclarations_51 rfl ?_
    refine k_iconst d_Meanings_countDeclarations_53 cI_m1 ?_
    refine k_join (S := Unit) (pc' := 174) (st' := fun s10 => []) (lv' := fun s10 => [some (.inr 10), some (.inl a1), some (.inl a2), some (.inl s3), none, none]) (fun s10 σ11 h => ?_) (fun J8 hJ9 h => ?_) h
    · obtain ⟨p12, h⟩ := h
      refine k_iinc (lv' := [some (.inr 10), some (.inl a1), some (.inl a2), some (.inl (s3 + 1)), none, none]) d_Meanings_countDeclarations_174 cI_1 rfl rfl p12 rfl ?_
      refine k_goto d_Meanings_countDeclarations_177 rfl ?_
      exact k_sb (sb_s (sb_s (sb_s (sb_s (sb_s (sb_s sb_nil)))))) (hK2 (s3 + 1) _ h)
    · refine k_icne d_Meanings_countDeclarations_54 rfl (fun c13 => ?_) (fun c13 => ?_)
      · have h := ineg c13 h
        refine k_iload d_Meanings_countDeclarations_60 rfl ?_
        refine k_bipush d_Meanings_countDeclarations_62 cB_7 ?_
        refine k_join (S := Unit) (pc' := 121) (st' := fun s16 => []) (lv' := fun s16 => [some (.inr 10), some (.inl a1), some (.inl a2), some (.inl s3), none, some (.inl (σ6.2 134 (Int.toNat s3)))]) (fun s16 σ17 h => ?_) (fun J14 hJ15 h => ?_) h
        · refine k_iload d_Meanings_countDeclarations_121 rfl ?_
          obtain ⟨pt30, h⟩ := h
          have hX27 : (¬ (σ6.2 134 (Int.toNat s3)) = 0 ∧ (¬ (σ17.2 155 (Int.toNat (σ6.2 134 (Int.toNat s3)))) = a2)) → OkI BF L (d + 1) 10 b_Meanings_countDeclarations 6 0 140 [] [some (.inr 10), some (.inl a1), some (.inl a2), some (.inl s3), none, some (.inl (σ6.2 134 (Int.toNat s3)))] σ17 (qv Q) := fun e29 => by
            have h := ipos e29 h
            refine k_aload_n d_Meanings_countDeclarations_140 rfl ?_
            refine k_getR d_Meanings_countDeclarations_141 fl_10_9 ob_10 rfl ?_
            refine k_getR d_Meanings_countDeclarations_144 fl_10_19 ob_1 rfl ?_
            refine k_iload d_Meanings_countDeclarations_147 rfl ?_
            refine k_iload_n d_Meanings_countDeclarations_149 rfl ?_
            obtain ⟨p26, h⟩ := h
            refine k_ist d_Meanings_countDeclarations_150 rI_155 p26 ?_
            refine k_aload_n d_Meanings_countDeclarations_151 rfl ?_
            refine k_dup d_Meanings_countDeclarations_152 ?_
            refine k_getI (x := (σ17.1 10 7)) d_Meanings_countDeclarations_153 fl_10_54 ob_10 rfl rfl ?_
            refine k_aload_n d_Meanings_countDeclarations_156 rfl ?_
            refine k_iload d_Meanings_countDeclarations_157 rfl ?_
            refine k_cvi [.inl (σ6.2 134 (Int.toNat s3))] d_Meanings_countDeclarations_159 ml_10_149 rfl rfl ob_10 rfl (s_Meanings_isAbsolute hL (by omega)  h) (fun v20 σ19 h => ?_)
            have hV22 : OkI BF L (d + 1) 10 b_Meanings_countDeclarations 6 0 170 [.inl (if v20 = 0 then (1 : Int) else (0 : Int)), .inl (σ17.1 10 7), .inr 10] [some (.inr 10), some (.inl a1), some (.inl a2), some (.inl s3), none, some (.inl (σ6.2 134 (Int.toNat s3)))] σ19 (qv Q) := by
              refine k_ior d_Meanings_countDeclarations_170 ?_
              obtain ⟨p21, h⟩ := h
              refine k_putZ d_Meanings_countDeclarations_171 fl_10_54 ob_10 rfl p21 ?_
              exact k_sb (sb_s (sb_s (sb_s (sb_s (sb_s (sb_n sb_nil)))))) (hJ9 () _ h)
            refine k_ifne d_Meanings_countDeclarations_162 rfl (fun c23 => ?_) (fun c23 => ?_)
            · have hV25 := k_eqI (if_neg c23) hV22
              refine k_iconst d_Meanings_countDeclarations_169 cI_0 ?_
              exact hV25
            · have hV24 := k_eqI (if_pos c23) hV22
              refine k_iconst d_Meanings_countDeclarations_165 cI_1 ?_
              refine k_goto d_Meanings_countDeclarations_166 rfl ?_
              exact hV24
          have hY28 : ¬ (¬ (σ6.2 134 (Int.toNat s3)) = 0 ∧ (¬ (σ17.2 155 (Int.toNat (σ6.2 134 (Int.toNat s3)))) = a2)) → OkI BF L (d + 1) 10 b_Meanings_countDeclarations 6 0 174 [] [some (.inr 10), some (.inl a1), some (.inl a2), some (.inl s3), none, some (.inl (σ6.2 134 (Int.toNat s3)))] σ17 (qv Q) := fun e29 => by
            have h := ineg e29 h
            exact k_sb (sb_s (sb_s (sb_s (sb_s (sb_s (sb_n sb_nil)))))) (hJ9 () _ h)
          have pb31 := pt30
          refine k_ifeq d_Meanings_countDeclarations_123 rfl (fun c32 => ?_) (fun c32 => ?_)
          · exact hY28 (fun z => z.1 c32)
          · have pb31 := pb31 c32
            have p18 := pb31
            refine k_aload_n d_Meanings_countDeclarations_126 rfl ?_
            refine k_getR d_Meanings_countDeclarations_127 fl_10_9 ob_10 rfl ?_
            refine k_getR d_Meanings_countDeclarations_130 fl_10_19 ob_1 rfl ?_
            refine k_iload d_Meanings_countDeclarations_133 rfl ?_
            refine k_ild (x := (σ17.2 155 (Int.toNat (σ6.2 134 (Int.toNat s3))))) d_Meanings_countDeclarations_135 rI_155 p18 rfl ?_
            refine k_iload_n d_Meanings_countDeclarations_136 rfl ?_
            refine k_iceq d_Meanings_countDeclarations_137 rfl (fun c33 => ?_) (fun c33 => ?_)
            · exact hY28 (fun z => (fun z => z c33) z.2)
            · exact hX27 (⟨c32, c33⟩)
        · refine k_join (S := Unit) (pc' := 111) (st' := fun s36 => []) (lv' := fun s36 => [some (.inr 10), some (.inl a1), some (.inl a2), some (.inl s3), none, some (.inl (σ6.2 134 (Int.toNat s3)))]) (fun s36 σ37 h => ?_) (fun J34 hJ35 h => ?_) h
          · refine k_aload_n d_Meanings_countDeclarations_111 rfl ?_
            refine k_getR d_Meanings_countDeclarations_112 fl_10_42 ob_10 rfl ?_
            refine k_iconst d_Meanings_countDeclarations_115 cI_3 ?_
            refine k_dup2 d_Meanings_countDeclarations_116 ?_
            obtain ⟨p40, h⟩ := h
            refine k_ild (x := (σ37.2 160 (Int.toNat 3))) d_Meanings_countDeclarations_117 rI_160 p40 rfl ?_
            refine k_iconst d_Meanings_countDeclarations_118 cI_1 ?_
            obtain ⟨p39, h⟩ := h
            refine k_iadd d_Meanings_countDeclarations_119 p39 ?_
            obtain ⟨p38, h⟩ := h
            refine k_ist d_Meanings_countDeclarations_120 rI_160 p38 ?_
            exact k_sb (sb_s (sb_s (sb_s (sb_s (sb_s (sb_s sb_nil)))))) (hJ15 () _ h)
          · have hX55 : (¬ v7 = 7 ∧ (¬ (σ6.2 134 (Int.toNat s3)) = 9)) → OkI BF L (d + 1) 10 b_Meanings_countDeclarations 6 0 74 [] [some (.inr 10), some (.inl a1), some (.inl a2), some (.inl s3), some (.inl v7), some (.inl (σ6.2 134 (Int.toNat s3)))] σ6 (qv Q) := fun e57 => by
              have h := ipos e57 h
              refine k_iload d_Meanings_countDeclarations_74 rfl ?_
              refine k_bipush d_Meanings_countDeclarations_76 cB_6 ?_
              have hV51 : OkI BF L (d + 1) 10 b_Meanings_countDeclarations 6 0 86 [.inl (if v7 = 6 then (1 : Int) else (0 : Int))] [some (.inr 10), some (.inl a1), some (.inl a2), some (.inl s3), some (.inl v7), some (.inl (σ6.2 134 (Int.toNat s3)))] σ6 (qv Q) := by
                refine k_iload d_Meanings_countDeclarations_86 rfl ?_
                refine k_bipush d_Meanings_countDeclarations_88 cB_8 ?_
                have hV47 : OkI BF L (d + 1) 10 b_Meanings_countDeclarations 6 0 98 [.inl (if (σ6.2 134 (Int.toNat s3)) = 8 then (1 : Int) else (0 : Int)), .inl (if v7 = 6 then (1 : Int) else (0 : Int))] [some (.inr 10), some (.inl a1), some (.inl a2), some (.inl s3), some (.inl v7), some (.inl (σ6.2 134 (Int.toNat s3)))] σ6 (qv Q) := by
                  refine k_icne d_Meanings_countDeclarations_98 rfl (fun c41 => ?_) (fun c41 => ?_)
                  · have h := ineg c41 h
                    exact k_sb (sb_s (sb_s (sb_s (sb_s (sb_n (sb_s sb_nil)))))) (hJ35 () _ h)
                  · have h := ipos c41 h
                    refine k_iload d_Meanings_countDeclarations_101 rfl ?_
                    have hX42 : (¬ v7 = 0 ∧ ((σ6.2 134 (Int.toNat s3)) = 0)) → OkI BF L (d + 1) 10 b_Meanings_countDeclarations 6 0 111 [] [some (.inr 10), some (.inl a1), some (.inl a2), some (.inl s3), some (.inl v7), some (.inl (σ6.2 134 (Int.toNat s3)))] σ6 (qv Q) := fun e44 => by
                      have h := ipos e44 h
                      exact k_sb (sb_s (sb_s (sb_s (sb_s (sb_n (sb_s sb_nil)))))) (hJ35 () _ h)
                    have hY43 : ¬ (¬ v7 = 0 ∧ ((σ6.2 134 (Int.toNat s3)) = 0)) → OkI BF L (d + 1) 10 b_Meanings_countDeclarations 6 0 121 [] [some (.inr 10), some (.inl a1), some (.inl a2), some (.inl s3), some (.inl v7), some (.inl (σ6.2 134 (Int.toNat s3)))] σ6 (qv Q) := fun e44 => by
                      have h := ineg e44 h
                      exact k_sb (sb_s (sb_s (sb_s (sb_s (sb_n (sb_s sb_nil)))))) (hJ15 () _ h)
                    refine k_ifeq d_Meanings_countDeclarations_103 rfl (fun c45 => ?_) (fun c45 => ?_)
                    · exact hY43 (fun z => z.1 c45)
                    · refine k_iload d_Meanings_countDeclarations_106 rfl ?_
                      refine k_ifne d_Meanings_countDeclarations_108 rfl (fun c46 => ?_) (fun c46 => ?_)
                      · exact hY43 (fun z => (c46) z.2)
                      · exact hX42 (⟨c45, c46⟩)
                refine k_icne d_Meanings_countDeclarations_90 rfl (fun c48 => ?_) (fun c48 => ?_)
                · have hV50 := k_eqI (if_neg c48) hV47
                  refine k_iconst d_Meanings_countDeclarations_97 cI_0 ?_
                  exact hV50
                · have hV49 := k_eqI (if_pos c48) hV47
                  refine k_iconst d_Meanings_countDeclarations_93 cI_1 ?_
                  refine k_goto d_Meanings_countDeclarations_94 rfl ?_
                  exact hV49
              refine k_icne d_Meanings_countDeclarations_78 rfl (fun c52 => ?_) (fun c52 => ?_)
              · have hV54 := k_eqI (if_neg c52) hV51
                refine k_iconst d_Meanings_countDeclarations_85 cI_0 ?_
                exact hV54
              · have hV53 := k_eqI (if_pos c52) hV51
                refine k_iconst d_Meanings_countDeclarations_81 cI_1 ?_
                refine k_goto d_Meanings_countDeclarations_82 rfl ?_
                exact hV53
            have hY56 : ¬ (¬ v7 = 7 ∧ (¬ (σ6.2 134 (Int.toNat s3)) = 9)) → OkI BF L (d + 1) 10 b_Meanings_countDeclarations 6 0 111 [] [some (.inr 10), some (.inl a1), some (.inl a2), some (.inl s3), some (.inl v7), some (.inl (σ6.2 134 (Int.toNat s3)))] σ6 (qv Q) := fun e57 => by
              have h := ineg e57 h
              exact k_sb (sb_s (sb_s (sb_s (sb_s (sb_n (sb_s sb_nil)))))) (hJ35 () _ h)
            refine k_iceq d_Meanings_countDeclarations_64 rfl (fun c58 => ?_) (fun c58 => ?_)
            · exact hY56 (fun z => z.1 c58)
            · refine k_iload d_Meanings_countDeclarations_67 rfl ?_
              refine k_bipush d_Meanings_countDeclarations_69 cB_9 ?_
              refine k_iceq d_Meanings_countDeclarations_71 rfl (fun c59 => ?_) (fun c59 => ?_)
              · exact hY56 (fun z => (fun z => z c59) z.2)
              · exact hX55 (⟨c58, c59⟩)
      · have h := ipos c13 h
        refine k_goto d_Meanings_countDeclarations_57 rfl ?_
        exact k_sb (sb_s (sb_s (sb_s (sb_s (sb_n (sb_n sb_nil)))))) (hJ9 () _ h)
theorem d_Meanings_countAll_0 : decode b_Meanings_countAll 0 = .ok (.aload_n 0, 1) := by decide +kernel
theorem d_Meanings_countAll_1 : decode b_Meanings_countAll 1 = .ok (.getfield 42, 3) := by decide +kernel
theorem d_Meanings_countAll_4 : decode b_Meanings_countAll 4 = .ok (.iconst 0, 1) := by decide +kernel
theorem d_Meanings_countAll_5 : decode b_Meanings_countAll 5 = .ok (.invokestatic 51, 3) := by decide +kernel
theorem d_Meanings_countAll_8 : decode b_Meanings_countAll 8 = .ok (.aload_n 0, 1) := by decide +kernel
theorem d_Meanings_countAll_9 : decode b_Meanings_countAll 9 = .ok (.getfield 42, 3) := by decide +kernel
theorem d_Meanings_countAll_12 : decode b_Meanings_countAll 12 = .ok (.iconst 5, 1) := by decide +kernel
theorem d_Meanings_countAll_13 : decode b_Meanings_countAll 13 = .ok (.iload_n 1, 1) := by decide +kernel
theorem d_Meanings_countAll_14 : decode b_Meanings_countAll 14 = .ok (.iastore, 1) := by decide +kernel
theorem d_Meanings_countAll_15 : decode b_Meanings_countAll 15 = .ok (.aload_n 0, 1) := by decide +kernel
theorem d_Meanings_countAll_16 : decode b_Meanings_countAll 16 = .ok (.iconst 0, 1) := by decide +kernel
theorem d_Meanings_countAll_17 : decode b_Meanings_countAll 17 = .ok (.putfield 54, 3) := by decide +kernel
theorem d_Meanings_countAll_20 : decode b_Meanings_countAll 20 = .ok (.aload_n 0, 1) := by decide +kernel
theorem d_Meanings_countAll_21 : decode b_Meanings_countAll 21 = .ok (.invokevirtual 58, 3) := by decide +kernel
theorem d_Meanings_countAll_24 : decode b_Meanings_countAll 24 = .ok (.aload_n 0, 1) := by decide +kernel
theorem d_Meanings_countAll_25 : decode b_Meanings_countAll 25 = .ok (.getfield 9, 3) := by decide +kernel
theorem d_Meanings_countAll_28 : decode b_Meanings_countAll 28 = .ok (.invokevirtual 61, 3) := by decide +kernel
theorem d_Meanings_countAll_31 : decode b_Meanings_countAll 31 = .ok (.istore_n 2, 1) := by decide +kernel
theorem d_Meanings_countAll_32 : decode b_Meanings_countAll 32 = .ok (.iconst (-1), 1) := by decide +kernel
theorem d_Meanings_countAll_33 : decode b_Meanings_countAll 33 = .ok (.istore_n 3, 1) := by decide +kernel
theorem d_Meanings_countAll_34 : decode b_Meanings_countAll 34 = .ok (.iconst 0, 1) := by decide +kernel
theorem d_Meanings_countAll_35 : decode b_Meanings_countAll 35 = .ok (.istore 4, 2) := by decide +kernel
theorem d_Meanings_countAll_37 : decode b_Meanings_countAll 37 = .ok (.iload 4, 2) := by decide +kernel
theorem d_Meanings_countAll_39 : decode b_Meanings_countAll 39 = .ok (.aload_n 0, 1) := by decide +kernel
theorem d_Meanings_countAll_40 : decode b_Meanings_countAll 40 = .ok (.getfield 15, 3) := by decide +kernel
theorem d_Meanings_countAll_43 : decode b_Meanings_countAll 43 = .ok (.getfield 65, 3) := by decide +kernel
theorem d_Meanings_countAll_46 : decode b_Meanings_countAll 46 = .ok (.if_icmp .ge 92, 3) := by decide +kernel
theorem d_Meanings_countAll_49 : decode b_Meanings_countAll 49 = .ok (.aload_n 0, 1) := by decide +kernel
theorem d_Meanings_countAll_50 : decode b_Meanings_countAll 50 = .ok (.getfield 15, 3) := by decide +kernel
theorem d_Meanings_countAll_53 : decode b_Meanings_countAll 53 = .ok (.getfield 69, 3) := by decide +kernel
theorem d_Meanings_countAll_56 : decode b_Meanings_countAll 56 = .ok (.iload 4, 2) := by decide +kernel
theorem d_Meanings_countAll_58 : decode b_Meanings_countAll 58 = .ok (.iaload, 1) := by decide +kernel
theorem d_Meanings_countAll_59 : decode b_Meanings_countAll 59 = .ok (.istore 5, 2) := by decide +kernel
theorem d_Meanings_countAll_61 : decode b_Meanings_countAll 61 = .ok (.iload 5, 2) := by decide +kernel
theorem d_Meanings_countAll_63 : decode b_Meanings_countAll 63 = .ok (.bipush (-2), 2) := by decide +kernel
theorem d_Meanings_countAll_65 : decode b_Meanings_countAll 65 = .ok (.if_icmp .ne 9, 3) := by decide +kernel
theorem d_Meanings_countAll_68 : decode b_Meanings_countAll 68 = .ok (.iinc 4 4, 3) := by decide +kernel
theorem d_Meanings_countAll_71 : decode b_Meanings_countAll 71 = .ok (.goto 61, 3) := by decide +kernel
theorem d_Meanings_countAll_74 : decode b_Meanings_countAll 74 = .ok (.iload 5, 2) := by decide +kernel
theorem d_Meanings_countAll_76 : decode b_Meanings_countAll 76 = .ok (.iconst (-1), 1) := by decide +kernel
theorem d_Meanings_countAll_77 : decode b_Meanings_countAll 77 = .ok (.if_icmp .ne 26, 3) := by decide +kernel
theorem d_Meanings_countAll_80 : decode b_Meanings_countAll 80 = .ok (.iload_n 3, 1) := by decide +kernel
theorem d_Meanings_countAll_81 : decode b_Meanings_countAll 81 = .ok (.iconst (-1), 1) := by decide +kernel
theorem d_Meanings_countAll_82 : decode b_Meanings_countAll 82 = .ok (.if_icmp .eq 21, 3) := by decide +kernel
theorem d_Meanings_countAll_85 : decode b_Meanings_countAll 85 = .ok (.aload_n 0, 1) := by decide +kernel
theorem d_Meanings_countAll_86 : decode b_Meanings_countAll 86 = .ok (.iload_n 3, 1) := by decide +kernel
theorem d_Meanings_countAll_87 : decode b_Meanings_countAll 87 = .ok (.invokevirtual 72, 3) := by decide +kernel
theorem d_Meanings_countAll_90 : decode b_Meanings_countAll 90 = .ok (.aload_n 0, 1) := by decide +kernel
theorem d_Meanings_countAll_91 : decode b_Meanings_countAll 91 = .ok (.getfield 15, 3) := by decide +kernel
theorem d_Meanings_countAll_94 : decode b_Meanings_countAll 94 = .ok (.getfield 76, 3) := by decide +kernel
theorem d_Meanings_countAll_97 : decode b_Meanings_countAll 97 = .ok (.iload_n 3, 1) := by decide +kernel
theorem d_Meanings_countAll_98 : decode b_Meanings_countAll 98 = .ok (.iaload, 1) := by decide +kernel
theorem d_Meanings_countAll_99 : decode b_Meanings_countAll 99 = .ok (.istore_n 3, 1) := by decide +kernel
theorem d_Meanings_countAll_100 : decode b_Meanings_countAll 100 = .ok (.goto 32, 3) := by decide +kernel
theorem d_Meanings_countAll_103 : decode b_Meanings_countAll 103 = .ok (.iload 5, 2) := by decide +kernel
theorem d_Meanings_countAll_105 : decode b_Meanings_countAll 105 = .ok (.bipush (-3), 2) := by decide +kernel
theorem d_Meanings_countAll_107 : decode b_Meanings_countAll 107 = .ok (.if_icmp .gt 25, 3) := by decide +kernel
theorem d_Meanings_countAll_110 : decode b_Meanings_countAll 110 = .ok (.bipush (-3), 2) := by decide +kernel
theorem d_Meanings_countAll_112 : decode b_Meanings_countAll 112 = .ok (.iload 5, 2) := by decide +kernel
theorem d_Meanings_countAll_114 : decode b_Meanings_countAll 114 = .ok (.isub, 1) := by decide +kernel
theorem d_Meanings_countAll_115 : decode b_Meanings_countAll 115 = .ok (.istore_n 3, 1) := by decide +kernel
theorem d_Meanings_countAll_116 : decode b_Meanings_countAll 116 = .ok (.aload_n 0, 1) := by decide +kernel
theorem d_Meanings_countAll_117 : decode b_Meanings_countAll 117 = .ok (.iload_n 3, 1) := by decide +kernel
theorem d_Meanings_countAll_118 : decode b_Meanings_countAll 118 = .ok (.invokevirtual 79, 3) := by decide +kernel
theorem d_Meanings_countAll_121 : decode b_Meanings_countAll 121 = .ok (.aload_n 0, 1) := by decide +kernel
theorem d_Meanings_countAll_122 : decode b_Meanings_countAll 122 = .ok (.iload_n 3, 1) := by decide +kernel
theorem d_Meanings_countAll_123 : decode b_Meanings_countAll 123 = .ok (.invokevirtual 82, 3) := by decide +kernel
theorem d_Meanings_countAll_126 : decode b_Meanings_countAll 126 = .ok (.aload_n 0, 1) := by decide +kernel
theorem d_Meanings_countAll_127 : decode b_Meanings_countAll 127 = .ok (.iload_n 3, 1) := by decide +kernel
theorem d_Meanings_countAll_128 : decode b_Meanings_countAll 128 = .ok (.iload_n 2, 1) := by decide +kernel
theorem d_Meanings_countAll_129 : decode b_Meanings_countAll 129 = .ok (.invokevirtual 85, 3) := by decide +kernel
theorem d_Meanings_countAll_132 : decode b_Meanings_countAll 132 = .ok (.iinc 4 1, 3) := by decide +kernel
theorem d_Meanings_countAll_135 : decode b_Meanings_countAll 135 = .ok (.goto (-98), 3) := by decide +kernel
theorem d_Meanings_countAll_138 : decode b_Meanings_countAll 138 = .ok (.return_, 1) := by decide +kernel
/-- Meanings_countAll -/
def w_Meanings_countAll (L : Nat → Nat) (a1 : Int) (Q : IS → Prop) (σ : IS) : Prop := inL L 160 5 ∧ w_Meanings_splitAll L  (fun σ1 => w_Store_newMark L  (fun v4 σ3 => WL (fun (K5 : Int × Int → IS → Prop) (s7 : Int × Int) (σ8 : IS) => if s7.2 < (σ8.1 6 15) then inL L 136 s7.2 ∧ WJ (fun (s12 : Int × Int) (σ13 : IS) => inR (s12.2 + 1) ∧ K5 (s12.1, (s12.2 + 1)) σ13) (fun J10 => if (σ8.2 136 (Int.toNat s7.2)) = (-2) then inR (s7.2 + 4) ∧ J10 (s7.1, (s7.2 + 4)) σ8 else if (σ8.2 136 (Int.toNat s7.2)) = (-1) ∧ (¬ s7.1 = (-1)) then w_Meanings_leave L s7.1 (fun σ16 => inL L 129 s7.1 ∧ J10 ((σ16.2 129 (Int.toNat s7.1)), s7.2) σ16) σ8 else if (-3) < (σ8.2 136 (Int.toNat s7.2)) then J10 (s7.1, s7.2) σ8 else inR ((-3) - (σ8.2 136 (Int.toNat s7.2))) ∧ w_Meanings_enter L ((-3) - (σ8.2 136 (Int.toNat s7.2))) (fun σ20 => w_Meanings_countNames L ((-3) - (σ8.2 136 (Int.toNat s7.2))) (fun σ22 => w_Meanings_countDeclarations L ((-3) - (σ8.2 136 (Int.toNat s7.2))) v4 (fun σ24 => J10 (((-3) - (σ8.2 136 (Int.toNat s7.2))), s7.2) σ24) σ22) σ20) σ8) else Q σ8) ((-1), 0) σ3) σ1) (pf (pr (fa σ 160 0) 160 (Int.toNat 5) a1) 10 7 0)
set_option maxHeartbeats 4000000 in
set_option maxRecDepth 20000 in
theorem s_Meanings_countAll {L : Nat → Nat} (hL : ∀ r, L r < 2147483648) {d : Nat} (hd : 4 ≤ d) {a1 : Int} {Q : IS → Prop} {σ : IS}  (h : w_Meanings_countAll L a1 Q σ) : OkI BF L d 10 b_Meanings_countAll 6 0 0 [] [some (.inr 10), some (.inl a1)] σ (qv Q) := by
  unfold w_Meanings_countAll at h
  obtain ⟨d, rfl⟩ : ∃ e, d = e + 1 := ⟨d - 1, by omega⟩
  refine k_sb (lv' := [some (.inr 10), some (.inl a1), none, none, none, none]) (sb_s (sb_s (sb_e (sb_e (sb_e (sb_e sb_nil)))))) ?_
  refine k_aload_n d_Meanings_countAll_0 rfl ?_
  refine k_getR d_Meanings_countAll_1 fl_10_42 ob_10 rfl ?_
  refine k_iconst d_Meanings_countAll_4 cI_0 ?_
  refine k_fill d_Meanings_countAll_5 ml_10_51 rI_160 rfl ?_
  refine k_aload_n d_Meanings_countAll_8 rfl ?_
  refine k_getR d_Meanings_countAll_9 fl_10_42 ob_10 rfl ?_
  refine k_iconst d_Meanings_countAll_12 cI_5 ?_
  refine k_iload_n d_Meanings_countAll_13 rfl ?_
  obtain ⟨p34, h⟩ := h
  refine k_ist d_Meanings_countAll_14 rI_160 p34 ?_
  refine k_aload_n d_Meanings_countAll_15 rfl ?_
  refine k_iconst d_Meanings_countAll_16 cI_0 ?_
  refine k_putZ d_Meanings_countAll_17 fl_10_54 ob_10 rfl (Or.inl rfl) ?_
  refine k_aload_n d_Meanings_countAll_20 rfl ?_
  refine k_cvv [] d_Meanings_countAll_21 ml_10_58 rfl rfl ob_10 rfl (s_Meanings_splitAll hL (by omega)  h) (fun σ1 h => ?_)
  refine k_aload_n d_Meanings_countAll_24 rfl ?_
  refine k_getR d_Meanings_countAll_25 fl_10_9 ob_10 rfl ?_
  refine k_cvi [] d_Meanings_countAll_28 ml_10_61 rfl rfl ob_1 rfl (s_Store_newMark hL (by omega)  h) (fun v4 σ3 h => ?_)
  refine k_istore_n (lv' := [some (.inr 10), some (.inl a1), some (.inl v4), none, none, none]) d_Meanings_countAll_31 rfl rfl ?_
  refine k_iconst d_Meanings_countAll_32 cI_m1 ?_
  refine k_istore_n (lv' := [some (.inr 10), some (.inl a1), some (.inl v4), some (.inl (-1)), none, none]) d_Meanings_countAll_33 rfl rfl ?_
  refine k_iconst d_Meanings_countAll_34 cI_0 ?_
  refine k_istore (lv' := [some (.inr 10), some (.inl a1), some (.inl v4), some (.inl (-1)), some (.inl 0), none]) d_Meanings_countAll_35 rfl rfl ?_
  refine k_sb (lv' := [some (.inr 10), none, some (.inl v4), some (.inl (-1)), some (.inl 0), none]) (sb_s (sb_n (sb_s (sb_s (sb_s (sb_s sb_nil)))))) ?_
  refine k_loop (S := Int × Int) (st := fun _ => []) (lv := fun s7 => [some (.inr 10), none, some (.inl v4), some (.inl s7.1), some (.inl s7.2), none]) (fun K5 hK6 s7 σ8 h => ?_) ((-1), 0) _ h
  refine k_iload d_Meanings_countAll_37 rfl ?_
  refine k_aload_n d_Meanings_countAll_39 rfl ?_
  refine k_getR d_Meanings_countAll_40 fl_10_15 ob_10 rfl ?_
  refine k_getI (x := (σ8.1 6 15)) d_Meanings_countAll_43 fl_10_65 ob_6 rfl rfl ?_
  refine k_icge d_Meanings_countAll_46 rfl (fun c9 => ?_) (fun c9 => ?_)
  · have h := ineg c9 h
    exact k_ret d_Meanings_countAll_138 h
  · have h := ipos c9 h
    refine k_aload_n d_Meanings_countAll_49 rfl ?_
    refine k_getR d_Meanings_countAll_50 fl_10_15 ob_10 rfl ?_
    refine k_getR d_Meanings_countAll_53 fl_10_69 ob_6 rfl ?_
    refine k_iload d_Meanings_countAll_56 rfl ?_
    obtain ⟨p33, h⟩ := h
    refine k_ild (x := (σ8.2 136 (Int.toNat s7.2))) d_Meanings_countAll_58 rI_136 p33 rfl ?_
    refine k_istore (lv' := [some (.inr 10), none, some (.inl v4), some (.inl s7.1), some (.inl s7.2), some (.inl (σ8.2 136 (Int.toNat s7.2)))]) d_Meanings_countAll_59 rfl rfl ?_
    refine k_iload d_Meanings_countAll_61 rfl ?_
    refine k_bipush d_Meanings_countAll_63 cB_m2 ?_
    refine k_join (S := Int × Int) (pc' := 132) (st' := fun s12 => []) (lv' := fun s12 => [some (.inr 10), none, some (.inl v4), some (.inl s12.1), some (.inl s12.2), none]) (fun s12 σ13 h => ?_) (fun J10 hJ11 h => ?_) h
    · obtain ⟨p14, h⟩ := h
      refine k_iinc (lv' := [some (.inr 10), none, some (.inl v4), some (.inl s12.1), some (.inl (s12.2 + 1)), none]) d_Meanings_countAll_132 cI_1 rfl rfl p14 rfl ?_
      refine k_goto d_Meanings_countAll_135 rfl ?_
      exact k_sb (sb_s (sb_s (sb_s (sb_s (sb_s (sb_s sb_nil)))))) (hK6 (s12.1, (s12.2 + 1)) _ h)
    · refine k_icne d_Meanings_countAll_65 rfl (fun c15 => ?_) (fun c15 => ?_)
      · have h := ineg c15 h
        refine k_iload d_Meanings_countAll_74 rfl ?_
        refine k_iconst d_Meanings_countAll_76 cI_m1 ?_
        have hX27 : ((σ8.2 136 (Int.toNat s7.2)) = (-1) ∧ (¬ s7.1 = (-1))) → OkI BF L (d + 1) 10 b_Meanings_countAll 6 0 85 [] [some (.inr 10), none, some (.inl v4), some (.inl s7.1), some (.inl s7.2), some (.inl (σ8.2 136 (Int.toNat s7.2)))] σ8 (qv Q) := fun e29 => by
          have h := ipos e29 h
          refine k_aload_n d_Meanings_countAll_85 rfl ?_
          refine k_iload_n d_Meanings_countAll_86 rfl ?_
          refine k_cvv [.inl s7.1] d_Meanings_countAll_87 ml_10_72 rfl rfl ob_10 rfl (s_Meanings_leave hL (by omega)  h) (fun σ16 h => ?_)
          refine k_aload_n d_Meanings_countAll_90 rfl ?_
          refine k_getR d_Meanings_countAll_91 fl_10_15 ob_10 rfl ?_
          refine k_getR d_Meanings_countAll_94 fl_10_76 ob_6 rfl ?_
          refine k_iload_n d_Meanings_countAll_97 rfl ?_
          obtain ⟨p18, h⟩ := h
          refine k_ild (x := (σ16.2 129 (Int.toNat s7.1))) d_Meanings_countAll_98 rI_129 p18 rfl ?_
          refine k_istore_n (lv' := [some (.inr 10), none, some (.inl v4), some (.inl (σ16.2 129 (Int.toNat s7.1))), some (.inl s7.2), some (.inl (σ8.2 136 (Int.toNat s7.2)))]) d_Meanings_countAll_99 rfl rfl ?_
          refine k_goto d_Meanings_countAll_100 rfl ?_
          exact k_sb (sb_s (sb_s (sb_s (sb_s (sb_s (sb_n sb_nil)))))) (hJ11 ((σ16.2 129 (Int.toNat s7.1)), s7.2) _ h)
        have hY28 : ¬ ((σ8.2 136 (Int.toNat s7.2)) = (-1) ∧ (¬ s7.1 = (-1))) → OkI BF L (d + 1) 10 b_Meanings_countAll 6 0 103 [] [some (.inr 10), none, some (.inl v4), some (.inl s7.1), some (.inl s7.2), some (.inl (σ8.2 136 (Int.toNat s7.2)))] σ8 (qv Q) := fun e29 => by
          have h := ineg e29 h
          refine k_iload d_Meanings_countAll_103 rfl ?_
          refine k_bipush d_Meanings_countAll_105 cB_m3 ?_
          refine k_icgt d_Meanings_countAll_107 rfl (fun c19 => ?_) (fun c19 => ?_)
          · have h := ipos c19 h
            exact k_sb (sb_s (sb_s (sb_s (sb_s (sb_s (sb_n sb_nil)))))) (hJ11 (s7.1, s7.2) _ h)
          · have h := ineg c19 h
            refine k_bipush d_Meanings_countAll_110 cB_m3 ?_
            refine k_iload d_Meanings_countAll_112 rfl ?_
            obtain ⟨p26, h⟩ := h
            refine k_isub d_Meanings_countAll_114 p26 ?_
            refine k_istore_n (lv' := [some (.inr 10), none, some (.inl v4), some (.inl ((-3) - (σ8.2 136 (Int.toNat s7.2)))), some (.inl s7.2), some (.inl (σ8.2 136 (Int.toNat s7.2)))]) d_Meanings_countAll_115 rfl rfl ?_
            refine k_aload_n d_Meanings_countAll_116 rfl ?_
            refine k_iload_n d_Meanings_countAll_117 rfl ?_
            refine k_cvv [.inl ((-3) - (σ8.2 136 (Int.toNat s7.2)))] d_Meanings_countAll_118 ml_10_79 rfl rfl ob_10 rfl (s_Meanings_enter hL (by omega)  h) (fun σ20 h => ?_)
            refine k_aload_n d_Meanings_countAll_121 rfl ?_
            refine k_iload_n d_Meanings_countAll_122 rfl ?_
            refine k_cvv [.inl ((-3) - (σ8.2 136 (Int.toNat s7.2)))] d_Meanings_countAll_123 ml_10_82 rfl rfl ob_10 rfl (s_Meanings_countNames hL (by omega)  h) (fun σ22 h => ?_)
            refine k_aload_n d_Meanings_countAll_126 rfl ?_
            refine k_iload_n d_Meanings_countAll_127 rfl ?_
            refine k_iload_n d_Meanings_countAll_128 rfl ?_
            refine k_cvv [.inl ((-3) - (σ8.2 136 (Int.toNat s7.2))), .inl v4] d_Meanings_countAll_129 ml_10_85 rfl rfl ob_10 rfl (s_Meanings_countDeclarations hL (by omega)  h) (fun σ24 h => ?_)
            exact k_sb (sb_s (sb_s (sb_s (sb_s (sb_s (sb_n sb_nil)))))) (hJ11 (((-3) - (σ8.2 136 (Int.toNat s7.2))), s7.2) _ h)
        refine k_icne d_Meanings_countAll_77 rfl (fun c30 => ?_) (fun c30 => ?_)
        · exact hY28 (fun z => c30 z.1)
        · refine k_iload_n d_Meanings_countAll_80 rfl ?_
          refine k_iconst d_Meanings_countAll_81 cI_m1 ?_
          refine k_iceq d_Meanings_countAll_82 rfl (fun c31 => ?_) (fun c31 => ?_)
          · exact hY28 (fun z => (fun z => z c31) z.2)
          · exact hX27 (⟨c30, c31⟩)
      · have h := ipos c15 h
        obtain ⟨p32, h⟩ := h
        refine k_iinc (lv' := [some (.inr 10), none, some (.inl v4), some (.inl s7.1), some (.inl (s7.2 + 4)), some (.inl (σ8.2 136 (Int.toNat s7.2)))]) d_Meanings_countAll_68 cI_4 rfl rfl p32 rfl ?_
        refine k_goto d_Meanings_countAll_71 rfl ?_
        exact k_sb (sb_s (sb_s (sb_s (sb_s (sb_s (sb_n sb_nil)))))) (hJ11 (s7.1, (s7.2 + 4)) _ h)
theorem d_Validator_sum_0 : decode b_Validator_sum 0 = .ok (.iconst 0, 1) := by decide +kernel
theorem d_Validator_sum_1 : decode b_Validator_sum 1 = .ok (.istore_n 1, 1) := by decide +kernel
theorem d_Validator_sum_2 : decode b_Validator_sum 2 = .ok (.iconst 0, 1) := by decide +kernel
theorem d_Validator_sum_3 : decode b_Validator_sum 3 = .ok (.istore_n 2, 1) := by decide +kernel
theorem d_Validator_sum_4 : decode b_Validator_sum 4 = .ok (.iload_n 2, 1) := by decide +kernel
theorem d_Validator_sum_5 : decode b_Validator_sum 5 = .ok (.bipush 23, 2) := by decide +kernel
theorem d_Validator_sum_7 : decode b_Validator_sum 7 = .ok (.if_icmp .ge 26, 3) := by decide +kernel
theorem d_Validator_sum_10 : decode b_Validator_sum 10 = .ok (.iload_n 1, 1) := by decide +kernel
theorem d_Validator_sum_11 : decode b_Validator_sum 11 = .ok (.aload_n 0, 1) := by decide +kernel
theorem d_Validator_sum_12 : decode b_Validator_sum 12 = .ok (.getfield 39, 3) := by decide +kernel
theorem d_Validator_sum_15 : decode b_Validator_sum 15 = .ok (.iload_n 2, 1) := by decide +kernel
theorem d_Validator_sum_16 : decode b_Validator_sum 16 = .ok (.iaload, 1) := by decide +kernel
theorem d_Validator_sum_17 : decode b_Validator_sum 17 = .ok (.ifCond .le 7, 3) := by decide +kernel
theorem d_Validator_sum_20 : decode b_Validator_sum 20 = .ok (.iconst 1, 1) := by decide +kernel
theorem d_Validator_sum_21 : decode b_Validator_sum 21 = .ok (.goto 4, 3) := by decide +kernel
theorem d_Validator_sum_24 : decode b_Validator_sum 24 = .ok (.iconst 0, 1) := by decide +kernel
theorem d_Validator_sum_25 : decode b_Validator_sum 25 = .ok (.iadd, 1) := by decide +kernel
theorem d_Validator_sum_26 : decode b_Validator_sum 26 = .ok (.istore_n 1, 1) := by decide +kernel
theorem d_Validator_sum_27 : decode b_Validator_sum 27 = .ok (.iinc 2 1, 3) := by decide +kernel
theorem d_Validator_sum_30 : decode b_Validator_sum 30 = .ok (.goto (-26), 3) := by decide +kernel
theorem d_Validator_sum_33 : decode b_Validator_sum 33 = .ok (.iload_n 1, 1) := by decide +kernel
theorem d_Validator_sum_34 : decode b_Validator_sum 34 = .ok (.ireturn, 1) := by decide +kernel
/-- Validator_sum -/
def w_Validator_sum (L : Nat → Nat)  (Q : Int → IS → Prop) (σ : IS) : Prop := WL (fun (K1 : Int × Int → IS → Prop) (s3 : Int × Int) (σ4 : IS) => if s3.2 < 23 then inL L 149 s3.2 ∧ inR (s3.1 + (if 0 < (σ4.2 149 (Int.toNat s3.2)) then (1 : Int) else (0 : Int))) ∧ inR (s3.2 + 1) ∧ K1 ((s3.1 + (if 0 < (σ4.2 149 (Int.toNat s3.2)) then (1 : Int) else (0 : Int))), (s3.2 + 1)) σ4 else Q s3.1 σ4) (0, 0) σ
set_option maxHeartbeats 4000000 in
set_option maxRecDepth 20000 in
theorem s_Validator_sum {L : Nat → Nat} (hL : ∀ r, L r < 2147483648) {d : Nat} (hd : 0 ≤ d)  {Q : Int → IS → Prop} {σ : IS}  (h : w_Validator_sum L  Q σ) : OkI BF L d 8 b_Validator_sum 3 1 0 [] [some (.inr 8)] σ (qi Q) := by
  unfold w_Validator_sum at h
  refine k_sb (lv' := [some (.inr 8), none, none]) (sb_s (sb_e (sb_e sb_nil))) ?_
  refine k_iconst d_Validator_sum_0 cI_0 ?_
  refine k_istore_n (lv' := [some (.inr 8), some (.inl 0), none]) d_Validator_sum_1 rfl rfl ?_
  refine k_iconst d_Validator_sum_2 cI_0 ?_
  refine k_istore_n (lv' := [some (.inr 8), some (.inl 0), some (.inl 0)]) d_Validator_sum_3 rfl rfl ?_
  refine k_sb (lv' := [some (.inr 8), some (.inl 0), some (.inl 0)]) (sb_s (sb_s (sb_s sb_nil))) ?_
  refine k_loop (S := Int × Int) (st := fun _ => []) (lv := fun s3 => [some (.inr 8), some (.inl s3.1), some (.inl s3.2)]) (fun K1 hK2 s3 σ4 h => ?_) (0, 0) _ h
  refine k_iload_n d_Validator_sum_4 rfl ?_
  refine k_bipush d_Validator_sum_5 cB_23 ?_
  refine k_icge d_Validator_sum_7 rfl (fun c5 => ?_) (fun c5 => ?_)
  · have h := ineg c5 h
    refine k_iload_n d_Validator_sum_33 rfl ?_
    exact k_iret d_Validator_sum_34 (Or.inl rfl) h
  · have h := ipos c5 h
    refine k_iload_n d_Validator_sum_10 rfl ?_
    refine k_aload_n d_Validator_sum_11 rfl ?_
    refine k_getR d_Validator_sum_12 fl_8_39 ob_8 rfl ?_
    refine k_iload_n d_Validator_sum_15 rfl ?_
    obtain ⟨p12, h⟩ := h
    refine k_ild (x := (σ4.2 149 (Int.toNat s3.2))) d_Validator_sum_16 rI_149 p12 rfl ?_
    have hV8 : OkI BF L d 8 b_Validator_sum 3 1 25 [.inl (if 0 < (σ4.2 149 (Int.toNat s3.2)) then (1 : Int) else (0 : Int)), .inl s3.1] [some (.inr 8), some (.inl s3.1), some (.inl s3.2)] σ4 (qi Q) := by
      obtain ⟨p7, h⟩ := h
      refine k_iadd d_Validator_sum_25 p7 ?_
      refine k_istore_n (lv' := [some (.inr 8), some (.inl (s3.1 + (if 0 < (σ4.2 149 (Int.toNat s3.2)) then (1 : Int) else (0 : Int)))), some (.inl s3.2)]) d_Validator_sum_26 rfl rfl ?_
      obtain ⟨p6, h⟩ := h
      refine k_iinc (lv' := [some (.inr 8), some (.inl (s3.1 + (if 0 < (σ4.2 149 (Int.toNat s3.2)) then (1 : Int) else (0 : Int)))), some (.inl (s3.2 + 1))]) d_Validator_sum_27 cI_1 rfl rfl p6 rfl ?_
      refine k_goto d_Validator_sum_30 rfl ?_
      exact k_sb (sb_s (sb_s (sb_s sb_nil))) (hK2 ((s3.1 + (if 0 < (σ4.2 149 (Int.toNat s3.2)) then (1 : Int) else (0 : Int))), (s3.2 + 1)) _ h)
    refine k_ifle d_Validator_sum_17 rfl (fun c9 => ?_) (fun c9 => ?_)
    · have hV11 := k_eqI (if_neg c9) hV8
      refine k_iconst d_Validator_sum_24 cI_0 ?_
      exact hV11
    · have hV10 := k_eqI (if_pos c9) hV8
      refine k_iconst d_Validator_sum_20 cI_1 ?_
      refine k_goto d_Validator_sum_21 rfl ?_
      exact hV10
theorem d_J_judge_39 : decode b_J_judge 39 = .ok (.aload_n 0, 1) := by decide +kernel
theorem d_J_judge_40 : decode b_J_judge 40 = .ok (.getfield 29, 3) := by decide +kernel
theorem d_J_judge_43 : decode b_J_judge 43 = .ok (.iload_n 2, 1) := by decide +kernel
theorem d_J_judge_44 : decode b_J_judge 44 = .ok (.putfield 139, 3) := by decide +kernel
theorem d_J_judge_47 : decode b_J_judge 47 = .ok (.aload_n 0, 1) := by decide +kernel
theorem d_J_judge_48 : decode b_J_judge 48 = .ok (.getfield 29, 3) := by decide +kernel
theorem d_J_judge_51 : decode b_J_judge 51 = .ok (.iconst 1, 1) := by decide +kernel
theorem d_J_judge_52 : decode b_J_judge 52 = .ok (.invokevirtual 142, 3) := by decide +kernel
theorem d_J_judge_55 : decode b_J_judge 55 = .ok (.goto 45, 3) := by decide +kernel
theorem d_J_judge_75 : decode b_J_judge 75 = .ok (.aload_n 0, 1) := by decide +kernel
theorem d_J_judge_76 : decode b_J_judge 76 = .ok (.getfield 29, 3) := by decide +kernel
theorem d_J_judge_79 : decode b_J_judge 79 = .ok (.iconst 4, 1) := by decide +kernel
theorem d_J_judge_80 : decode b_J_judge 80 = .ok (.invokevirtual 142, 3) := by decide +kernel
theorem d_J_judge_83 : decode b_J_judge 83 = .ok (.goto 17, 3) := by decide +kernel
theorem d_J_judge_119 : decode b_J_judge 119 = .ok (.iconst 1, 1) := by decide +kernel
theorem d_J_judge_120 : decode b_J_judge 120 = .ok (.goto 4, 3) := by decide +kernel
theorem d_J_judge_135 : decode b_J_judge 135 = .ok (.iconst (-1), 1) := by decide +kernel
theorem d_J_judge_136 : decode b_J_judge 136 = .ok (.goto 10, 3) := by decide +kernel
theorem d_J_judge_165 : decode b_J_judge 165 = .ok (.aload_n 0, 1) := by decide +kernel
theorem d_J_judge_166 : decode b_J_judge 166 = .ok (.getfield 84, 3) := by decide +kernel
theorem d_J_judge_169 : decode b_J_judge 169 = .ok (.invokevirtual 166, 3) := by decide +kernel
theorem d_J_judge_172 : decode b_J_judge 172 = .ok (.aload_n 0, 1) := by decide +kernel
theorem d_J_judge_173 : decode b_J_judge 173 = .ok (.getfield 93, 3) := by decide +kernel
theorem d_J_judge_176 : decode b_J_judge 176 = .ok (.aload_n 0, 1) := by decide +kernel
theorem d_J_judge_177 : decode b_J_judge 177 = .ok (.getfield 29, 3) := by decide +kernel
theorem d_J_judge_180 : decode b_J_judge 180 = .ok (.getfield 169, 3) := by decide +kernel
theorem d_J_judge_183 : decode b_J_judge 183 = .ok (.invokevirtual 172, 3) := by decide +kernel
theorem d_J_judge_186 : decode b_J_judge 186 = .ok (.aload_n 0, 1) := by decide +kernel
theorem d_J_judge_187 : decode b_J_judge 187 = .ok (.getfield 84, 3) := by decide +kernel
theorem d_J_judge_190 : decode b_J_judge 190 = .ok (.invokevirtual 174, 3) := by decide +kernel
theorem d_J_judge_193 : decode b_J_judge 193 = .ok (.ifCond .ne 7, 3) := by decide +kernel
theorem d_J_judge_196 : decode b_J_judge 196 = .ok (.iconst 0, 1) := by decide +kernel
theorem d_J_judge_197 : decode b_J_judge 197 = .ok (.goto 4, 3) := by decide +kernel
theorem d_J_judge_200 : decode b_J_judge 200 = .ok (.iconst 1, 1) := by decide +kernel
theorem d_J_judge_201 : decode b_J_judge 201 = .ok (.ireturn, 1) := by decide +kernel
/-- J_judge -/
def w_J_judge (L : Nat → Nat)  (Q : Int → IS → Prop) (σ : IS) : Prop := w_J_forget L  (fun σ1 => w_Store_load L 100 (σ.1 0 1) (fun v4 σ3 => w_Reader_start L  (fun σ5 => WJ (fun (s9 : Unit) (σ10 : IS) => if (if (σ10.1 2 4) = 0 then (1 : Int) else (0 : Int)) = 0 then w_Tree_forget L  (fun σ22 => Q 2 σ22) (pf (pf (pf σ10 0 13 (σ10.1 2 4)) 0 12 (if (σ10.1 2 4) = 0 then (1 : Int) else (0 : Int))) 0 14 (if (if (σ10.1 2 4) = 0 then (1 : Int) else (0 : Int)) = 0 then (σ10.1 2 5) else ((-1) : Int))) else w_Validator_countAll L  (fun σ12 => w_Meanings_countAll L (σ12.1 2 6) (fun σ14 => w_Validator_sum L  (fun v17 σ16 => Q (if v17 = 0 then (0 : Int) else (1 : Int)) σ16) σ14) σ12) (pf (pf (pf σ10 0 13 (σ10.1 2 4)) 0 12 (if (σ10.1 2 4) = 0 then (1 : Int) else (0 : Int))) 0 14 (if (if (σ10.1 2 4) = 0 then (1 : Int) else (0 : Int)) = 0 then (σ10.1 2 5) else ((-1) : Int)))) (fun J7 => if v4 = (-1) then if (σ5.1 1 0) < (σ5.1 1 4) then w_Reader_fail L 4 (fun σ38 => J7 () σ38) σ5 else w_Entities_start L  (fun σ34 => w_Content_readAll L  (fun σ36 => J7 () σ36) σ34) σ5 else w_Reader_fail L 1 (fun σ40 => J7 () σ40) (pf σ5 2 5 v4))) σ3) σ1) (pf σ 0 1 0)
set_option maxHeartbeats 4000000 in
set_option maxRecDepth 20000 in
theorem s_J_judge {L : Nat → Nat} (hL : ∀ r, L r < 2147483648) {d : Nat} (hd : 7 ≤ d)  {Q : Int → IS → Prop} {σ : IS}  (h : w_J_judge L  Q σ) : OkI BF L d 0 b_J_judge 3 1 0 [] [some (.inr 0)] σ (qi Q) := by
  unfold w_J_judge at h
  obtain ⟨d, rfl⟩ : ∃ e, d = e + 1 := ⟨d - 1, by omega⟩
  refine k_sb (lv' := [some (.inr 0), none, none]) (sb_s (sb_e (sb_e sb_nil))) ?_
  refine k_aload_n d_J_judge_0 rfl ?_
  refine k_getI (x := (σ.1 0 1)) d_J_judge_1 fl_0_110 ob_0 rfl rfl ?_
  refine k_istore_n (lv' := [some (.inr 0), some (.inl (σ.1 0 1)), none]) d_J_judge_4 rfl rfl ?_
  refine k_aload_n d_J_judge_5 rfl ?_
  refine k_iconst d_J_judge_6 cI_0 ?_
  refine k_putI d_J_judge_7 fl_0_110 ob_0 rfl ?_
  refine k_aload_n d_J_judge_10 rfl ?_
  refine k_cvv [] d_J_judge_11 ml_0_129 rfl rfl ob_0 rfl (s_J_forget hL (by omega)  h) (fun σ1 h => ?_)
  refine k_aload_n d_J_judge_14 rfl ?_
  refine k_getR d_J_judge_15 fl_0_20 ob_0 rfl ?_
  refine k_aload_n d_J_judge_18 rfl ?_
  refine k_getR d_J_judge_19 fl_0_11 ob_0 rfl ?_
  refine k_iload_n d_J_judge_22 rfl ?_
  refine k_cvi [.inr 100, .inl (σ.1 0 1)] d_J_judge_23 ml_0_132 rfl rfl ob_1 rfl (s_Store_load hL (by omega) rB_100 h) (fun v4 σ3 h => ?_)
  refine k_istore_n (lv' := [some (.inr 0), some (.inl (σ.1 0 1)), some (.inl v4)]) d_J_judge_26 rfl rfl ?_
  refine k_aload_n d_J_judge_27 rfl ?_
  refine k_getR d_J_judge_28 fl_0_29 ob_0 rfl ?_
  refine k_cvv [] d_J_judge_31 ml_0_136 rfl rfl ob_2 rfl (s_Reader_start hL (by omega)  h) (fun σ5 h => ?_)
  refine k_iload_n d_J_judge_34 rfl ?_
  refine k_iconst d_J_judge_35 cI_m1 ?_
  refine k_join (S := Unit) (pc' := 100) (st' := fun s9 => []) (lv' := fun s9 => [some (.inr 0), none, none]) (fun s9 σ10 h => ?_) (fun J7 hJ8 h => ?_) h
  · refine k_aload_n d_J_judge_100 rfl ?_
    refine k_aload_n d_J_judge_101 rfl ?_
    refine k_getR d_J_judge_102 fl_0_29 ob_0 rfl ?_
    refine k_getI (x := (σ10.1 2 4)) d_J_judge_105 fl_0_155 ob_2 rfl rfl ?_
    refine k_putI d_J_judge_108 fl_0_158 ob_0 rfl ?_
    refine k_aload_n d_J_judge_111 rfl ?_
    refine k_aload_n d_J_judge_112 rfl ?_
    refine k_getI (x := (σ10.1 2 4)) d_J_judge_113 fl_0_158 ob_0 rfl rfl ?_
    have hV28 : OkI BF L (d + 1) 0 b_J_judge 3 1 124 [.inl (if (σ10.1 2 4) = 0 then (1 : Int) else (0 : Int)), .inr 0] [some (.inr 0), none, none] (pf σ10 0 13 (σ10.1 2 4)) (qi Q) := by
      refine k_putZ d_J_judge_124 fl_0_161 ob_0 rfl (it01 (Or.inr rfl) (Or.inl rfl)) ?_
      refine k_aload_n d_J_judge_127 rfl ?_
      refine k_aload_n d_J_judge_128 rfl ?_
      refine k_getI (x := (if (σ10.1 2 4) = 0 then (1 : Int) else (0 : Int))) d_J_judge_129 fl_0_161 ob_0 rfl rfl ?_
      have hV24 : OkI BF L (d + 1) 0 b_J_judge 3 1 146 [.inl (if (if (σ10.1 2 4) = 0 then (1 : Int) else (0 : Int)) = 0 then (σ10.1 2 5) else ((-1) : Int)), .inr 0] [some (.inr 0), none, none] (pf (pf σ10 0 13 (σ10.1 2 4)) 0 12 (if (σ10.1 2 4) = 0 then (1 : Int) else (0 : Int))) (qi Q) := by
        refine k_putI d_J_judge_146 fl_0_106 ob_0 rfl ?_
        refine k_aload_n d_J_judge_149 rfl ?_
        refine k_getI (x := (if (σ10.1 2 4) = 0 then (1 : Int) else (0 : Int))) d_J_judge_150 fl_0_161 ob_0 rfl rfl ?_
        refine k_ifne d_J_judge_153 rfl (fun c11 => ?_) (fun c11 => ?_)
        · have h := ineg c11 h
          refine k_aload_n d_J_judge_165 rfl ?_
          refine k_getR d_J_judge_166 fl_0_84 ob_0 rfl ?_
          refine k_cvv [] d_J_judge_169 ml_0_166 rfl rfl ob_8 rfl (s_Validator_countAll hL (by omega)  h) (fun σ12 h => ?_)
          refine k_aload_n d_J_judge_172 rfl ?_
          refine k_getR d_J_judge_173 fl_0_93 ob_0 rfl ?_
          refine k_aload_n d_J_judge_176 rfl ?_
          refine k_getR d_J_judge_177 fl_0_29 ob_0 rfl ?_
          refine k_getI (x := (σ12.1 2 6)) d_J_judge_180 fl_0_169 ob_2 rfl rfl ?_
          refine k_cvv [.inl (σ12.1 2 6)] d_J_judge_183 ml_0_172 rfl rfl ob_10 rfl (s_Meanings_countAll hL (by omega)  h) (fun σ14 h => ?_)
          refine k_aload_n d_J_judge_186 rfl ?_
          refine k_getR d_J_judge_187 fl_0_84 ob_0 rfl ?_
          refine k_cvi [] d_J_judge_190 ml_0_174 rfl rfl ob_8 rfl (s_Validator_sum hL (by omega)  h) (fun v17 σ16 h => ?_)
          have hV18 : OkI BF L (d + 1) 0 b_J_judge 3 1 201 [.inl (if v17 = 0 then (0 : Int) else (1 : Int))] [some (.inr 0), none, none] σ16 (qi Q) := by
            exact k_iret d_J_judge_201 (Or.inl rfl) h
          refine k_ifne d_J_judge_193 rfl (fun c19 => ?_) (fun c19 => ?_)
          · have hV21 := k_eqI (if_neg c19) hV18
            refine k_iconst d_J_judge_200 cI_1 ?_
            exact hV21
          · have hV20 := k_eqI (if_pos c19) hV18
            refine k_iconst d_J_judge_196 cI_0 ?_
            refine k_goto d_J_judge_197 rfl ?_
            exact hV20
        · have h := ipos c11 h
          refine k_aload_n d_J_judge_156 rfl ?_
          refine k_getR d_J_judge_157 fl_0_63 ob_0 rfl ?_
          refine k_cvv [] d_J_judge_160 ml_0_165 rfl rfl ob_6 rfl (s_Tree_forget hL (by omega)  h) (fun σ22 h => ?_)
          refine k_iconst d_J_judge_163 cI_2 ?_
          exact k_iret d_J_judge_164 (Or.inl rfl) h
      refine k_ifeq d_J_judge_132 rfl (fun c25 => ?_) (fun c25 => ?_)
      · have hV26 := k_eqI (if_pos c25) hV24
        refine k_aload_n d_J_judge_139 rfl ?_
        refine k_getR d_J_judge_140 fl_0_29 ob_0 rfl ?_
        refine k_getI (x := (σ10.1 2 5)) d_J_judge_143 fl_0_139 ob_2 rfl rfl ?_
        exact hV26
      · have hV27 := k_eqI (if_neg c25) hV24
        refine k_iconst d_J_judge_135 cI_m1 ?_
        refine k_goto d_J_judge_136 rfl ?_
        exact hV27
    refine k_ifne d_J_judge_116 rfl (fun c29 => ?_) (fun c29 => ?_)
    · have hV31 := k_eqI (if_neg c29) hV28
      refine k_iconst d_J_judge_123 cI_0 ?_
      exact hV31
    · have hV30 := k_eqI (if_pos c29) hV28
      refine k_iconst d_J_judge_119 cI_1 ?_
      refine k_goto d_J_judge_120 rfl ?_
      exact hV30
  · refine k_iceq d_J_judge_36 rfl (fun c32 => ?_) (fun c32 => ?_)
    · have h := ipos c32 h
      refine k_aload_n d_J_judge_58 rfl ?_
      refine k_getR d_J_judge_59 fl_0_20 ob_0 rfl ?_
      refine k_getI (x := (σ5.1 1 4)) d_J_judge_62 fl_0_145 ob_1 rfl rfl ?_
      refine k_aload_n d_J_judge_65 rfl ?_
      refine k_getR d_J_judge_66 fl_0_20 ob_0 rfl ?_
      refine k_getI (x := (σ5.1 1 0)) d_J_judge_69 fl_0_148 ob_1 rfl rfl ?_
      refine k_icle d_J_judge_72 rfl (fun c33 => ?_) (fun c33 => ?_)
      · have h := ineg c33 h
        refine k_aload_n d_J_judge_86 rfl ?_
        refine k_getR d_J_judge_87 fl_0_38 ob_0 rfl ?_
        refine k_cvv [] d_J_judge_90 ml_0_151 rfl rfl ob_3 rfl (s_Entities_start hL (by omega)  h) (fun σ34 h => ?_)
        refine k_aload_n d_J_judge_93 rfl ?_
        refine k_getR d_J_judge_94 fl_0_72 ob_0 rfl ?_
        refine k_cvv [] d_J_judge_97 ml_0_152 rfl rfl ob_7 rfl (s_Content_readAll hL (by omega)  h) (fun σ36 h => ?_)
        exact k_sb (sb_s (sb_n (sb_n sb_nil))) (hJ8 () _ h)
      · have h := ipos c33 h
        refine k_aload_n d_J_judge_75 rfl ?_
        refine k_getR d_J_judge_76 fl_0_29 ob_0 rfl ?_
        refine k_iconst d_J_judge_79 cI_4 ?_
        refine k_cvv [.inl 4] d_J_judge_80 ml_0_142 rfl rfl ob_2 rfl (s_Reader_fail hL (by omega)  h) (fun σ38 h => ?_)
        refine k_goto d_J_judge_83 rfl ?_
        exact k_sb (sb_s (sb_n (sb_n sb_nil))) (hJ8 () _ h)
    · have h := ineg c32 h
      refine k_aload_n d_J_judge_39 rfl ?_
      refine k_getR d_J_judge_40 fl_0_29 ob_0 rfl ?_
      refine k_iload_n d_J_judge_43 rfl ?_
      refine k_putI d_J_judge_44 fl_0_139 ob_2 rfl ?_
      refine k_aload_n d_J_judge_47 rfl ?_
      refine k_getR d_J_judge_48 fl_0_29 ob_0 rfl ?_
      refine k_iconst d_J_judge_51 cI_1 ?_
      refine k_cvv [.inl 1] d_J_judge_52 ml_0_142 rfl rfl ob_2 rfl (s_Reader_fail hL (by omega)  h) (fun σ40 h => ?_)
      refine k_goto d_J_judge_55 rfl ?_
      exact k_sb (sb_s (sb_n (sb_n sb_nil))) (hJ8 () _ h)
theorem d_J_name_11 : decode b_J_name 11 = .ok (.aload_n 0, 1) := by decide +kernel
theorem d_J_name_12 : decode b_J_name 12 = .ok (.getfield 20, 3) := by decide +kernel
theorem d_J_name_15 : decode b_J_name 15 = .ok (.aload_n 0, 1) := by decide +kernel
theorem d_J_name_16 : decode b_J_name 16 = .ok (.getfield 63, 3) := by decide +kernel
theorem d_J_name_19 : decode b_J_name 19 = .ok (.getfield 205, 3) := by decide +kernel
theorem d_J_name_22 : decode b_J_name 22 = .ok (.iload_n 1, 1) := by decide +kernel
theorem d_J_name_23 : decode b_J_name 23 = .ok (.iaload, 1) := by decide +kernel
theorem d_J_name_24 : decode b_J_name 24 = .ok (.iload_n 2, 1) := by decide +kernel
theorem d_J_name_25 : decode b_J_name 25 = .ok (.invokevirtual 208, 3) := by decide +kernel
theorem d_J_name_28 : decode b_J_name 28 = .ok (.goto 4, 3) := by decide +kernel
/-- J_name -/
def w_J_name (L : Nat → Nat) (a1 : Int) (a2 : Int) (Q : Int → IS → Prop) (σ : IS) : Prop := w_Tree_has L a1 (fun v2 σ1 => WJ (fun (s5 : Int) (σ6 : IS) => Q s5 σ6) (fun J3 => if v2 = 0 then J3 (-1) σ1 else inL L 146 a1 ∧ w_Store_letter L (σ1.2 146 (Int.toNat a1)) a2 (fun v9 σ8 => J3 v9 σ8) σ1)) σ
set_option maxHeartbeats 4000000 in
set_option maxRecDepth 20000 in
theorem s_J_name {L : Nat → Nat} (hL : ∀ r, L r < 2147483648) {d : Nat} (hd : 1 ≤ d) {a1 : Int} {a2 : Int} {Q : Int → IS → Prop} {σ : IS}  (h : w_J_name L a1 a2 Q σ) : OkI BF L d 0 b_J_name 3 1 0 [] [some (.inr 0), some (.inl a1), some (.inl a2)] σ (qi Q) := by
  unfold w_J_name at h
  obtain ⟨d, rfl⟩ : ∃ e, d = e + 1 := ⟨d - 1, by omega⟩
  refine k_sb (lv' := [some (.inr 0), some (.inl a1), some (.inl a2)]) (sb_s (sb_s (sb_s sb_nil))) ?_
  refine k_aload_n d_J_name_0 rfl ?_
  refine k_getR d_J_name_1 fl_0_63 ob_0 rfl ?_
  refine k_iload_n d_J_name_4 rfl ?_
  refine k_cvi [.inl a1] d_J_name_5 ml_0_195 rfl rfl ob_6 rfl (s_Tree_has hL (by omega)  h) (fun v2 σ1 h => ?_)
  refine k_join (S := Int) (pc' := 32) (st' := fun s5 => [.inl s5]) (lv' := fun s5 => [none, none, none]) (fun s5 σ6 h => ?_) (fun J3 hJ4 h => ?_) h
  · exact k_iret d_J_name_32 (Or.inl rfl) h
  · refine k_ifeq d_J_name_8 rfl (fun c7 => ?_) (fun c7 => ?_)
    · have h := ipos c7 h
      refine k_iconst d_J_name_31 cI_m1 ?_
      exact k_sb (sb_n (sb_n (sb_n sb_nil))) (hJ4 (-1) _ h)
    · have h := ineg c7 h
      refine k_aload_n d_J_name_11 rfl ?_
      refine k_getR d_J_name_12 fl_0_20 ob_0 rfl ?_
      refine k_aload_n d_J_name_15 rfl ?_
      refine k_getR d_J_name_16 fl_0_63 ob_0 rfl ?_
      refine k_getR d_J_name_19 fl_0_205 ob_6 rfl ?_
      refine k_iload_n d_J_name_22 rfl ?_
      obtain ⟨p10, h⟩ := h
      refine k_ild (x := (σ1.2 146 (Int.toNat a1))) d_J_name_23 rI_146 p10 rfl ?_
      refine k_iload_n d_J_name_24 rfl ?_
      refine k_cvi [.inl (σ1.2 146 (Int.toNat a1)), .inl a2] d_J_name_25 ml_0_208 rfl rfl ob_1 rfl (s_Store_letter hL (by omega)  h) (fun v9 σ8 h => ?_)
      refine k_goto d_J_name_28 rfl ?_
      exact k_sb (sb_n (sb_n (sb_n sb_nil))) (hJ4 v9 _ h)
theorem d_J_out_15 : decode b_J_out 15 = .ok (.aload_n 0, 1) := by decide +kernel
theorem d_J_out_16 : decode b_J_out 16 = .ok (.getfield 102, 3) := by decide +kernel
theorem d_J_out_19 : decode b_J_out 19 = .ok (.getfield 241, 3) := by decide +kernel
theorem d_J_out_22 : decode b_J_out 22 = .ok (.iload_n 1, 1) := by decide +kernel
theorem d_J_out_23 : decode b_J_out 23 = .ok (.baload, 1) := by decide +kernel
theorem d_J_out_24 : decode b_J_out 24 = .ok (.sipush 255, 3) := by decide +kernel
theorem d_J_out_27 : decode b_J_out 27 = .ok (.iand, 1) := by decide +kernel
theorem d_J_out_28 : decode b_J_out 28 = .ok (.goto 4, 3) := by decide +kernel
/-- J_out -/
def w_J_out (L : Nat → Nat) (a1 : Int) (Q : Int → IS → Prop) (σ : IS) : Prop := ((¬ a1 < 0 → (a1 < (σ.1 11 4) → (dyB (σ.1 11 3) ∧ inL L (Int.toNat (σ.1 11 3)) a1)))) ∧ Q (if a1 < 0 then ((-1) : Int) else (if a1 < (σ.1 11 4) then (ia (σ.2 (Int.toNat (σ.1 11 3)) (Int.toNat a1)) 255) else ((-1) : Int))) σ
set_option maxHeartbeats 4000000 in
set_option maxRecDepth 20000 in
theorem s_J_out {L : Nat → Nat} (hL : ∀ r, L r < 2147483648) {d : Nat} (hd : 0 ≤ d) {a1 : Int} {Q : Int → IS → Prop} {σ : IS}  (h : w_J_out L a1 Q σ) : OkI BF L d 0 b_J_out 2 1 0 [] [some (.inr 0), some (.inl a1)] σ (qi Q) := by
  unfold w_J_out at h
  refine k_sb (lv' := [some (.inr 0), some (.inl a1)]) (sb_s (sb_s sb_nil)) ?_
  refine k_iload_n d_J_out_0 rfl ?_
  obtain ⟨pt4, h⟩ := h
  have hV3 : OkI BF L d 0 b_J_out 2 1 32 [.inl (if a1 < 0 then ((-1) : Int) else (if a1 < (σ.1 11 4) then (ia (σ.2 (Int.toNat (σ.1 11 3)) (Int.toNat a1)) 255) else ((-1) : Int)))] [some (.inr 0), some (.inl a1)] σ (qi Q) := by
    exact k_iret d_J_out_32 (Or.inl rfl) h
  have pb5 := pt4
  refine k_iflt d_J_out_1 rfl (fun c6 => ?_) (fun c6 => ?_)
  · have hV7 := k_eqI (if_pos c6) hV3
    refine k_iconst d_J_out_31 cI_m1 ?_
    exact hV7
  · have pb5 := pb5 c6
    have hV8 := k_eqI (if_neg c6) hV3
    have pa9 := pb5
    refine k_iload_n d_J_out_4 rfl ?_
    refine k_aload_n d_J_out_5 rfl ?_
    refine k_getR d_J_out_6 fl_0_102 ob_0 rfl ?_
    refine k_getI (x := (σ.1 11 4)) d_J_out_9 fl_0_238 ob_11 rfl rfl ?_
    refine k_icge d_J_out_12 rfl (fun c10 => ?_) (fun c10 => ?_)
    · have hV12 := k_eqI (if_neg c10) hV8
      refine k_iconst d_J_out_31 cI_m1 ?_
      exact hV12
    · have pa9 := pa9 c10
      have hV11 := k_eqI (if_pos c10) hV8
      obtain ⟨y1, p2⟩ := pa9
      refine k_aload_n d_J_out_15 rfl ?_
      refine k_getR d_J_out_16 fl_0_102 ob_0 rfl ?_
      refine k_getD (x := (σ.1 11 3)) d_J_out_19 fl_0_241 ob_11 rfl rfl (dyB_pos y1) ?_
      refine k_iload_n d_J_out_22 rfl ?_
      refine k_bld (x := (σ.2 (Int.toNat (σ.1 11 3)) (Int.toNat a1))) d_J_out_23 (rb_B (dyB_row y1)) p2 rfl ?_
      refine k_sipush d_J_out_24 cS_255 ?_
      refine k_iand d_J_out_27 ?_
      refine k_goto d_J_out_28 rfl ?_
      exact hV11
theorem d_J_parent_11 : decode b_J_parent 11 = .ok (.aload_n 0, 1) := by decide +kernel
theorem d_J_parent_12 : decode b_J_parent 12 = .ok (.getfield 63, 3) := by decide +kernel
theorem d_J_parent_15 : decode b_J_parent 15 = .ok (.getfield 202, 3) := by decide +kernel
theorem d_J_parent_18 : decode b_J_parent 18 = .ok (.iload_n 1, 1) := by decide +kernel
theorem d_J_parent_19 : decode b_J_parent 19 = .ok (.iaload, 1) := by decide +kernel
theorem d_J_parent_20 : decode b_J_parent 20 = .ok (.goto 4, 3) := by decide +kernel
/-- J_parent -/
def w_J_parent (L : Nat → Nat) (a1 : Int) (Q : Int → IS → Prop) (σ : IS) : Prop := w_Tree_has L a1 (fun v2 σ1 => ((¬ v2 = 0 → inL L 129 a1)) ∧ Q (if v2 = 0 then ((-1) : Int) else (σ1.2 129 (Int.toNat a1))) σ1) σ
set_option maxHeartbeats 4000000 in
set_option maxRecDepth 20000 in
theorem s_J_parent {L : Nat → Nat} (hL : ∀ r, L r < 2147483648) {d : Nat} (hd : 1 ≤ d) {a1 : Int} {Q : Int → IS → Prop} {σ : IS}  (h : w_J_parent L a1 Q σ) : OkI BF L d 0 b_J_parent 2 1 0 [] [some (.inr 0), some (.inl a1)] σ (qi Q) := by
  unfold w_J_parent at h
  obtain ⟨d, rfl⟩ : ∃ e, d = e + 1 := ⟨d - 1, by omega⟩
  refine k_sb (lv' := [some (.inr 0), some (.inl a1)]) (sb_s (sb_s sb_nil)) ?_
  refine k_aload_n d_J_parent_0 rfl ?_
  refine k_getR d_J_parent_1 fl_0_63 ob_0 rfl ?_
  refine k_iload_n d_J_parent_4 rfl ?_
  refine k_cvi [.inl a1] d_J_parent_5 ml_0_195 rfl rfl ob_6 rfl (s_Tree_has hL (by omega)  h) (fun v2 σ1 h => ?_)
  obtain ⟨pt5, h⟩ := h
  have hV4 : OkI BF L (d + 1) 0 b_J_parent 2 1 24 [.inl (if v2 = 0 then ((-1) : Int) else (σ1.2 129 (Int.toNat a1)))] [some (.inr 0), some (.inl a1)] σ1 (qi Q) := by
    exact k_iret d_J_parent_24 (Or.inl rfl) h
  have pb6 := pt5
  refine k_ifeq d_J_parent_8 rfl (fun c7 => ?_) (fun c7 => ?_)
  · have hV8 := k_eqI (if_pos c7) hV4
    refine k_iconst d_J_parent_23 cI_m1 ?_
    exact hV8
  · have pb6 := pb6 c7
    have hV9 := k_eqI (if_neg c7) hV4
    have p3 := pb6
    refine k_aload_n d_J_parent_11 rfl ?_
    refine k_getR d_J_parent_12 fl_0_63 ob_0 rfl ?_
    refine k_getR d_J_parent_15 fl_0_202 ob_6 rfl ?_
    refine k_iload_n d_J_parent_18 rfl ?_
    refine k_ild (x := (σ1.2 129 (Int.toNat a1))) d_J_parent_19 rI_129 p3 rfl ?_
    refine k_goto d_J_parent_20 rfl ?_
    exact hV9
/-- J_place -/
def w_J_place (L : Nat → Nat)  (Q : Int → IS → Prop) (σ : IS) : Prop := Q (σ.1 0 14) σ
set_option maxHeartbeats 4000000 in
set_option maxRecDepth 20000 in
theorem s_J_place {L : Nat → Nat} (hL : ∀ r, L r < 2147483648) {d : Nat} (hd : 0 ≤ d)  {Q : Int → IS → Prop} {σ : IS}  (h : w_J_place L  Q σ) : OkI BF L d 0 b_J_place 1 1 0 [] [some (.inr 0)] σ (qi Q) := by
  unfold w_J_place at h
  refine k_sb (lv' := [some (.inr 0)]) (sb_s sb_nil) ?_
  refine k_aload_n d_J_place_0 rfl ?_
  refine k_getI (x := (σ.1 0 14)) d_J_place_1 fl_0_106 ob_0 rfl rfl ?_
  exact k_iret d_J_place_4 (Or.inl rfl) h
theorem d_J_spaces_7 : decode b_J_spaces 7 = .ok (.iload_n 1, 1) := by decide +kernel
theorem d_J_spaces_8 : decode b_J_spaces 8 = .ok (.ifCond .lt 21, 3) := by decide +kernel
theorem d_J_spaces_11 : decode b_J_spaces 11 = .ok (.iload_n 1, 1) := by decide +kernel
theorem d_J_spaces_12 : decode b_J_spaces 12 = .ok (.bipush 6, 2) := by decide +kernel
theorem d_J_spaces_14 : decode b_J_spaces 14 = .ok (.if_icmp .ge 15, 3) := by decide +kernel
theorem d_J_spaces_17 : decode b_J_spaces 17 = .ok (.aload_n 0, 1) := by decide +kernel
theorem d_J_spaces_18 : decode b_J_spaces 18 = .ok (.getfield 93, 3) := by decide +kernel
theorem d_J_spaces_21 : decode b_J_spaces 21 = .ok (.getfield 191, 3) := by decide +kernel
theorem d_J_spaces_24 : decode b_J_spaces 24 = .ok (.iload_n 1, 1) := by decide +kernel
theorem d_J_spaces_25 : decode b_J_spaces 25 = .ok (.iaload, 1) := by decide +kernel
theorem d_J_spaces_26 : decode b_J_spaces 26 = .ok (.goto 4, 3) := by decide +kernel
/-- J_spaces -/
def w_J_spaces (L : Nat → Nat) (a1 : Int) (Q : Int → IS → Prop) (σ : IS) : Prop := ((¬ (σ.1 0 12) = 0 → (¬ a1 < 0 → (a1 < 6 → inL L 160 a1)))) ∧ Q (if (σ.1 0 12) = 0 then ((-1) : Int) else (if a1 < 0 then ((-1) : Int) else (if a1 < 6 then (σ.2 160 (Int.toNat a1)) else ((-1) : Int)))) σ
set_option maxHeartbeats 4000000 in
set_option maxRecDepth 20000 in
theorem s_J_spaces {L : Nat → Nat} (hL : ∀ r, L r < 2147483648) {d : Nat} (hd : 0 ≤ d) {a1 : Int} {Q : Int → IS → Prop} {σ : IS}  (h : w_J_spaces L a1 Q σ) : OkI BF L d 0 b_J_spaces 2 1 0 [] [some (.inr 0), some (.inl a1)] σ (qi Q) := by
  unfold w_J_spaces at h
  refine k_sb (lv' := [some (.inr 0), some (.inl a1)]) (sb_s (sb_s sb_nil)) ?_
  refine k_aload_n d_J_spaces_0 rfl ?_
  refine k_getI (x := (σ.1 0 12)) d_J_spaces_1 fl_0_161 ob_0 rfl rfl ?_
  obtain ⟨pt3, h⟩ := h
  have hV2 : OkI BF L d 0 b_J_spaces 2 1 30 [.inl (if (σ.1 0 12) = 0 then ((-1) : Int) else (if a1 < 0 then ((-1) : Int) else (if a1 < 6 then (σ.2 160 (Int.toNat a1)) else ((-1) : Int))))] [some (.inr 0), some (.inl a1)] σ (qi Q) := by
    exact k_iret d_J_spaces_30 (Or.inl rfl) h
  have pb4 := pt3
  refine k_ifeq d_J_spaces_4 rfl (fun c5 => ?_) (fun c5 => ?_)
  · have hV6 := k_eqI (if_pos c5) hV2
    refine k_iconst d_J_spaces_29 cI_m1 ?_
    exact hV6
  · have pb4 := pb4 c5
    have hV7 := k_eqI (if_neg c5) hV2
    have pb8 := pb4
    refine k_iload_n d_J_spaces_7 rfl ?_
    refine k_iflt d_J_spaces_8 rfl (fun c9 => ?_) (fun c9 => ?_)
    · have hV10 := k_eqI (if_pos c9) hV7
      refine k_iconst d_J_spaces_29 cI_m1 ?_
      exact hV10
    · have pb8 := pb8 c9
      have hV11 := k_eqI (if_neg c9) hV7
      have pa12 := pb8
      refine k_iload_n d_J_spaces_11 rfl ?_
      refine k_bipush d_J_spaces_12 cB_6 ?_
      refine k_icge d_J_spaces_14 rfl (fun c13 => ?_) (fun c13 => ?_)
      · have hV15 := k_eqI (if_neg c13) hV11
        refine k_iconst d_J_spaces_29 cI_m1 ?_
        exact hV15
      · have pa12 := pa12 c13
        have hV14 := k_eqI (if_pos c13) hV11
        have p1 := pa12
        refine k_aload_n d_J_spaces_17 rfl ?_
        refine k_getR d_J_spaces_18 fl_0_93 ob_0 rfl ?_
        refine k_getR d_J_spaces_21 fl_0_191 ob_10 rfl ?_
        refine k_iload_n d_J_spaces_24 rfl ?_
        refine k_ild (x := (σ.2 160 (Int.toNat a1))) d_J_spaces_25 rI_160 p1 rfl ?_
        refine k_goto d_J_spaces_26 rfl ?_
        exact hV14
/-- J_steady -/
def w_J_steady (L : Nat → Nat)  (Q : Int → IS → Prop) (σ : IS) : Prop := Q 1 σ
set_option maxHeartbeats 4000000 in
set_option maxRecDepth 20000 in
theorem s_J_steady {L : Nat → Nat} (hL : ∀ r, L r < 2147483648) {d : Nat} (hd : 0 ≤ d)  {Q : Int → IS → Prop} {σ : IS}  (h : w_J_steady L  Q σ) : OkI BF L d 0 b_J_steady 1 2 0 [] [some (.inr 0)] σ (qi Q) := by
  unfold w_J_steady at h
  refine k_sb (lv' := [some (.inr 0)]) (sb_s sb_nil) ?_
  refine k_iconst d_J_steady_0 cI_1 ?_
  exact k_iret d_J_steady_1 (Or.inr ⟨rfl, Or.inr rfl⟩) h
/-- J_take -/
def w_J_take (L : Nat → Nat) (a1 : Int) (Q : IS → Prop) (σ : IS) : Prop := WL (fun (K1 : Int → IS → Prop) (s3 : Int) (σ4 : IS) => if ¬ s3 < 0 ∧ ((σ4.1 0 1) < 65536) then inL L 100 (σ4.1 0 1) ∧ inR ((σ4.1 0 1) + 1) ∧ inR (s3 + (-8)) ∧ K1 (s3 + (-8)) (pf (pr σ4 100 (Int.toNat (σ4.1 0 1)) (nb (iur a1 s3))) 0 1 ((σ4.1 0 1) + 1)) else Q σ4) 24 σ
set_option maxHeartbeats 4000000 in
set_option maxRecDepth 20000 in
theorem s_J_take {L : Nat → Nat} (hL : ∀ r, L r < 2147483648) {d : Nat} (hd : 0 ≤ d) {a1 : Int} {Q : IS → Prop} {σ : IS}  (h : w_J_take L a1 Q σ) : OkI BF L d 0 b_J_take 3 0 0 [] [some (.inr 0), some (.inl a1)] σ (qv Q) := by
  unfold w_J_take at h
  refine k_sb (lv' := [some (.inr 0), some (.inl a1), none]) (sb_s (sb_s (sb_e sb_nil))) ?_
  refine k_bipush d_J_take_0 cB_24 ?_
  refine k_istore_n (lv' := [some (.inr 0), some (.inl a1), some (.inl 24)]) d_J_take_2 rfl rfl ?_
  refine k_sb (lv' := [some (.inr 0), some (.inl a1), some (.inl 24)]) (sb_s (sb_s (sb_s sb_nil))) ?_
  refine k_loop (S := Int) (st := fun _ => []) (lv := fun s3 => [some (.inr 0), some (.inl a1), some (.inl s3)]) (fun K1 hK2 s3 σ4 h => ?_) 24 _ h
  refine k_iload_n d_J_take_3 rfl ?_
  have hX8 : (¬ s3 < 0 ∧ ((σ4.1 0 1) < 65536)) → OkI BF L d 0 b_J_take 3 0 16 [] [some (.inr 0), some (.inl a1), some (.inl s3)] σ4 (qv Q) := fun e10 => by
    have h := ipos e10 h
    refine k_aload_n d_J_take_16 rfl ?_
    refine k_getR d_J_take_17 fl_0_11 ob_0 rfl ?_
    refine k_aload_n d_J_take_20 rfl ?_
    refine k_getI (x := (σ4.1 0 1)) d_J_take_21 fl_0_110 ob_0 rfl rfl ?_
    refine k_iload_n d_J_take_24 rfl ?_
    refine k_iload_n d_J_take_25 rfl ?_
    refine k_iushr d_J_take_26 ?_
    refine k_i2b d_J_take_27 ?_
    obtain ⟨p7, h⟩ := h
    refine k_bst d_J_take_28 rb_100 p7 (nb_in _) ?_
    refine k_aload_n d_J_take_29 rfl ?_
    refine k_dup d_J_take_30 ?_
    refine k_getI (x := (σ4.1 0 1)) d_J_take_31 fl_0_110 ob_0 rfl rfl ?_
    refine k_iconst d_J_take_34 cI_1 ?_
    obtain ⟨p6, h⟩ := h
    refine k_iadd d_J_take_35 p6 ?_
    refine k_putI d_J_take_36 fl_0_110 ob_0 rfl ?_
    obtain ⟨p5, h⟩ := h
    refine k_iinc (lv' := [some (.inr 0), some (.inl a1), some (.inl (s3 + (-8)))]) d_J_take_39 cI_m8 rfl rfl p5 rfl ?_
    refine k_goto d_J_take_42 rfl ?_
    exact k_sb (sb_s (sb_s (sb_s sb_nil))) (hK2 (s3 + (-8)) _ h)
  have hY9 : ¬ (¬ s3 < 0 ∧ ((σ4.1 0 1) < 65536)) → OkI BF L d 0 b_J_take 3 0 45 [] [some (.inr 0), some (.inl a1), some (.inl s3)] σ4 (qv Q) := fun e10 => by
    have h := ineg e10 h
    exact k_ret d_J_take_45 h
  refine k_iflt d_J_take_4 rfl (fun c11 => ?_) (fun c11 => ?_)
  · exact hY9 (fun z => z.1 c11)
  · refine k_aload_n d_J_take_7 rfl ?_
    refine k_getI (x := (σ4.1 0 1)) d_J_take_8 fl_0_110 ob_0 rfl rfl ?_
    refine k_ldc d_J_take_11 ks_0_10 cL_65536 ?_
    refine k_icge d_J_take_13 rfl (fun c12 => ?_) (fun c12 => ?_)
    · exact hY9 (fun z => (c12) z.2)
    · exact hX8 (⟨c11, c12⟩)
theorem d_J_violations_7 : decode b_J_violations 7 = .ok (.iload_n 1, 1) := by decide +kernel
theorem d_J_violations_8 : decode b_J_violations 8 = .ok (.ifCond .lt 21, 3) := by decide +kernel
theorem d_J_violations_11 : decode b_J_violations 11 = .ok (.iload_n 1, 1) := by decide +kernel
theorem d_J_violations_12 : decode b_J_violations 12 = .ok (.bipush 23, 2) := by decide +kernel
theorem d_J_violations_14 : decode b_J_violations 14 = .ok (.if_icmp .ge 15, 3) := by decide +kernel
theorem d_J_violations_17 : decode b_J_violations 17 = .ok (.aload_n 0, 1) := by decide +kernel
theorem d_J_violations_18 : decode b_J_violations 18 = .ok (.getfield 84, 3) := by decide +kernel
theorem d_J_violations_21 : decode b_J_violations 21 = .ok (.getfield 187, 3) := by decide +kernel
theorem d_J_violations_24 : decode b_J_violations 24 = .ok (.iload_n 1, 1) := by decide +kernel
theorem d_J_violations_25 : decode b_J_violations 25 = .ok (.iaload, 1) := by decide +kernel
theorem d_J_violations_26 : decode b_J_violations 26 = .ok (.goto 4, 3) := by decide +kernel
/-- J_violations -/
def w_J_violations (L : Nat → Nat) (a1 : Int) (Q : Int → IS → Prop) (σ : IS) : Prop := ((¬ (σ.1 0 12) = 0 → (¬ a1 < 0 → (a1 < 23 → inL L 149 a1)))) ∧ Q (if (σ.1 0 12) = 0 then ((-1) : Int) else (if a1 < 0 then ((-1) : Int) else (if a1 < 23 then (σ.2 149 (Int.toNat a1)) else ((-1) : Int)))) σ
set_option maxHeartbeats 4000000 in
set_option maxRecDepth 20000 in
theorem s_J_violations {L : Nat → Nat} (hL : ∀ r, L r < 2147483648) {d : Nat} (hd : 0 ≤ d) {a1 : Int} {Q : Int → IS → Prop} {σ : IS}  (h : w_J_violations L a1 Q σ) : OkI BF L d 0 b_J_violations 2 1 0 [] [some (.inr 0), some (.inl a1)] σ (qi Q) := by
  unfold w_J_violations at h
  refine k_sb (lv' := [some (.inr 0), some (.inl a1)]) (sb_s (sb_s sb_nil)) ?_
  refine k_aload_n d_J_violations_0 rfl ?_
  refine k_getI (x := (σ.1 0 12)) d_J_violations_1 fl_0_161 ob_0 rfl rfl ?_
  obtain ⟨pt3, h⟩ := h
  have hV2 : OkI BF L d 0 b_J_violations 2 1 30 [.inl (if (σ.1 0 12) = 0 then ((-1) : Int) else (if a1 < 0 then ((-1) : Int) else (if a1 < 23 then (σ.2 149 (Int.toNat a1)) else ((-1) : Int))))] [some (.inr 0), some (.inl a1)] σ (qi Q) := by
    exact k_iret d_J_violations_30 (Or.inl rfl) h
  have pb4 := pt3
  refine k_ifeq d_J_violations_4 rfl (fun c5 => ?_) (fun c5 => ?_)
  · have hV6 := k_eqI (if_pos c5) hV2
    refine k_iconst d_J_violations_29 cI_m1 ?_
    exact hV6
  · have pb4 := pb4 c5
    have hV7 := k_eqI (if_neg c5) hV2
    have pb8 := pb4
    refine k_iload_n d_J_violations_7 rfl ?_
    refine k_iflt d_J_violations_8 rfl (fun c9 => ?_) (fun c9 => ?_)
    · have hV10 := k_eqI (if_pos c9) hV7
      refine k_iconst d_J_violations_29 cI_m1 ?_
      exact hV10
    · have pb8 := pb8 c9
      have hV11 := k_eqI (if_neg c9) hV7
      have pa12 := pb8
      refine k_iload_n d_J_violations_11 rfl ?_
      refine k_bipush d_J_violations_12 cB_23 ?_
      refine k_icge d_J_violations_14 rfl (fun c13 => ?_) (fun c13 => ?_)
      · have hV15 := k_eqI (if_neg c13) hV11
        refine k_iconst d_J_violations_29 cI_m1 ?_
        exact hV15
      · have pa12 := pa12 c13
        have hV14 := k_eqI (if_pos c13) hV11
        have p1 := pa12
        refine k_aload_n d_J_violations_17 rfl ?_
        refine k_getR d_J_violations_18 fl_0_84 ob_0 rfl ?_
        refine k_getR d_J_violations_21 fl_0_187 ob_8 rfl ?_
        refine k_iload_n d_J_violations_24 rfl ?_
        refine k_ild (x := (σ.2 149 (Int.toNat a1))) d_J_violations_25 rI_149 p1 rfl ?_
        refine k_goto d_J_violations_26 rfl ?_
        exact hV14
/-- Store_keep -/
def w_Store_keep (L : Nat → Nat) (a1 : Nat) (Q : IS → Prop) (σ : IS) : Prop := WL (fun (K1 : Int → IS → Prop) (s3 : Int) (σ4 : IS) => if s3 < (tN a1) then ((0 : Int) ≤ s3 ∧ s3 < tN a1) ∧ w_Store_add L (tC a1 s3) (fun σ8 => inR (s3 + 1) ∧ K1 (s3 + 1) σ8) σ4 else w_Store_intern L (σ.1 1 3) (tN a1) (fun v7 σ6 => Q σ6) σ4) 0 σ
set_option maxHeartbeats 4000000 in
set_option maxRecDepth 20000 in
theorem s_Store_keep {L : Nat → Nat} (hL : ∀ r, L r < 2147483648) {d : Nat} (hd : 2 ≤ d) {B : MB} {a1 : Nat} {Q : IS → Prop} {σ : IS} (hB : stB B) (ha1 : isT a1) (h : w_Store_keep L a1 Q σ) : OkI B L d 1 b_Store_keep 4 0 0 [] [some (.inr 1), some (.inr a1)] σ (qv Q) := by
  unfold w_Store_keep at h
  obtain ⟨d, rfl⟩ : ∃ e, d = e + 1 := ⟨d - 1, by omega⟩
  refine k_sb (lv' := [some (.inr 1), some (.inr a1), none, none]) (sb_s (sb_s (sb_e (sb_e sb_nil)))) ?_
  refine k_aload_n d_Store_keep_0 rfl ?_
  refine k_getI (x := (σ.1 1 3)) d_Store_keep_1 fl_1_98 (stB_ob hB) rfl rfl ?_
  refine k_istore_n (lv' := [some (.inr 1), some (.inr a1), some (.inl (σ.1 1 3)), none]) d_Store_keep_4 rfl rfl ?_
  refine k_iconst d_Store_keep_5 cI_0 ?_
  refine k_istore_n (lv' := [some (.inr 1), some (.inr a1), some (.inl (σ.1 1 3)), some (.inl 0)]) d_Store_keep_6 rfl rfl ?_
  refine k_sb (lv' := [some (.inr 1), some (.inr a1), some (.inl (σ.1 1 3)), some (.inl 0)]) (sb_s (sb_s (sb_s (sb_s sb_nil)))) ?_
  refine k_loop (S := Int) (st := fun _ => []) (lv := fun s3 => [some (.inr 1), some (.inr a1), some (.inl (σ.1 1 3)), some (.inl s3)]) (fun K1 hK2 s3 σ4 h => ?_) 0 _ h
  refine k_iload_n d_Store_keep_7 rfl ?_
  refine k_aload_n d_Store_keep_8 rfl ?_
  refine k_tlen d_Store_keep_9 ml_1_104 ha1 rfl ?_
  refine k_icge d_Store_keep_12 rfl (fun c5 => ?_) (fun c5 => ?_)
  · have h := ineg c5 h
    refine k_aload_n d_Store_keep_30 rfl ?_
    refine k_iload_n d_Store_keep_31 rfl ?_
    refine k_aload_n d_Store_keep_32 rfl ?_
    refine k_tlen d_Store_keep_33 ml_1_104 ha1 rfl ?_
    refine k_cvi [.inl (σ.1 1 3), .inl (tN a1)] d_Store_keep_36 ml_1_118 rfl rfl (stB_ob hB) rfl (s_Store_intern hL (by omega) hB h) (fun v7 σ6 h => ?_)
    refine k_pop d_Store_keep_39 ?_
    exact k_ret d_Store_keep_40 h
  · have h := ipos c5 h
    refine k_aload_n d_Store_keep_15 rfl ?_
    refine k_aload_n d_Store_keep_16 rfl ?_
    refine k_iload_n d_Store_keep_17 rfl ?_
    obtain ⟨p11, h⟩ := h
    refine k_tchr d_Store_keep_18 ml_1_110 ha1 p11 rfl ?_
    refine k_cvv [.inl (tC a1 s3)] d_Store_keep_21 ml_1_114 rfl rfl (stB_ob hB) rfl (s_Store_add hL (by omega) hB h) (fun σ8 h => ?_)
    obtain ⟨p10, h⟩ := h
    refine k_iinc (lv' := [some (.inr 1), some (.inr a1), some (.inl (σ.1 1 3)), some (.inl (s3 + 1))]) d_Store_keep_24 cI_1 rfl rfl p10 rfl ?_
    refine k_goto d_Store_keep_27 rfl ?_
    exact k_sb (sb_s (sb_s (sb_s (sb_s sb_nil)))) (hK2 (s3 + 1) _ h)
theorem d_K_isElement_7 : decode b_K_isElement 7 = .ok (.iload_n 1, 1) := by decide +kernel
theorem d_K_isElement_8 : decode b_K_isElement 8 = .ok (.ifCond .lt 18, 3) := by decide +kernel
theorem d_K_isElement_11 : decode b_K_isElement 11 = .ok (.iload_n 1, 1) := by decide +kernel
theorem d_K_isElement_12 : decode b_K_isElement 12 = .ok (.aload_n 0, 1) := by decide +kernel
theorem d_K_isElement_13 : decode b_K_isElement 13 = .ok (.getfield 54, 3) := by decide +kernel
theorem d_K_isElement_16 : decode b_K_isElement 16 = .ok (.getfield 118, 3) := by decide +kernel
theorem d_K_isElement_19 : decode b_K_isElement 19 = .ok (.if_icmp .ge 7, 3) := by decide +kernel
theorem d_K_isElement_22 : decode b_K_isElement 22 = .ok (.iconst 1, 1) := by decide +kernel
theorem d_K_isElement_23 : decode b_K_isElement 23 = .ok (.goto 4, 3) := by decide +kernel
/-- K_isElement -/
def w_K_isElement (L : Nat → Nat) (a1 : Int) (Q : Int → IS → Prop) (σ : IS) : Prop := Q (if (σ.1 12 6) = 0 then (0 : Int) else (if a1 < 0 then (0 : Int) else (if a1 < (σ.1 14 7) then (1 : Int) else (0 : Int)))) σ
set_option maxHeartbeats 4000000 in
set_option maxRecDepth 20000 in
theorem s_K_isElement {L : Nat → Nat} (hL : ∀ r, L r < 2147483648) {d : Nat} (hd : 0 ≤ d) {a1 : Int} {Q : Int → IS → Prop} {σ : IS}  (h : w_K_isElement L a1 Q σ) : OkI BF L d 12 b_K_isElement 2 2 0 [] [some (.inr 12), some (.inl a1)] σ (qi Q) := by
  unfold w_K_isElement at h
  refine k_sb (lv' := [some (.inr 12), some (.inl a1)]) (sb_s (sb_s sb_nil)) ?_
  refine k_aload_n d_K_isElement_0 rfl ?_
  refine k_getI (x := (σ.1 12 6)) d_K_isElement_1 fl_12_102 ob_12 rfl rfl ?_
  have hV1 : OkI BF L d 12 b_K_isElement 2 2 27 [.inl (if (σ.1 12 6) = 0 then (0 : Int) else (if a1 < 0 then (0 : Int) else (if a1 < (σ.1 14 7) then (1 : Int) else (0 : Int))))] [some (.inr 12), some (.inl a1)] σ (qi Q) := by
    exact k_iret d_K_isElement_27 (Or.inr ⟨rfl, it01 (Or.inl rfl) (it01 (Or.inl rfl) (it01 (Or.inr rfl) (Or.inl rfl)))⟩) h
  refine k_ifeq d_K_isElement_4 rfl (fun c2 => ?_) (fun c2 => ?_)
  · have hV3 := k_eqI (if_pos c2) hV1
    refine k_iconst d_K_isElement_26 cI_0 ?_
    exact hV3
  · have hV4 := k_eqI (if_neg c2) hV1
    refine k_iload_n d_K_isElement_7 rfl ?_
    refine k_iflt d_K_isElement_8 rfl (fun c5 => ?_) (fun c5 => ?_)
    · have hV6 := k_eqI (if_pos c5) hV4
      refine k_iconst d_K_isElement_26 cI_0 ?_
      exact hV6
    · have hV7 := k_eqI (if_neg c5) hV4
      refine k_iload_n d_K_isElement_11 rfl ?_
      refine k_aload_n d_K_isElement_12 rfl ?_
      refine k_getR d_K_isElement_13 fl_12_54 ob_12 rfl ?_
      refine k_getI (x := (σ.1 14 7)) d_K_isElement_16 fl_12_118 (doc_ob (by decide)) (dfi_7 (by decide)) rfl ?_
      refine k_icge d_K_isElement_19 rfl (fun c8 => ?_) (fun c8 => ?_)
      · have hV10 := k_eqI (if_neg c8) hV7
        refine k_iconst d_K_isElement_26 cI_0 ?_
        exact hV10
      · have hV9 := k_eqI (if_pos c8) hV7
        refine k_iconst d_K_isElement_22 cI_1 ?_
        refine k_goto d_K_isElement_23 rfl ?_
        exact hV9
theorem d_KBook_length_0 : decode b_KBook_length 0 = .ok (.aload_n 0, 1) := by decide +kernel
theorem d_KBook_length_1 : decode b_KBook_length 1 = .ok (.getfield 21, 3) := by decide +kernel
theorem d_KBook_length_4 : decode b_KBook_length 4 = .ok (.iload_n 1, 1) := by decide +kernel
theorem d_KBook_length_5 : decode b_KBook_length 5 = .ok (.iaload, 1) := by decide +kernel
theorem d_KBook_length_6 : decode b_KBook_length 6 = .ok (.ireturn, 1) := by decide +kernel
/-- KBook_length -/
def w_KBook_length (L : Nat → Nat) (a1 : Int) (Q : Int → IS → Prop) (σ : IS) : Prop := inL L 214 a1 ∧ Q (σ.2 214 (Int.toNat a1)) σ
set_option maxHeartbeats 4000000 in
set_option maxRecDepth 20000 in
theorem s_KBook_length {L : Nat → Nat} (hL : ∀ r, L r < 2147483648) {d : Nat} (hd : 0 ≤ d) {a1 : Int} {Q : Int → IS → Prop} {σ : IS}  (h : w_KBook_length L a1 Q σ) : OkI BF L d 13 b_KBook_length 2 1 0 [] [some (.inr 13), some (.inl a1)] σ (qi Q) := by
  unfold w_KBook_length at h
  refine k_sb (lv' := [some (.inr 13), some (.inl a1)]) (sb_s (sb_s sb_nil)) ?_
  refine k_aload_n d_KBook_length_0 rfl ?_
  refine k_getR d_KBook_length_1 fl_13_21 ob_13 rfl ?_
  refine k_iload_n d_KBook_length_4 rfl ?_
  obtain ⟨p1, h⟩ := h
  refine k_ild (x := (σ.2 214 (Int.toNat a1))) d_KBook_length_5 rI_214 p1 rfl ?_
  exact k_iret d_KBook_length_6 (Or.inl rfl) h
theorem d_KBook_at_0 : decode b_KBook_at 0 = .ok (.aload_n 0, 1) := by decide +kernel
theorem d_KBook_at_1 : decode b_KBook_at 1 = .ok (.getfield 15, 3) := by decide +kernel
theorem d_KBook_at_4 : decode b_KBook_at 4 = .ok (.aload_n 0, 1) := by decide +kernel
theorem d_KBook_at_5 : decode b_KBook_at 5 = .ok (.getfield 18, 3) := by decide +kernel
theorem d_KBook_at_8 : decode b_KBook_at 8 = .ok (.iload_n 1, 1) := by decide +kernel
theorem d_KBook_at_9 : decode b_KBook_at 9 = .ok (.iaload, 1) := by decide +kernel
theorem d_KBook_at_10 : decode b_KBook_at 10 = .ok (.iload_n 2, 1) := by decide +kernel
theorem d_KBook_at_11 : decode b_KBook_at 11 = .ok (.iadd, 1) := by decide +kernel
theorem d_KBook_at_12 : decode b_KBook_at 12 = .ok (.iaload, 1) := by decide +kernel
theorem d_KBook_at_13 : decode b_KBook_at 13 = .ok (.ireturn, 1) := by decide +kernel
/-- KBook_at -/
def w_KBook_at (L : Nat → Nat) (a1 : Int) (a2 : Int) (Q : Int → IS → Prop) (σ : IS) : Prop := inL L 213 a1 ∧ inR ((σ.2 213 (Int.toNat a1)) + a2) ∧ inL L 212 ((σ.2 213 (Int.toNat a1)) + a2) ∧ Q (σ.2 212 (Int.toNat ((σ.2 213 (Int.toNat a1)) + a2))) σ
set_option maxHeartbeats 4000000 in
set_option maxRecDepth 20000 in
theorem s_KBook_at {L : Nat → Nat} (hL : ∀ r, L r < 2147483648) {d : Nat} (hd : 0 ≤ d) {a1 : Int} {a2 : Int} {Q : Int → IS → Prop} {σ : IS}  (h : w_KBook_at L a1 a2 Q σ) : OkI BF L d 13 b_KBook_at 3 1 0 [] [some (.inr 13), some (.inl a1), some (.inl a2)] σ (qi Q) := by
  unfold w_KBook_at at h
  refine k_sb (lv' := [some (.inr 13), some (.inl a1), some (.inl a2)]) (sb_s (sb_s (sb_s sb_nil))) ?_
  refine k_aload_n d_KBook_at_0 rfl ?_
  refine k_getR d_KBook_at_1 fl_13_15 ob_13 rfl ?_
  refine k_aload_n d_KBook_at_4 rfl ?_
  refine k_getR d_KBook_at_5 fl_13_18 ob_13 rfl ?_
  refine k_iload_n d_KBook_at_8 rfl ?_
  obtain ⟨p3, h⟩ := h
  refine k_ild (x := (σ.2 213 (Int.toNat a1))) d_KBook_at_9 rI_213 p3 rfl ?_
  refine k_iload_n d_KBook_at_10 rfl ?_
  obtain ⟨p2, h⟩ := h
  refine k_iadd d_KBook_at_11 p2 ?_
  obtain ⟨p1, h⟩ := h
  refine k_ild (x := (σ.2 212 (Int.toNat ((σ.2 213 (Int.toNat a1)) + a2)))) d_KBook_at_12 rI_212 p1 rfl ?_
  exact k_iret d_KBook_at_13 (Or.inl rfl) h
theorem d_K_letterOf_0 : decode b_K_letterOf 0 = .ok (.iload_n 2, 1) := by decide +kernel
theorem d_K_letterOf_1 : decode b_K_letterOf 1 = .ok (.ifCond .lt 33, 3) := by decide +kernel
theorem d_K_letterOf_4 : decode b_K_letterOf 4 = .ok (.iload_n 2, 1) := by decide +kernel
theorem d_K_letterOf_5 : decode b_K_letterOf 5 = .ok (.aload_n 0, 1) := by decide +kernel
theorem d_K_letterOf_6 : decode b_K_letterOf 6 = .ok (.getfield 54, 3) := by decide +kernel
theorem d_K_letterOf_9 : decode b_K_letterOf 9 = .ok (.getfield 58, 3) := by decide +kernel
theorem d_K_letterOf_12 : decode b_K_letterOf 12 = .ok (.iload_n 1, 1) := by decide +kernel
theorem d_K_letterOf_13 : decode b_K_letterOf 13 = .ok (.invokevirtual 130, 3) := by decide +kernel
theorem d_K_letterOf_16 : decode b_K_letterOf 16 = .ok (.if_icmp .ge 18, 3) := by decide +kernel
theorem d_K_letterOf_19 : decode b_K_letterOf 19 = .ok (.aload_n 0, 1) := by decide +kernel
theorem d_K_letterOf_20 : decode b_K_letterOf 20 = .ok (.getfield 54, 3) := by decide +kernel
theorem d_K_letterOf_23 : decode b_K_letterOf 23 = .ok (.getfield 58, 3) := by decide +kernel
theorem d_K_letterOf_26 : decode b_K_letterOf 26 = .ok (.iload_n 1, 1) := by decide +kernel
theorem d_K_letterOf_27 : decode b_K_letterOf 27 = .ok (.iload_n 2, 1) := by decide +kernel
theorem d_K_letterOf_28 : decode b_K_letterOf 28 = .ok (.invokevirtual 134, 3) := by decide +kernel
theorem d_K_letterOf_31 : decode b_K_letterOf 31 = .ok (.goto 4, 3) := by decide +kernel
theorem d_K_letterOf_34 : decode b_K_letterOf 34 = .ok (.iconst (-1), 1) := by decide +kernel
theorem d_K_letterOf_35 : decode b_K_letterOf 35 = .ok (.ireturn, 1) := by decide +kernel
/-- K_letterOf -/
def w_K_letterOf (L : Nat → Nat) (a1 : Int) (a2 : Int) (Q : Int → IS → Prop) (σ : IS) : Prop := WJ (fun (s3 : Int) (σ4 : IS) => Q s3 σ4) (fun J1 => WJ (fun (s7 : Unit) (σ8 : IS) => J1 (-1) σ8) (fun J5 => if a2 < 0 then J5 () σ else w_KBook_length L a1 (fun v11 σ10 => if a2 < v11 then w_KBook_at L a1 a2 (fun v14 σ13 => J1 v14 σ13) σ10 else J5 () σ10) σ))
set_option maxHeartbeats 4000000 in
set_option maxRecDepth 20000 in
theorem s_K_letterOf {L : Nat → Nat} (hL : ∀ r, L r < 2147483648) {d : Nat} (hd : 1 ≤ d) {a1 : Int} {a2 : Int} {Q : Int → IS → Prop} {σ : IS}  (h : w_K_letterOf L a1 a2 Q σ) : OkI BF L d 12 b_K_letterOf 3 1 0 [] [some (.inr 12), some (.inl a1), some (.inl a2)] σ (qi Q) := by
  unfold w_K_letterOf at h
  obtain ⟨d, rfl⟩ : ∃ e, d = e + 1 := ⟨d - 1, by omega⟩
  refine k_sb (lv' := [some (.inr 12), some (.inl a1), some (.inl a2)]) (sb_s (sb_s (sb_s sb_nil))) ?_
  refine k_iload_n d_K_letterOf_0 rfl ?_
  refine k_join (S := Int) (pc' := 35) (st' := fun s3 => [.inl s3]) (lv' := fun s3 => [none, none, none]) (fun s3 σ4 h => ?_) (fun J1 hJ2 h => ?_) h
  · exact k_iret d_K_letterOf_35 (Or.inl rfl) h
  · refine k_join (S := Unit) (pc' := 34) (st' := fun s7 => []) (lv' := fun s7 => [none, none, none]) (fun s7 σ8 h => ?_) (fun J5 hJ6 h => ?_) h
    · refine k_iconst d_K_letterOf_34 cI_m1 ?_
      exact k_sb (sb_s (sb_s (sb_s sb_nil))) (hJ2 (-1) _ h)
    · refine k_iflt d_K_letterOf_1 rfl (fun c9 => ?_) (fun c9 => ?_)
      · have h := ipos c9 h
        exact k_sb (sb_n (sb_n (sb_n sb_nil))) (hJ6 () _ h)
      · have h := ineg c9 h
        refine k_iload_n d_K_letterOf_4 rfl ?_
        refine k_aload_n d_K_letterOf_5 rfl ?_
        refine k_getR d_K_letterOf_6 fl_12_54 ob_12 rfl ?_
        refine k_getR d_K_letterOf_9 fl_12_58 (doc_ob (by decide)) (dfr_0 (by decide)) ?_
        refine k_iload_n d_K_letterOf_12 rfl ?_
        refine k_cvi [.inl a1] d_K_letterOf_13 ml_12_130 rfl rfl ob_13 rfl (s_KBook_length hL (by omega)  h) (fun v11 σ10 h => ?_)
        refine k_icge d_K_letterOf_16 rfl (fun c12 => ?_) (fun c12 => ?_)
        · have h := ineg c12 h
          exact k_sb (sb_n (sb_n (sb_n sb_nil))) (hJ6 () _ h)
        · have h := ipos c12 h
          refine k_aload_n d_K_letterOf_19 rfl ?_
          refine k_getR d_K_letterOf_20 fl_12_54 ob_12 rfl ?_
          refine k_getR d_K_letterOf_23 fl_12_58 (doc_ob (by decide)) (dfr_0 (by decide)) ?_
          refine k_iload_n d_K_letterOf_26 rfl ?_
          refine k_iload_n d_K_letterOf_27 rfl ?_
          refine k_cvi [.inl a1, .inl a2] d_K_letterOf_28 ml_12_134 rfl rfl ob_13 rfl (s_KBook_at hL (by omega)  h) (fun v14 σ13 h => ?_)
          refine k_goto d_K_letterOf_31 rfl ?_
          exact k_sb (sb_n (sb_n (sb_n sb_nil))) (hJ2 v14 _ h)
