theorem d_Writer_write_0 : decode b_Writer_write 0 = .ok (.aload_n 0, 1) := by decide +kernel
theorem d_Writer_write_1 : decode b_Writer_write 1 = .ok (.iconst 0, 1) := by decide +kernel
theorem d_Writer_write_2 : decode b_Writer_write 2 = .ok (.putfield 40, 3) := by decide +kernel
theorem d_Writer_write_5 : decode b_Writer_write 5 = .ok (.aload_n 0, 1) := by decide +kernel
theorem d_Writer_write_6 : decode b_Writer_write 6 = .ok (.iconst 0, 1) := by decide +kernel
theorem d_Writer_write_7 : decode b_Writer_write 7 = .ok (.putfield 44, 3) := by decide +kernel
theorem d_Writer_write_10 : decode b_Writer_write 10 = .ok (.aload_n 0, 1) := by decide +kernel
theorem d_Writer_write_11 : decode b_Writer_write 11 = .ok (.iconst 0, 1) := by decide +kernel
theorem d_Writer_write_12 : decode b_Writer_write 12 = .ok (.putfield 48, 3) := by decide +kernel
theorem d_Writer_write_15 : decode b_Writer_write 15 = .ok (.aload_n 0, 1) := by decide +kernel
theorem d_Writer_write_16 : decode b_Writer_write 16 = .ok (.iconst (-1), 1) := by decide +kernel
theorem d_Writer_write_17 : decode b_Writer_write 17 = .ok (.putfield 51, 3) := by decide +kernel
theorem d_Writer_write_20 : decode b_Writer_write 20 = .ok (.iconst 0, 1) := by decide +kernel
theorem d_Writer_write_21 : decode b_Writer_write 21 = .ok (.istore_n 1, 1) := by decide +kernel
theorem d_Writer_write_22 : decode b_Writer_write 22 = .ok (.iload_n 1, 1) := by decide +kernel
theorem d_Writer_write_23 : decode b_Writer_write 23 = .ok (.aload_n 0, 1) := by decide +kernel
theorem d_Writer_write_24 : decode b_Writer_write 24 = .ok (.getfield 15, 3) := by decide +kernel
theorem d_Writer_write_27 : decode b_Writer_write 27 = .ok (.getfield 54, 3) := by decide +kernel
theorem d_Writer_write_30 : decode b_Writer_write 30 = .ok (.if_icmp .ge 78, 3) := by decide +kernel
theorem d_Writer_write_33 : decode b_Writer_write 33 = .ok (.aload_n 0, 1) := by decide +kernel
theorem d_Writer_write_34 : decode b_Writer_write 34 = .ok (.getfield 44, 3) := by decide +kernel
theorem d_Writer_write_37 : decode b_Writer_write 37 = .ok (.ifCond .ne 71, 3) := by decide +kernel
theorem d_Writer_write_40 : decode b_Writer_write 40 = .ok (.aload_n 0, 1) := by decide +kernel
theorem d_Writer_write_41 : decode b_Writer_write 41 = .ok (.getfield 15, 3) := by decide +kernel
theorem d_Writer_write_44 : decode b_Writer_write 44 = .ok (.getfield 57, 3) := by decide +kernel
theorem d_Writer_write_47 : decode b_Writer_write 47 = .ok (.iload_n 1, 1) := by decide +kernel
theorem d_Writer_write_48 : decode b_Writer_write 48 = .ok (.iaload, 1) := by decide +kernel
theorem d_Writer_write_49 : decode b_Writer_write 49 = .ok (.istore_n 2, 1) := by decide +kernel
theorem d_Writer_write_50 : decode b_Writer_write 50 = .ok (.iload_n 2, 1) := by decide +kernel
theorem d_Writer_write_51 : decode b_Writer_write 51 = .ok (.ifCond .lt 12, 3) := by decide +kernel
theorem d_Writer_write_54 : decode b_Writer_write 54 = .ok (.aload_n 0, 1) := by decide +kernel
theorem d_Writer_write_55 : decode b_Writer_write 55 = .ok (.iload_n 2, 1) := by decide +kernel
theorem d_Writer_write_56 : decode b_Writer_write 56 = .ok (.iconst 0, 1) := by decide +kernel
theorem d_Writer_write_57 : decode b_Writer_write 57 = .ok (.invokevirtual 60, 3) := by decide +kernel
theorem d_Writer_write_60 : decode b_Writer_write 60 = .ok (.goto 42, 3) := by decide +kernel
theorem d_Writer_write_63 : decode b_Writer_write 63 = .ok (.iload_n 2, 1) := by decide +kernel
theorem d_Writer_write_64 : decode b_Writer_write 64 = .ok (.bipush (-2), 2) := by decide +kernel
theorem d_Writer_write_66 : decode b_Writer_write 66 = .ok (.if_icmp .ne 16, 3) := by decide +kernel
theorem d_Writer_write_69 : decode b_Writer_write 69 = .ok (.aload_n 0, 1) := by decide +kernel
theorem d_Writer_write_70 : decode b_Writer_write 70 = .ok (.iload_n 1, 1) := by decide +kernel
theorem d_Writer_write_71 : decode b_Writer_write 71 = .ok (.iconst 1, 1) := by decide +kernel
theorem d_Writer_write_72 : decode b_Writer_write 72 = .ok (.iadd, 1) := by decide +kernel
theorem d_Writer_write_73 : decode b_Writer_write 73 = .ok (.invokevirtual 64, 3) := by decide +kernel
theorem d_Writer_write_76 : decode b_Writer_write 76 = .ok (.iinc 1 4, 3) := by decide +kernel
theorem d_Writer_write_79 : decode b_Writer_write 79 = .ok (.goto 23, 3) := by decide +kernel
theorem d_Writer_write_82 : decode b_Writer_write 82 = .ok (.iload_n 2, 1) := by decide +kernel
theorem d_Writer_write_83 : decode b_Writer_write 83 = .ok (.iconst (-1), 1) := by decide +kernel
theorem d_Writer_write_84 : decode b_Writer_write 84 = .ok (.if_icmp .ne 10, 3) := by decide +kernel
theorem d_Writer_write_87 : decode b_Writer_write 87 = .ok (.aload_n 0, 1) := by decide +kernel
theorem d_Writer_write_88 : decode b_Writer_write 88 = .ok (.invokevirtual 68, 3) := by decide +kernel
theorem d_Writer_write_91 : decode b_Writer_write 91 = .ok (.goto 11, 3) := by decide +kernel
theorem d_Writer_write_94 : decode b_Writer_write 94 = .ok (.aload_n 0, 1) := by decide +kernel
theorem d_Writer_write_95 : decode b_Writer_write 95 = .ok (.bipush (-3), 2) := by decide +kernel
theorem d_Writer_write_97 : decode b_Writer_write 97 = .ok (.iload_n 2, 1) := by decide +kernel
theorem d_Writer_write_98 : decode b_Writer_write 98 = .ok (.isub, 1) := by decide +kernel
theorem d_Writer_write_99 : decode b_Writer_write 99 = .ok (.invokevirtual 71, 3) := by decide +kernel
theorem d_Writer_write_102 : decode b_Writer_write 102 = .ok (.iinc 1 1, 3) := by decide +kernel
theorem d_Writer_write_105 : decode b_Writer_write 105 = .ok (.goto (-83), 3) := by decide +kernel
theorem d_Writer_write_108 : decode b_Writer_write 108 = .ok (.iconst 0, 1) := by decide +kernel
theorem d_Writer_write_109 : decode b_Writer_write 109 = .ok (.istore_n 1, 1) := by decide +kernel
theorem d_Writer_write_110 : decode b_Writer_write 110 = .ok (.iload_n 1, 1) := by decide +kernel
theorem d_Writer_write_111 : decode b_Writer_write 111 = .ok (.aload_n 0, 1) := by decide +kernel
theorem d_Writer_write_112 : decode b_Writer_write 112 = .ok (.getfield 15, 3) := by decide +kernel
theorem d_Writer_write_115 : decode b_Writer_write 115 = .ok (.getfield 74, 3) := by decide +kernel
theorem d_Writer_write_118 : decode b_Writer_write 118 = .ok (.if_icmp .ge 21, 3) := by decide +kernel
theorem d_Writer_write_121 : decode b_Writer_write 121 = .ok (.aload_n 0, 1) := by decide +kernel
theorem d_Writer_write_122 : decode b_Writer_write 122 = .ok (.getfield 51, 3) := by decide +kernel
theorem d_Writer_write_125 : decode b_Writer_write 125 = .ok (.iconst (-1), 1) := by decide +kernel
theorem d_Writer_write_126 : decode b_Writer_write 126 = .ok (.if_icmp .eq 13, 3) := by decide +kernel
theorem d_Writer_write_129 : decode b_Writer_write 129 = .ok (.aload_n 0, 1) := by decide +kernel
theorem d_Writer_write_130 : decode b_Writer_write 130 = .ok (.invokevirtual 68, 3) := by decide +kernel
theorem d_Writer_write_133 : decode b_Writer_write 133 = .ok (.iinc 1 1, 3) := by decide +kernel
theorem d_Writer_write_136 : decode b_Writer_write 136 = .ok (.goto (-26), 3) := by decide +kernel
theorem d_Writer_write_139 : decode b_Writer_write 139 = .ok (.aload_n 0, 1) := by decide +kernel
theorem d_Writer_write_140 : decode b_Writer_write 140 = .ok (.getfield 44, 3) := by decide +kernel
theorem d_Writer_write_143 : decode b_Writer_write 143 = .ok (.ifCond .ne 29, 3) := by decide +kernel
theorem d_Writer_write_146 : decode b_Writer_write 146 = .ok (.aload_n 0, 1) := by decide +kernel
theorem d_Writer_write_147 : decode b_Writer_write 147 = .ok (.getfield 24, 3) := by decide +kernel
theorem d_Writer_write_150 : decode b_Writer_write 150 = .ok (.astore_n 1, 1) := by decide +kernel
theorem d_Writer_write_151 : decode b_Writer_write 151 = .ok (.aload_n 0, 1) := by decide +kernel
theorem d_Writer_write_152 : decode b_Writer_write 152 = .ok (.aload_n 0, 1) := by decide +kernel
theorem d_Writer_write_153 : decode b_Writer_write 153 = .ok (.getfield 28, 3) := by decide +kernel
theorem d_Writer_write_156 : decode b_Writer_write 156 = .ok (.putfield 24, 3) := by decide +kernel
theorem d_Writer_write_159 : decode b_Writer_write 159 = .ok (.aload_n 0, 1) := by decide +kernel
theorem d_Writer_write_160 : decode b_Writer_write 160 = .ok (.aload_n 1, 1) := by decide +kernel
theorem d_Writer_write_161 : decode b_Writer_write 161 = .ok (.putfield 28, 3) := by decide +kernel
theorem d_Writer_write_164 : decode b_Writer_write 164 = .ok (.aload_n 0, 1) := by decide +kernel
theorem d_Writer_write_165 : decode b_Writer_write 165 = .ok (.aload_n 0, 1) := by decide +kernel
theorem d_Writer_write_166 : decode b_Writer_write 166 = .ok (.getfield 40, 3) := by decide +kernel
theorem d_Writer_write_169 : decode b_Writer_write 169 = .ok (.putfield 77, 3) := by decide +kernel
theorem d_Writer_write_172 : decode b_Writer_write 172 = .ok (.aload_n 0, 1) := by decide +kernel
theorem d_Writer_write_173 : decode b_Writer_write 173 = .ok (.getfield 44, 3) := by decide +kernel
theorem d_Writer_write_176 : decode b_Writer_write 176 = .ok (.ifCond .ne 7, 3) := by decide +kernel
theorem d_Writer_write_179 : decode b_Writer_write 179 = .ok (.iconst 1, 1) := by decide +kernel
theorem d_Writer_write_180 : decode b_Writer_write 180 = .ok (.goto 4, 3) := by decide +kernel
theorem d_Writer_write_183 : decode b_Writer_write 183 = .ok (.iconst 0, 1) := by decide +kernel
theorem d_Writer_write_184 : decode b_Writer_write 184 = .ok (.ireturn, 1) := by decide +kernel
/-- Writer_write -/
def w_Writer_write (L : Nat → Nat)  (Q : Int → IS → Prop) (σ : IS) : Prop := WL (fun (K1 : Int → IS → Prop) (s3 : Int) (σ4 : IS) => if s3 < (σ4.1 6 15) ∧ ((σ4.1 11 7) = 0) then inL L 136 s3 ∧ WJ (fun (s7 : Int) (σ8 : IS) => inR (s7 + 1) ∧ K1 (s7 + 1) σ8) (fun J5 => if (σ4.2 136 (Int.toNat s3)) < 0 then if (σ4.2 136 (Int.toNat s3)) = (-2) then inR (s3 + 1) ∧ w_Writer_putInstruction L (s3 + 1) (fun σ18 => inR (s3 + 4) ∧ J5 (s3 + 4) σ18) σ4 else if (σ4.2 136 (Int.toNat s3)) = (-1) then w_Writer_putEnd L  (fun σ16 => J5 s3 σ16) σ4 else inR ((-3) - (σ4.2 136 (Int.toNat s3))) ∧ w_Writer_putBegin L ((-3) - (σ4.2 136 (Int.toNat s3))) (fun σ13 => J5 s3 σ13) σ4 else w_Writer_putCharacter L (σ4.2 136 (Int.toNat s3)) 0 (fun σ22 => J5 s3 σ22) σ4) else WL (fun (K25 : Int → IS → Prop) (s27 : Int) (σ28 : IS) => if s27 < (σ28.1 6 2) ∧ (¬ (σ28.1 11 8) = (-1)) then w_Writer_putEnd L  (fun σ29 => inR (s27 + 1) ∧ K25 (s27 + 1) σ29) σ28 else WJ (fun (s34 : Unit) (σ35 : IS) => Q (if (σ35.1 11 7) = 0 then (1 : Int) else (0 : Int)) σ35) (fun J32 => if (σ28.1 11 7) = 0 then dyB (σ28.1 11 3) ∧ dyB (σ28.1 11 5) ∧ J32 () (pf (pf (pf σ28 11 3 (((Int.toNat (σ28.1 11 5)) : Nat) : Int)) 11 5 (((Int.toNat (σ28.1 11 3)) : Nat) : Int)) 11 4 (σ28.1 11 6)) else J32 () σ28)) 0 σ4) 0 (pf (pf (pf (pf σ 11 6 0) 11 7 0) 11 9 0) 11 8 (-1))
set_option maxHeartbeats 4000000 in
set_option maxRecDepth 20000 in
theorem s_Writer_write {L : Nat → Nat} (hL : ∀ r, L r < 2147483648) {d : Nat} (hd : 6 ≤ d)  {Q : Int → IS → Prop} {σ : IS}  (h : w_Writer_write L  Q σ) : OkI BF L d 11 b_Writer_write 3 2 0 [] [some (.inr 11)] σ (qi Q) := by
  unfold w_Writer_write at h
  obtain ⟨d, rfl⟩ : ∃ e, d = e + 1 := ⟨d - 1, by omega⟩
  refine k_sb (lv' := [some (.inr 11), none, none]) (sb_s (sb_e (sb_e sb_nil))) ?_
  refine k_aload_n d_Writer_write_0 rfl ?_
  refine k_iconst d_Writer_write_1 cI_0 ?_
  refine k_putI d_Writer_write_2 fl_11_40 ob_11 rfl ?_
  refine k_aload_n d_Writer_write_5 rfl ?_
  refine k_iconst d_Writer_write_6 cI_0 ?_
  refine k_putZ d_Writer_write_7 fl_11_44 ob_11 rfl (Or.inl rfl) ?_
  refine k_aload_n d_Writer_write_10 rfl ?_
  refine k_iconst d_Writer_write_11 cI_0 ?_
  refine k_putZ d_Writer_write_12 fl_11_48 ob_11 rfl (Or.inl rfl) ?_
  refine k_aload_n d_Writer_write_15 rfl ?_
  refine k_iconst d_Writer_write_16 cI_m1 ?_
  refine k_putI d_Writer_write_17 fl_11_51 ob_11 rfl ?_
  refine k_iconst d_Writer_write_20 cI_0 ?_
  refine k_istore_n (lv' := [some (.inr 11), some (.inl 0), none]) d_Writer_write_21 rfl rfl ?_
  refine k_sb (lv' := [some (.inr 11), some (.inl 0), none]) (sb_s (sb_s (sb_s sb_nil))) ?_
  refine k_loop (S := Int) (st := fun _ => []) (lv := fun s3 => [some (.inr 11), some (.inl s3), none]) (fun K1 hK2 s3 σ4 h => ?_) 0 _ h
  refine k_iload_n d_Writer_write_22 rfl ?_
  refine k_aload_n d_Writer_write_23 rfl ?_
  refine k_getR d_Writer_write_24 fl_11_15 ob_11 rfl ?_
  refine k_getI (x := (σ4.1 6 15)) d_Writer_write_27 fl_11_54 ob_6 rfl rfl ?_
  have hX48 : (s3 < (σ4.1 6 15) ∧ ((σ4.1 11 7) = 0)) → OkI BF L (d + 1) 11 b_Writer_write 3 2 40 [] [some (.inr 11), some (.inl s3), none] σ4 (qi Q) := fun e50 => by
    have h := ipos e50 h
    refine k_aload_n d_Writer_write_40 rfl ?_
    refine k_getR d_Writer_write_41 fl_11_15 ob_11 rfl ?_
    refine k_getR d_Writer_write_44 fl_11_57 ob_6 rfl ?_
    refine k_iload_n d_Writer_write_47 rfl ?_
    obtain ⟨p24, h⟩ := h
    refine k_ild (x := (σ4.2 136 (Int.toNat s3))) d_Writer_write_48 rI_136 p24 rfl ?_
    refine k_istore_n (lv' := [some (.inr 11), some (.inl s3), some (.inl (σ4.2 136 (Int.toNat s3)))]) d_Writer_write_49 rfl rfl ?_
    refine k_iload_n d_Writer_write_50 rfl ?_
    refine k_join (S := Int) (pc' := 102) (st' := fun s7 => []) (lv' := fun s7 => [some (.inr 11), some (.inl s7), none]) (fun s7 σ8 h => ?_) (fun J5 hJ6 h => ?_) h
    · obtain ⟨p9, h⟩ := h
      refine k_iinc (lv' := [some (.inr 11), some (.inl (s7 + 1)), none]) d_Writer_write_102 cI_1 rfl rfl p9 rfl ?_
      refine k_goto d_Writer_write_105 rfl ?_
      exact k_sb (sb_s (sb_s (sb_s sb_nil))) (hK2 (s7 + 1) _ h)
    · refine k_iflt d_Writer_write_51 rfl (fun c10 => ?_) (fun c10 => ?_)
      · have h := ipos c10 h
        refine k_iload_n d_Writer_write_63 rfl ?_
        refine k_bipush d_Writer_write_64 cB_m2 ?_
        refine k_icne d_Writer_write_66 rfl (fun c11 => ?_) (fun c11 => ?_)
        · have h := ineg c11 h
          refine k_iload_n d_Writer_write_82 rfl ?_
          refine k_iconst d_Writer_write_83 cI_m1 ?_
          refine k_icne d_Writer_write_84 rfl (fun c12 => ?_) (fun c12 => ?_)
          · have h := ineg c12 h
            refine k_aload_n d_Writer_write_94 rfl ?_
            refine k_bipush d_Writer_write_95 cB_m3 ?_
            refine k_iload_n d_Writer_write_97 rfl ?_
            obtain ⟨p15, h⟩ := h
            refine k_isub d_Writer_write_98 p15 ?_
            refine k_cvv [.inl ((-3) - (σ4.2 136 (Int.toNat s3)))] d_Writer_write_99 ml_11_71 rfl rfl ob_11 rfl (s_Writer_putBegin hL (by omega)  h) (fun σ13 h => ?_)
            exact k_sb (sb_s (sb_s (sb_n sb_nil))) (hJ6 s3 _ h)
          · have h := ipos c12 h
            refine k_aload_n d_Writer_write_87 rfl ?_
            refine k_cvv [] d_Writer_write_88 ml_11_68 rfl rfl ob_11 rfl (s_Writer_putEnd hL (by omega)  h) (fun σ16 h => ?_)
            refine k_goto d_Writer_write_91 rfl ?_
            exact k_sb (sb_s (sb_s (sb_n sb_nil))) (hJ6 s3 _ h)
        · have h := ipos c11 h
          refine k_aload_n d_Writer_write_69 rfl ?_
          refine k_iload_n d_Writer_write_70 rfl ?_
          refine k_iconst d_Writer_write_71 cI_1 ?_
          obtain ⟨p21, h⟩ := h
          refine k_iadd d_Writer_write_72 p21 ?_
          refine k_cvv [.inl (s3 + 1)] d_Writer_write_73 ml_11_64 rfl rfl ob_11 rfl (s_Writer_putInstruction hL (by omega)  h) (fun σ18 h => ?_)
          obtain ⟨p20, h⟩ := h
          refine k_iinc (lv' := [some (.inr 11), some (.inl (s3 + 4)), some (.inl (σ4.2 136 (Int.toNat s3)))]) d_Writer_write_76 cI_4 rfl rfl p20 rfl ?_
          refine k_goto d_Writer_write_79 rfl ?_
          exact k_sb (sb_s (sb_s (sb_n sb_nil))) (hJ6 (s3 + 4) _ h)
      · have h := ineg c10 h
        refine k_aload_n d_Writer_write_54 rfl ?_
        refine k_iload_n d_Writer_write_55 rfl ?_
        refine k_iconst d_Writer_write_56 cI_0 ?_
        refine k_cvv [.inl (σ4.2 136 (Int.toNat s3)), .inl 0] d_Writer_write_57 ml_11_60 rfl rfl ob_11 rfl (s_Writer_putCharacter hL (by omega)  h) (fun σ22 h => ?_)
        refine k_goto d_Writer_write_60 rfl ?_
        exact k_sb (sb_s (sb_s (sb_n sb_nil))) (hJ6 s3 _ h)
  have hY49 : ¬ (s3 < (σ4.1 6 15) ∧ ((σ4.1 11 7) = 0)) → OkI BF L (d + 1) 11 b_Writer_write 3 2 108 [] [some (.inr 11), some (.inl s3), none] σ4 (qi Q) := fun e50 => by
    have h := ineg e50 h
    refine k_iconst d_Writer_write_108 cI_0 ?_
    refine k_istore_n (lv' := [some (.inr 11), some (.inl 0), none]) d_Writer_write_109 rfl rfl ?_
    refine k_sb (lv' := [some (.inr 11), some (.inl 0), none]) (sb_s (sb_s (sb_s sb_nil))) ?_
    refine k_loop (S := Int) (st := fun _ => []) (lv := fun s27 => [some (.inr 11), some (.inl s27), none]) (fun K25 hK26 s27 σ28 h => ?_) 0 _ h
    refine k_iload_n d_Writer_write_110 rfl ?_
    refine k_aload_n d_Writer_write_111 rfl ?_
    refine k_getR d_Writer_write_112 fl_11_15 ob_11 rfl ?_
    refine k_getI (x := (σ28.1 6 2)) d_Writer_write_115 fl_11_74 ob_6 rfl rfl ?_
    have hX43 : (s27 < (σ28.1 6 2) ∧ (¬ (σ28.1 11 8) = (-1))) → OkI BF L (d + 1) 11 b_Writer_write 3 2 129 [] [some (.inr 11), some (.inl s27), none] σ28 (qi Q) := fun e45 => by
      have h := ipos e45 h
      refine k_aload_n d_Writer_write_129 rfl ?_
      refine k_cvv [] d_Writer_write_130 ml_11_68 rfl rfl ob_11 rfl (s_Writer_putEnd hL (by omega)  h) (fun σ29 h => ?_)
      obtain ⟨p31, h⟩ := h
      refine k_iinc (lv' := [some (.inr 11), some (.inl (s27 + 1)), none]) d_Writer_write_133 cI_1 rfl rfl p31 rfl ?_
      refine k_goto d_Writer_write_136 rfl ?_
      exact k_sb (sb_s (sb_s (sb_s sb_nil))) (hK26 (s27 + 1) _ h)
    have hY44 : ¬ (s27 < (σ28.1 6 2) ∧ (¬ (σ28.1 11 8) = (-1))) → OkI BF L (d + 1) 11 b_Writer_write 3 2 139 [] [some (.inr 11), some (.inl s27), none] σ28 (qi Q) := fun e45 => by
      have h := ineg e45 h
      refine k_aload_n d_Writer_write_139 rfl ?_
      refine k_getI (x := (σ28.1 11 7)) d_Writer_write_140 fl_11_44 ob_11 rfl rfl ?_
      refine k_join (S := Unit) (pc' := 172) (st' := fun s34 => []) (lv' := fun s34 => [some (.inr 11), none, none]) (fun s34 σ35 h => ?_) (fun J32 hJ33 h => ?_) h
      · refine k_aload_n d_Writer_write_172 rfl ?_
        refine k_getI (x := (σ35.1 11 7)) d_Writer_write_173 fl_11_44 ob_11 rfl rfl ?_
        have hV36 : OkI BF L (d + 1) 11 b_Writer_write 3 2 184 [.inl (if (σ35.1 11 7) = 0 then (1 : Int) else (0 : Int))] [some (.inr 11), none, none] σ35 (qi Q) := by
          exact k_iret d_Writer_write_184 (Or.inr ⟨rfl, it01 (Or.inr rfl) (Or.inl rfl)⟩) h
        refine k_ifne d_Writer_write_176 rfl (fun c37 => ?_) (fun c37 => ?_)
        · have hV39 := k_eqI (if_neg c37) hV36
          refine k_iconst d_Writer_write_183 cI_0 ?_
          exact hV39
        · have hV38 := k_eqI (if_pos c37) hV36
          refine k_iconst d_Writer_write_179 cI_1 ?_
          refine k_goto d_Writer_write_180 rfl ?_
          exact hV38
      · refine k_ifne d_Writer_write_143 rfl (fun c40 => ?_) (fun c40 => ?_)
        · have h := ineg c40 h
          exact k_sb (sb_s (sb_n (sb_s sb_nil))) (hJ33 () _ h)
        · have h := ipos c40 h
          refine k_aload_n d_Writer_write_146 rfl ?_
          obtain ⟨y41, h⟩ := h
          refine k_getD (x := (σ28.1 11 3)) d_Writer_write_147 fl_11_24 ob_11 rfl rfl (dyB_pos y41) ?_
          refine k_astore_n (lv' := [some (.inr 11), some (.inr (Int.toNat (σ28.1 11 3))), none]) d_Writer_write_150 rfl rfl ?_
          refine k_aload_n d_Writer_write_151 rfl ?_
          refine k_aload_n d_Writer_write_152 rfl ?_
          obtain ⟨y42, h⟩ := h
          refine k_getD (x := (σ28.1 11 5)) d_Writer_write_153 fl_11_28 ob_11 rfl rfl (dyB_pos y42) ?_
          refine k_putD d_Writer_write_156 fl_11_24 ob_11 rfl (row_lt (dyB_row y42)) ?_
          refine k_aload_n d_Writer_write_159 rfl ?_
          refine k_aload_n d_Writer_write_160 rfl ?_
          refine k_putD d_Writer_write_161 fl_11_28 ob_11 rfl (row_lt (dyB_row y41)) ?_
          refine k_aload_n d_Writer_write_164 rfl ?_
          refine k_aload_n d_Writer_write_165 rfl ?_
          refine k_getI (x := (σ28.1 11 6)) d_Writer_write_166 fl_11_40 ob_11 rfl rfl ?_
          refine k_putI d_Writer_write_169 fl_11_77 ob_11 rfl ?_
          exact k_sb (sb_s (sb_n (sb_s sb_nil))) (hJ33 () _ h)
    refine k_icge d_Writer_write_118 rfl (fun c46 => ?_) (fun c46 => ?_)
    · exact hY44 (fun z => c46 z.1)
    · refine k_aload_n d_Writer_write_121 rfl ?_
      refine k_getI (x := (σ28.1 11 8)) d_Writer_write_122 fl_11_51 ob_11 rfl rfl ?_
      refine k_iconst d_Writer_write_125 cI_m1 ?_
      refine k_iceq d_Writer_write_126 rfl (fun c47 => ?_) (fun c47 => ?_)
      · exact hY44 (fun z => (fun z => z c47) z.2)
      · exact hX43 (⟨c46, c47⟩)
  refine k_icge d_Writer_write_30 rfl (fun c51 => ?_) (fun c51 => ?_)
  · exact hY49 (fun z => c51 z.1)
  · refine k_aload_n d_Writer_write_33 rfl ?_
    refine k_getI (x := (σ4.1 11 7)) d_Writer_write_34 fl_11_44 ob_11 rfl rfl ?_
    refine k_ifne d_Writer_write_37 rfl (fun c52 => ?_) (fun c52 => ?_)
    · exact hY49 (fun z => (c52) z.2)
    · exact hX48 (⟨c51, c52⟩)
theorem d_J_canonical_9 : decode b_J_canonical 9 = .ok (.aload_n 0, 1) := by decide +kernel
theorem d_J_canonical_10 : decode b_J_canonical 10 = .ok (.getfield 93, 3) := by decide +kernel
theorem d_J_canonical_13 : decode b_J_canonical 13 = .ok (.invokevirtual 227, 3) := by decide +kernel
theorem d_J_canonical_16 : decode b_J_canonical 16 = .ok (.ifCond .le 6, 3) := by decide +kernel
theorem d_J_canonical_19 : decode b_J_canonical 19 = .ok (.bipush (-2), 2) := by decide +kernel
theorem d_J_canonical_21 : decode b_J_canonical 21 = .ok (.ireturn, 1) := by decide +kernel
theorem d_J_canonical_22 : decode b_J_canonical 22 = .ok (.aload_n 0, 1) := by decide +kernel
theorem d_J_canonical_23 : decode b_J_canonical 23 = .ok (.getfield 38, 3) := by decide +kernel
theorem d_J_canonical_26 : decode b_J_canonical 26 = .ok (.getfield 228, 3) := by decide +kernel
theorem d_J_canonical_29 : decode b_J_canonical 29 = .ok (.ifCond .gt 13, 3) := by decide +kernel
theorem d_J_canonical_32 : decode b_J_canonical 32 = .ok (.aload_n 0, 1) := by decide +kernel
theorem d_J_canonical_33 : decode b_J_canonical 33 = .ok (.getfield 93, 3) := by decide +kernel
theorem d_J_canonical_36 : decode b_J_canonical 36 = .ok (.getfield 231, 3) := by decide +kernel
theorem d_J_canonical_39 : decode b_J_canonical 39 = .ok (.ifCond .eq 6, 3) := by decide +kernel
theorem d_J_canonical_42 : decode b_J_canonical 42 = .ok (.bipush (-3), 2) := by decide +kernel
theorem d_J_canonical_44 : decode b_J_canonical 44 = .ok (.ireturn, 1) := by decide +kernel
theorem d_J_canonical_45 : decode b_J_canonical 45 = .ok (.aload_n 0, 1) := by decide +kernel
theorem d_J_canonical_46 : decode b_J_canonical 46 = .ok (.getfield 102, 3) := by decide +kernel
theorem d_J_canonical_49 : decode b_J_canonical 49 = .ok (.invokevirtual 234, 3) := by decide +kernel
theorem d_J_canonical_52 : decode b_J_canonical 52 = .ok (.ifCond .eq 13, 3) := by decide +kernel
theorem d_J_canonical_55 : decode b_J_canonical 55 = .ok (.aload_n 0, 1) := by decide +kernel
theorem d_J_canonical_56 : decode b_J_canonical 56 = .ok (.getfield 102, 3) := by decide +kernel
theorem d_J_canonical_59 : decode b_J_canonical 59 = .ok (.getfield 238, 3) := by decide +kernel
theorem d_J_canonical_62 : decode b_J_canonical 62 = .ok (.goto 5, 3) := by decide +kernel
theorem d_J_canonical_65 : decode b_J_canonical 65 = .ok (.bipush (-4), 2) := by decide +kernel
theorem d_J_canonical_67 : decode b_J_canonical 67 = .ok (.ireturn, 1) := by decide +kernel
/-- J_canonical -/
def w_J_canonical (L : Nat → Nat)  (Q : Int → IS → Prop) (σ : IS) : Prop := if (σ.1 0 12) = 0 then Q (-1) σ else w_Meanings_sum L  (fun v3 σ2 => if 0 < v3 then Q (-2) σ2 else if ¬ 0 < (σ2.1 3 14) ∧ ((σ2.1 10 7) = 0) then w_Writer_write L  (fun v6 σ5 => Q (if v6 = 0 then ((-4) : Int) else (σ5.1 11 4)) σ5) σ2 else Q (-3) σ2) σ
set_option maxHeartbeats 4000000 in
set_option maxRecDepth 20000 in
theorem s_J_canonical {L : Nat → Nat} (hL : ∀ r, L r < 2147483648) {d : Nat} (hd : 7 ≤ d)  {Q : Int → IS → Prop} {σ : IS}  (h : w_J_canonical L  Q σ) : OkI BF L d 0 b_J_canonical 1 1 0 [] [some (.inr 0)] σ (qi Q) := by
  unfold w_J_canonical at h
  obtain ⟨d, rfl⟩ : ∃ e, d = e + 1 := ⟨d - 1, by omega⟩
  refine k_sb (lv' := [some (.inr 0)]) (sb_s sb_nil) ?_
  refine k_aload_n d_J_canonical_0 rfl ?_
  refine k_getI (x := (σ.1 0 12)) d_J_canonical_1 fl_0_161 ob_0 rfl rfl ?_
  refine k_ifne d_J_canonical_4 rfl (fun c1 => ?_) (fun c1 => ?_)
  · have h := ineg c1 h
    refine k_aload_n d_J_canonical_9 rfl ?_
    refine k_getR d_J_canonical_10 fl_0_93 ob_0 rfl ?_
    refine k_cvi [] d_J_canonical_13 ml_0_227 rfl rfl ob_10 rfl (s_Meanings_sum hL (by omega)  h) (fun v3 σ2 h => ?_)
    refine k_ifle d_J_canonical_16 rfl (fun c4 => ?_) (fun c4 => ?_)
    · have h := ineg c4 h
      refine k_aload_n d_J_canonical_22 rfl ?_
      refine k_getR d_J_canonical_23 fl_0_38 ob_0 rfl ?_
      refine k_getI (x := (σ2.1 3 14)) d_J_canonical_26 fl_0_228 ob_3 rfl rfl ?_
      have hX11 : (¬ 0 < (σ2.1 3 14) ∧ ((σ2.1 10 7) = 0)) → OkI BF L (d + 1) 0 b_J_canonical 1 1 45 [] [some (.inr 0)] σ2 (qi Q) := fun e13 => by
        have h := ipos e13 h
        refine k_aload_n d_J_canonical_45 rfl ?_
        refine k_getR d_J_canonical_46 fl_0_102 ob_0 rfl ?_
        refine k_cvi [] d_J_canonical_49 ml_0_234 rfl rfl ob_11 rfl (s_Writer_write hL (by omega)  h) (fun v6 σ5 h => ?_)
        have hV7 : OkI BF L (d + 1) 0 b_J_canonical 1 1 67 [.inl (if v6 = 0 then ((-4) : Int) else (σ5.1 11 4))] [some (.inr 0)] σ5 (qi Q) := by
          exact k_iret d_J_canonical_67 (Or.inl rfl) h
        refine k_ifeq d_J_canonical_52 rfl (fun c8 => ?_) (fun c8 => ?_)
        · have hV9 := k_eqI (if_pos c8) hV7
          refine k_bipush d_J_canonical_65 cB_m4 ?_
          exact hV9
        · have hV10 := k_eqI (if_neg c8) hV7
          refine k_aload_n d_J_canonical_55 rfl ?_
          refine k_getR d_J_canonical_56 fl_0_102 ob_0 rfl ?_
          refine k_getI (x := (σ5.1 11 4)) d_J_canonical_59 fl_0_238 ob_11 rfl rfl ?_
          refine k_goto d_J_canonical_62 rfl ?_
          exact hV10
      have hY12 : ¬ (¬ 0 < (σ2.1 3 14) ∧ ((σ2.1 10 7) = 0)) → OkI BF L (d + 1) 0 b_J_canonical 1 1 42 [] [some (.inr 0)] σ2 (qi Q) := fun e13 => by
        have h := ineg e13 h
        refine k_bipush d_J_canonical_42 cB_m3 ?_
        exact k_iret d_J_canonical_44 (Or.inl rfl) h
      refine k_ifgt d_J_canonical_29 rfl (fun c14 => ?_) (fun c14 => ?_)
      · exact hY12 (fun z => z.1 c14)
      · refine k_aload_n d_J_canonical_32 rfl ?_
        refine k_getR d_J_canonical_33 fl_0_93 ob_0 rfl ?_
        refine k_getI (x := (σ2.1 10 7)) d_J_canonical_36 fl_0_231 ob_10 rfl rfl ?_
        refine k_ifeq d_J_canonical_39 rfl (fun c15 => ?_) (fun c15 => ?_)
        · exact hX11 (⟨c14, c15⟩)
        · exact hY12 (fun z => (c15) z.2)
    · have h := ipos c4 h
      refine k_bipush d_J_canonical_19 cB_m2 ?_
      exact k_iret d_J_canonical_21 (Or.inl rfl) h
  · have h := ipos c1 h
    refine k_iconst d_J_canonical_7 cI_m1 ?_
    exact k_iret d_J_canonical_8 (Or.inl rfl) h
theorem d_J_change_12 : decode b_J_change 12 = .ok (.iload_n 2, 1) := by decide +kernel
theorem d_J_change_13 : decode b_J_change 13 = .ok (.ifCond .lt 10, 3) := by decide +kernel
theorem d_J_change_16 : decode b_J_change 16 = .ok (.iload_n 2, 1) := by decide +kernel
theorem d_J_change_17 : decode b_J_change 17 = .ok (.sipush 255, 3) := by decide +kernel
theorem d_J_change_20 : decode b_J_change 20 = .ok (.if_icmp .le 5, 3) := by decide +kernel
theorem d_J_change_25 : decode b_J_change 25 = .ok (.aload_n 0, 1) := by decide +kernel
theorem d_J_change_26 : decode b_J_change 26 = .ok (.getfield 11, 3) := by decide +kernel
theorem d_J_change_29 : decode b_J_change 29 = .ok (.iload_n 1, 1) := by decide +kernel
theorem d_J_change_30 : decode b_J_change 30 = .ok (.baload, 1) := by decide +kernel
theorem d_J_change_31 : decode b_J_change 31 = .ok (.sipush 255, 3) := by decide +kernel
theorem d_J_change_34 : decode b_J_change 34 = .ok (.iand, 1) := by decide +kernel
theorem d_J_change_35 : decode b_J_change 35 = .ok (.istore_n 3, 1) := by decide +kernel
theorem d_J_change_36 : decode b_J_change 36 = .ok (.aload_n 0, 1) := by decide +kernel
theorem d_J_change_37 : decode b_J_change 37 = .ok (.getfield 11, 3) := by decide +kernel
theorem d_J_change_40 : decode b_J_change 40 = .ok (.iload_n 1, 1) := by decide +kernel
theorem d_J_change_41 : decode b_J_change 41 = .ok (.iload_n 2, 1) := by decide +kernel
theorem d_J_change_42 : decode b_J_change 42 = .ok (.i2b, 1) := by decide +kernel
theorem d_J_change_43 : decode b_J_change 43 = .ok (.bastore, 1) := by decide +kernel
theorem d_J_change_44 : decode b_J_change 44 = .ok (.iload_n 3, 1) := by decide +kernel
theorem d_J_change_45 : decode b_J_change 45 = .ok (.ireturn, 1) := by decide +kernel
/-- J_change -/
def w_J_change (L : Nat → Nat) (a1 : Int) (a2 : Int) (Q : Int → IS → Prop) (σ : IS) : Prop := if ¬ a1 < 0 ∧ (a1 < (σ.1 0 1) ∧ (¬ a2 < 0 ∧ (¬ 255 < a2))) then inL L 100 a1 ∧ inL L 100 a1 ∧ Q (ia (σ.2 100 (Int.toNat a1)) 255) (pr σ 100 (Int.toNat a1) (nb a2)) else Q (-1) σ
set_option maxHeartbeats 4000000 in
set_option maxRecDepth 20000 in
theorem s_J_change {L : Nat → Nat} (hL : ∀ r, L r < 2147483648) {d : Nat} (hd : 0 ≤ d) {a1 : Int} {a2 : Int} {Q : Int → IS → Prop} {σ : IS}  (h : w_J_change L a1 a2 Q σ) : OkI BF L d 0 b_J_change 4 1 0 [] [some (.inr 0), some (.inl a1), some (.inl a2)] σ (qi Q) := by
  unfold w_J_change at h
  refine k_sb (lv' := [some (.inr 0), some (.inl a1), some (.inl a2), none]) (sb_s (sb_s (sb_s (sb_e sb_nil)))) ?_
  refine k_iload_n d_J_change_0 rfl ?_
  have hX3 : (¬ a1 < 0 ∧ (a1 < (σ.1 0 1) ∧ (¬ a2 < 0 ∧ (¬ 255 < a2)))) → OkI BF L d 0 b_J_change 4 1 25 [] [some (.inr 0), some (.inl a1), some (.inl a2), none] σ (qi Q) := fun e5 => by
    have h := ipos e5 h
    refine k_aload_n d_J_change_25 rfl ?_
    refine k_getR d_J_change_26 fl_0_11 ob_0 rfl ?_
    refine k_iload_n d_J_change_29 rfl ?_
    obtain ⟨p2, h⟩ := h
    refine k_bld (x := (σ.2 100 (Int.toNat a1))) d_J_change_30 rB_100 p2 rfl ?_
    refine k_sipush d_J_change_31 cS_255 ?_
    refine k_iand d_J_change_34 ?_
    refine k_istore_n (lv' := [some (.inr 0), some (.inl a1), some (.inl a2), some (.inl (ia (σ.2 100 (Int.toNat a1)) 255))]) d_J_change_35 rfl rfl ?_
    refine k_aload_n d_J_change_36 rfl ?_
    refine k_getR d_J_change_37 fl_0_11 ob_0 rfl ?_
    refine k_iload_n d_J_change_40 rfl ?_
    refine k_iload_n d_J_change_41 rfl ?_
    refine k_i2b d_J_change_42 ?_
    obtain ⟨p1, h⟩ := h
    refine k_bst d_J_change_43 rb_100 p1 (nb_in _) ?_
    refine k_iload_n d_J_change_44 rfl ?_
    exact k_iret d_J_change_45 (Or.inl rfl) h
  have hY4 : ¬ (¬ a1 < 0 ∧ (a1 < (σ.1 0 1) ∧ (¬ a2 < 0 ∧ (¬ 255 < a2)))) → OkI BF L d 0 b_J_change 4 1 23 [] [some (.inr 0), some (.inl a1), some (.inl a2), none] σ (qi Q) := fun e5 => by
    have h := ineg e5 h
    refine k_iconst d_J_change_23 cI_m1 ?_
    exact k_iret d_J_change_24 (Or.inl rfl) h
  refine k_iflt d_J_change_1 rfl (fun c6 => ?_) (fun c6 => ?_)
  · exact hY4 (fun z => z.1 c6)
  · refine k_iload_n d_J_change_4 rfl ?_
    refine k_aload_n d_J_change_5 rfl ?_
    refine k_getI (x := (σ.1 0 1)) d_J_change_6 fl_0_110 ob_0 rfl rfl ?_
    refine k_icge d_J_change_9 rfl (fun c7 => ?_) (fun c7 => ?_)
    · exact hY4 (fun z => (fun z => c7 z.1) z.2)
    · refine k_iload_n d_J_change_12 rfl ?_
      refine k_iflt d_J_change_13 rfl (fun c8 => ?_) (fun c8 => ?_)
      · exact hY4 (fun z => (fun z => (fun z => z.1 c8) z.2) z.2)
      · refine k_iload_n d_J_change_16 rfl ?_
        refine k_sipush d_J_change_17 cS_255 ?_
        refine k_icle d_J_change_20 rfl (fun c9 => ?_) (fun c9 => ?_)
        · exact hX3 (⟨c6, ⟨c7, ⟨c8, c9⟩⟩⟩)
        · exact hY4 (fun z => (fun z => (fun z => (fun z => z c9) z.2) z.2) z.2)
/-- J_characters -/
def w_J_characters (L : Nat → Nat)  (Q : Int → IS → Prop) (σ : IS) : Prop := Q (σ.1 6 16) σ
set_option maxHeartbeats 4000000 in
set_option maxRecDepth 20000 in
theorem s_J_characters {L : Nat → Nat} (hL : ∀ r, L r < 2147483648) {d : Nat} (hd : 0 ≤ d)  {Q : Int → IS → Prop} {σ : IS}  (h : w_J_characters L  Q σ) : OkI BF L d 0 b_J_characters 1 1 0 [] [some (.inr 0)] σ (qi Q) := by
  unfold w_J_characters at h
  refine k_sb (lv' := [some (.inr 0)]) (sb_s sb_nil) ?_
  refine k_aload_n d_J_characters_0 rfl ?_
  refine k_getR d_J_characters_1 fl_0_63 ob_0 rfl ?_
  refine k_getI (x := (σ.1 6 16)) d_J_characters_4 fl_0_221 ob_6 rfl rfl ?_
  exact k_iret d_J_characters_7 (Or.inl rfl) h
theorem d_J_counted_7 : decode b_J_counted 7 = .ok (.aload_n 0, 1) := by decide +kernel
theorem d_J_counted_8 : decode b_J_counted 8 = .ok (.getfield 38, 3) := by decide +kernel
theorem d_J_counted_11 : decode b_J_counted 11 = .ok (.getfield 224, 3) := by decide +kernel
theorem d_J_counted_14 : decode b_J_counted 14 = .ok (.goto 4, 3) := by decide +kernel
/-- J_counted -/
def w_J_counted (L : Nat → Nat)  (Q : Int → IS → Prop) (σ : IS) : Prop := Q (if (σ.1 0 12) = 0 then (0 : Int) else (σ.1 3 13)) σ
set_option maxHeartbeats 4000000 in
set_option maxRecDepth 20000 in
theorem s_J_counted {L : Nat → Nat} (hL : ∀ r, L r < 2147483648) {d : Nat} (hd : 0 ≤ d)  {Q : Int → IS → Prop} {σ : IS}  (h : w_J_counted L  Q σ) : OkI BF L d 0 b_J_counted 1 1 0 [] [some (.inr 0)] σ (qi Q) := by
  unfold w_J_counted at h
  refine k_sb (lv' := [some (.inr 0)]) (sb_s sb_nil) ?_
  refine k_aload_n d_J_counted_0 rfl ?_
  refine k_getI (x := (σ.1 0 12)) d_J_counted_1 fl_0_161 ob_0 rfl rfl ?_
  have hV1 : OkI BF L d 0 b_J_counted 1 1 18 [.inl (if (σ.1 0 12) = 0 then (0 : Int) else (σ.1 3 13))] [some (.inr 0)] σ (qi Q) := by
    exact k_iret d_J_counted_18 (Or.inl rfl) h
  refine k_ifeq d_J_counted_4 rfl (fun c2 => ?_) (fun c2 => ?_)
  · have hV3 := k_eqI (if_pos c2) hV1
    refine k_iconst d_J_counted_17 cI_0 ?_
    exact hV3
  · have hV4 := k_eqI (if_neg c2) hV1
    refine k_aload_n d_J_counted_7 rfl ?_
    refine k_getR d_J_counted_8 fl_0_38 ob_0 rfl ?_
    refine k_getI (x := (σ.1 3 13)) d_J_counted_11 fl_0_224 ob_3 rfl rfl ?_
    refine k_goto d_J_counted_14 rfl ?_
    exact hV4
/-- J_elements -/
def w_J_elements (L : Nat → Nat)  (Q : Int → IS → Prop) (σ : IS) : Prop := Q (σ.1 6 2) σ
set_option maxHeartbeats 4000000 in
set_option maxRecDepth 20000 in
theorem s_J_elements {L : Nat → Nat} (hL : ∀ r, L r < 2147483648) {d : Nat} (hd : 0 ≤ d)  {Q : Int → IS → Prop} {σ : IS}  (h : w_J_elements L  Q σ) : OkI BF L d 0 b_J_elements 1 1 0 [] [some (.inr 0)] σ (qi Q) := by
  unfold w_J_elements at h
  refine k_sb (lv' := [some (.inr 0)]) (sb_s sb_nil) ?_
  refine k_aload_n d_J_elements_0 rfl ?_
  refine k_getR d_J_elements_1 fl_0_63 ob_0 rfl ?_
  refine k_getI (x := (σ.1 6 2)) d_J_elements_4 fl_0_192 ob_6 rfl rfl ?_
  exact k_iret d_J_elements_7 (Or.inl rfl) h
/-- J_fault -/
def w_J_fault (L : Nat → Nat)  (Q : Int → IS → Prop) (σ : IS) : Prop := Q (σ.1 0 13) σ
set_option maxHeartbeats 4000000 in
set_option maxRecDepth 20000 in
theorem s_J_fault {L : Nat → Nat} (hL : ∀ r, L r < 2147483648) {d : Nat} (hd : 0 ≤ d)  {Q : Int → IS → Prop} {σ : IS}  (h : w_J_fault L  Q σ) : OkI BF L d 0 b_J_fault 1 1 0 [] [some (.inr 0)] σ (qi Q) := by
  unfold w_J_fault at h
  refine k_sb (lv' := [some (.inr 0)]) (sb_s sb_nil) ?_
  refine k_aload_n d_J_fault_0 rfl ?_
  refine k_getI (x := (σ.1 0 13)) d_J_fault_1 fl_0_158 ob_0 rfl rfl ?_
  exact k_iret d_J_fault_4 (Or.inl rfl) h
/-- Entities_forget -/
def w_Entities_forget (L : Nat → Nat) (a1 : Int) (Q : IS → Prop) (σ : IS) : Prop := ((0 : Int) ≤ (0 : Int) ∧ (0 : Int) ≤ a1 ∧ a1 ≤ ((L 114 : Nat) : Int)) ∧ ((0 : Int) ≤ (0 : Int) ∧ (0 : Int) ≤ a1 ∧ a1 ≤ ((L 115 : Nat) : Int)) ∧ Q (pf (pf (pf (pf (pf (fl (fl σ 114 (Int.toNat (0 : Int)) (Int.toNat a1) 0) 115 (Int.toNat (0 : Int)) (Int.toNat a1) 0) 3 5 0) 3 12 0) 3 14 0) 3 15 0) 3 16 0)
set_option maxHeartbeats 4000000 in
set_option maxRecDepth 20000 in
theorem s_Entities_forget {L : Nat → Nat} (hL : ∀ r, L r < 2147483648) {d : Nat} (hd : 0 ≤ d) {a1 : Int} {Q : IS → Prop} {σ : IS}  (h : w_Entities_forget L a1 Q σ) : OkI BF L d 3 b_Entities_forget 2 0 0 [] [some (.inr 3), some (.inl a1)] σ (qv Q) := by
  unfold w_Entities_forget at h
  refine k_sb (lv' := [some (.inr 3), some (.inl a1)]) (sb_s (sb_s sb_nil)) ?_
  refine k_aload_n d_Entities_forget_0 rfl ?_
  refine k_getR d_Entities_forget_1 fl_3_51 ob_3 rfl ?_
  refine k_iconst d_Entities_forget_4 cI_0 ?_
  refine k_iload_n d_Entities_forget_5 rfl ?_
  refine k_iconst d_Entities_forget_6 cI_0 ?_
  obtain ⟨p2, h⟩ := h
  refine k_fillr d_Entities_forget_7 ml_3_57 rI_114 p2 rfl ?_
  refine k_aload_n d_Entities_forget_10 rfl ?_
  refine k_getR d_Entities_forget_11 fl_3_54 ob_3 rfl ?_
  refine k_iconst d_Entities_forget_14 cI_0 ?_
  refine k_iload_n d_Entities_forget_15 rfl ?_
  refine k_iconst d_Entities_forget_16 cI_0 ?_
  obtain ⟨p1, h⟩ := h
  refine k_fillr d_Entities_forget_17 ml_3_57 rI_115 p1 rfl ?_
  refine k_aload_n d_Entities_forget_20 rfl ?_
  refine k_iconst d_Entities_forget_21 cI_0 ?_
  refine k_putI d_Entities_forget_22 fl_3_63 ob_3 rfl ?_
  refine k_aload_n d_Entities_forget_25 rfl ?_
  refine k_iconst d_Entities_forget_26 cI_0 ?_
  refine k_putI d_Entities_forget_27 fl_3_66 ob_3 rfl ?_
  refine k_aload_n d_Entities_forget_30 rfl ?_
  refine k_iconst d_Entities_forget_31 cI_0 ?_
  refine k_putI d_Entities_forget_32 fl_3_69 ob_3 rfl ?_
  refine k_aload_n d_Entities_forget_35 rfl ?_
  refine k_iconst d_Entities_forget_36 cI_0 ?_
  refine k_putZ d_Entities_forget_37 fl_3_72 ob_3 rfl (Or.inl rfl) ?_
  refine k_aload_n d_Entities_forget_40 rfl ?_
  refine k_iconst d_Entities_forget_41 cI_0 ?_
  refine k_putZ d_Entities_forget_42 fl_3_76 ob_3 rfl (Or.inl rfl) ?_
  exact k_ret d_Entities_forget_45 h
/-- Declared_forget -/
def w_Declared_forget (L : Nat → Nat) (a1 : Int) (Q : IS → Prop) (σ : IS) : Prop := ((0 : Int) ≤ (0 : Int) ∧ (0 : Int) ≤ a1 ∧ a1 ≤ ((L 125 : Nat) : Int)) ∧ ((0 : Int) ≤ (0 : Int) ∧ (0 : Int) ≤ a1 ∧ a1 ≤ ((L 126 : Nat) : Int)) ∧ ((0 : Int) ≤ (0 : Int) ∧ (0 : Int) ≤ a1 ∧ a1 ≤ ((L 127 : Nat) : Int)) ∧ Q (pf (pf (pf (pf (fl (fl (fl σ 125 (Int.toNat (0 : Int)) (Int.toNat a1) 0) 126 (Int.toNat (0 : Int)) (Int.toNat a1) 0) 127 (Int.toNat (0 : Int)) (Int.toNat a1) 0) 4 3 0) 4 12 0) 4 16 0) 4 18 0)
set_option maxHeartbeats 4000000 in
set_option maxRecDepth 20000 in
theorem s_Declared_forget {L : Nat → Nat} (hL : ∀ r, L r < 2147483648) {d : Nat} (hd : 0 ≤ d) {a1 : Int} {Q : IS → Prop} {σ : IS}  (h : w_Declared_forget L a1 Q σ) : OkI BF L d 4 b_Declared_forget 2 0 0 [] [some (.inr 4), some (.inl a1)] σ (qv Q) := by
  unfold w_Declared_forget at h
  refine k_sb (lv' := [some (.inr 4), some (.inl a1)]) (sb_s (sb_s sb_nil)) ?_
  refine k_aload_n d_Declared_forget_0 rfl ?_
  refine k_getR d_Declared_forget_1 fl_4_54 ob_4 rfl ?_
  refine k_iconst d_Declared_forget_4 cI_0 ?_
  refine k_iload_n d_Declared_forget_5 rfl ?_
  refine k_iconst d_Declared_forget_6 cI_0 ?_
  obtain ⟨p3, h⟩ := h
  refine k_fillr d_Declared_forget_7 ml_4_63 rI_125 p3 rfl ?_
  refine k_aload_n d_Declared_forget_10 rfl ?_
  refine k_getR d_Declared_forget_11 fl_4_57 ob_4 rfl ?_
  refine k_iconst d_Declared_forget_14 cI_0 ?_
  refine k_iload_n d_Declared_forget_15 rfl ?_
  refine k_iconst d_Declared_forget_16 cI_0 ?_
  obtain ⟨p2, h⟩ := h
  refine k_fillr d_Declared_forget_17 ml_4_63 rI_126 p2 rfl ?_
  refine k_aload_n d_Declared_forget_20 rfl ?_
  refine k_getR d_Declared_forget_21 fl_4_60 ob_4 rfl ?_
  refine k_iconst d_Declared_forget_24 cI_0 ?_
  refine k_iload_n d_Declared_forget_25 rfl ?_
  refine k_iconst d_Declared_forget_26 cI_0 ?_
  obtain ⟨p1, h⟩ := h
  refine k_fillr d_Declared_forget_27 ml_4_63 rI_127 p1 rfl ?_
  refine k_aload_n d_Declared_forget_30 rfl ?_
  refine k_iconst d_Declared_forget_31 cI_0 ?_
  refine k_putI d_Declared_forget_32 fl_4_69 ob_4 rfl ?_
  refine k_aload_n d_Declared_forget_35 rfl ?_
  refine k_iconst d_Declared_forget_36 cI_0 ?_
  refine k_putI d_Declared_forget_37 fl_4_72 ob_4 rfl ?_
  refine k_aload_n d_Declared_forget_40 rfl ?_
  refine k_iconst d_Declared_forget_41 cI_0 ?_
  refine k_putI d_Declared_forget_42 fl_4_75 ob_4 rfl ?_
  refine k_aload_n d_Declared_forget_45 rfl ?_
  refine k_iconst d_Declared_forget_46 cI_0 ?_
  refine k_putI d_Declared_forget_47 fl_4_78 ob_4 rfl ?_
  exact k_ret d_Declared_forget_50 h
/-- Meanings_forget -/
def w_Meanings_forget (L : Nat → Nat) (a1 : Int) (Q : IS → Prop) (σ : IS) : Prop := ((0 : Int) ≤ (0 : Int) ∧ (0 : Int) ≤ a1 ∧ a1 ≤ ((L 156 : Nat) : Int)) ∧ ((0 : Int) ≤ (0 : Int) ∧ (0 : Int) ≤ a1 ∧ a1 ≤ ((L 158 : Nat) : Int)) ∧ inL L 158 6 ∧ Q (pr (fl (fl σ 156 (Int.toNat (0 : Int)) (Int.toNat a1) 0) 158 (Int.toNat (0 : Int)) (Int.toNat a1) 0) 158 (Int.toNat 6) 8)
set_option maxHeartbeats 4000000 in
set_option maxRecDepth 20000 in
theorem s_Meanings_forget {L : Nat → Nat} (hL : ∀ r, L r < 2147483648) {d : Nat} (hd : 0 ≤ d) {a1 : Int} {Q : IS → Prop} {σ : IS}  (h : w_Meanings_forget L a1 Q σ) : OkI BF L d 10 b_Meanings_forget 2 0 0 [] [some (.inr 10), some (.inl a1)] σ (qv Q) := by
  unfold w_Meanings_forget at h
  refine k_sb (lv' := [some (.inr 10), some (.inl a1)]) (sb_s (sb_s sb_nil)) ?_
  refine k_aload_n d_Meanings_forget_0 rfl ?_
  refine k_getR d_Meanings_forget_1 fl_10_25 ob_10 rfl ?_
  refine k_iconst d_Meanings_forget_4 cI_0 ?_
  refine k_iload_n d_Meanings_forget_5 rfl ?_
  refine k_iconst d_Meanings_forget_6 cI_0 ?_
  obtain ⟨p3, h⟩ := h
  refine k_fillr d_Meanings_forget_7 ml_10_45 rI_156 p3 rfl ?_
  refine k_aload_n d_Meanings_forget_10 rfl ?_
  refine k_getR d_Meanings_forget_11 fl_10_31 ob_10 rfl ?_
  refine k_iconst d_Meanings_forget_14 cI_0 ?_
  refine k_iload_n d_Meanings_forget_15 rfl ?_
  refine k_iconst d_Meanings_forget_16 cI_0 ?_
  obtain ⟨p2, h⟩ := h
  refine k_fillr d_Meanings_forget_17 ml_10_45 rI_158 p2 rfl ?_
  refine k_aload_n d_Meanings_forget_20 rfl ?_
  refine k_getR d_Meanings_forget_21 fl_10_31 ob_10 rfl ?_
  refine k_bipush d_Meanings_forget_24 cB_6 ?_
  refine k_bipush d_Meanings_forget_26 cB_8 ?_
  obtain ⟨p1, h⟩ := h
  refine k_ist d_Meanings_forget_28 rI_158 p1 ?_
  exact k_ret d_Meanings_forget_29 h
theorem d_Store_forget_15 : decode b_Store_forget 15 = .ok (.aload_n 0, 1) := by decide +kernel
theorem d_Store_forget_16 : decode b_Store_forget 16 = .ok (.getfield 41, 3) := by decide +kernel
theorem d_Store_forget_19 : decode b_Store_forget 19 = .ok (.aload_n 0, 1) := by decide +kernel
theorem d_Store_forget_20 : decode b_Store_forget 20 = .ok (.getfield 32, 3) := by decide +kernel
theorem d_Store_forget_23 : decode b_Store_forget 23 = .ok (.iload_n 1, 1) := by decide +kernel
theorem d_Store_forget_24 : decode b_Store_forget 24 = .ok (.iaload, 1) := by decide +kernel
theorem d_Store_forget_25 : decode b_Store_forget 25 = .ok (.aload_n 0, 1) := by decide +kernel
theorem d_Store_forget_26 : decode b_Store_forget 26 = .ok (.getfield 41, 3) := by decide +kernel
theorem d_Store_forget_29 : decode b_Store_forget 29 = .ok (.arraylength, 1) := by decide +kernel
theorem d_Store_forget_30 : decode b_Store_forget 30 = .ok (.iconst 1, 1) := by decide +kernel
theorem d_Store_forget_31 : decode b_Store_forget 31 = .ok (.isub, 1) := by decide +kernel
theorem d_Store_forget_32 : decode b_Store_forget 32 = .ok (.iand, 1) := by decide +kernel
theorem d_Store_forget_33 : decode b_Store_forget 33 = .ok (.aload_n 0, 1) := by decide +kernel
theorem d_Store_forget_34 : decode b_Store_forget 34 = .ok (.getfield 35, 3) := by decide +kernel
theorem d_Store_forget_37 : decode b_Store_forget 37 = .ok (.iload_n 1, 1) := by decide +kernel
theorem d_Store_forget_38 : decode b_Store_forget 38 = .ok (.iaload, 1) := by decide +kernel
theorem d_Store_forget_39 : decode b_Store_forget 39 = .ok (.iastore, 1) := by decide +kernel
theorem d_Store_forget_40 : decode b_Store_forget 40 = .ok (.iinc 1 (-1), 3) := by decide +kernel
theorem d_Store_forget_43 : decode b_Store_forget 43 = .ok (.goto (-36), 3) := by decide +kernel
/-- Store_forget -/
def w_Store_forget (L : Nat → Nat)  (Q : IS → Prop) (σ : IS) : Prop := inR ((σ.1 1 14) - 1) ∧ WL (fun (K1 : Int → IS → Prop) (s3 : Int) (σ4 : IS) => if s3 < (σ4.1 1 12) then Q (pf (pf (pf (pf σ4 1 14 (σ4.1 1 12)) 1 3 (σ4.1 1 2)) 1 4 0) 1 6 0) else inL L 104 s3 ∧ inR (((L 106 : Nat) : Int) - 1) ∧ inL L 105 s3 ∧ inL L 106 (ia (σ4.2 104 (Int.toNat s3)) (((L 106 : Nat) : Int) - 1)) ∧ inR (s3 + (-1)) ∧ K1 (s3 + (-1)) (pr σ4 106 (Int.toNat (ia (σ4.2 104 (Int.toNat s3)) (((L 106 : Nat) : Int) - 1))) (σ4.2 105 (Int.toNat s3)))) ((σ.1 1 14) - 1) σ
set_option maxHeartbeats 4000000 in
set_option maxRecDepth 20000 in
theorem s_Store_forget {L : Nat → Nat} (hL : ∀ r, L r < 2147483648) {d : Nat} (hd : 0 ≤ d)  {Q : IS → Prop} {σ : IS}  (h : w_Store_forget L  Q σ) : OkI BF L d 1 b_Store_forget 2 0 0 [] [some (.inr 1)] σ (qv Q) := by
  unfold w_Store_forget at h
  refine k_sb (lv' := [some (.inr 1), none]) (sb_s (sb_e sb_nil)) ?_
  refine k_aload_n d_Store_forget_0 rfl ?_
  refine k_getI (x := (σ.1 1 14)) d_Store_forget_1 fl_1_92 ob_1 rfl rfl ?_
  refine k_iconst d_Store_forget_4 cI_1 ?_
  obtain ⟨p11, h⟩ := h
  refine k_isub d_Store_forget_5 p11 ?_
  refine k_istore_n (lv' := [some (.inr 1), some (.inl ((σ.1 1 14) - 1))]) d_Store_forget_6 rfl rfl ?_
  refine k_sb (lv' := [some (.inr 1), some (.inl ((σ.1 1 14) - 1))]) (sb_s (sb_s sb_nil)) ?_
  refine k_loop (S := Int) (st := fun _ => []) (lv := fun s3 => [some (.inr 1), some (.inl s3)]) (fun K1 hK2 s3 σ4 h => ?_) ((σ.1 1 14) - 1) _ h
  refine k_iload_n d_Store_forget_7 rfl ?_
  refine k_aload_n d_Store_forget_8 rfl ?_
  refine k_getI (x := (σ4.1 1 12)) d_Store_forget_9 fl_1_95 ob_1 rfl rfl ?_
  refine k_iclt d_Store_forget_12 rfl (fun c5 => ?_) (fun c5 => ?_)
  · have h := ipos c5 h
    refine k_aload_n d_Store_forget_46 rfl ?_
    refine k_aload_n d_Store_forget_47 rfl ?_
    refine k_getI (x := (σ4.1 1 12)) d_Store_forget_48 fl_1_95 ob_1 rfl rfl ?_
    refine k_putI d_Store_forget_51 fl_1_92 ob_1 rfl ?_
    refine k_aload_n d_Store_forget_54 rfl ?_
    refine k_aload_n d_Store_forget_55 rfl ?_
    refine k_getI (x := (σ4.1 1 2)) d_Store_forget_56 fl_1_101 ob_1 rfl rfl ?_
    refine k_putI d_Store_forget_59 fl_1_98 ob_1 rfl ?_
    refine k_aload_n d_Store_forget_62 rfl ?_
    refine k_iconst d_Store_forget_63 cI_0 ?_
    refine k_putI d_Store_forget_64 fl_1_121 ob_1 rfl ?_
    refine k_aload_n d_Store_forget_67 rfl ?_
    refine k_iconst d_Store_forget_68 cI_0 ?_
    refine k_putZ d_Store_forget_69 fl_1_123 ob_1 rfl (Or.inl rfl) ?_
    exact k_ret d_Store_forget_72 h
  · have h := ineg c5 h
    refine k_aload_n d_Store_forget_15 rfl ?_
    refine k_getR d_Store_forget_16 fl_1_41 ob_1 rfl ?_
    refine k_aload_n d_Store_forget_19 rfl ?_
    refine k_getR d_Store_forget_20 fl_1_32 ob_1 rfl ?_
    refine k_iload_n d_Store_forget_23 rfl ?_
    obtain ⟨p10, h⟩ := h
    refine k_ild (x := (σ4.2 104 (Int.toNat s3))) d_Store_forget_24 rI_104 p10 rfl ?_
    refine k_aload_n d_Store_forget_25 rfl ?_
    refine k_getR d_Store_forget_26 fl_1_41 ob_1 rfl ?_
    refine k_len d_Store_forget_29 rI_106.1 (hL _) ?_
    refine k_iconst d_Store_forget_30 cI_1 ?_
    obtain ⟨p9, h⟩ := h
    refine k_isub d_Store_forget_31 p9 ?_
    refine k_iand d_Store_forget_32 ?_
    refine k_aload_n d_Store_forget_33 rfl ?_
    refine k_getR d_Store_forget_34 fl_1_35 ob_1 rfl ?_
    refine k_iload_n d_Store_forget_37 rfl ?_
    obtain ⟨p8, h⟩ := h
    refine k_ild (x := (σ4.2 105 (Int.toNat s3))) d_Store_forget_38 rI_105 p8 rfl ?_
    obtain ⟨p7, h⟩ := h
    refine k_ist d_Store_forget_39 rI_106 p7 ?_
    obtain ⟨p6, h⟩ := h
    refine k_iinc (lv' := [some (.inr 1), some (.inl (s3 + (-1)))]) d_Store_forget_40 cI_m1 rfl rfl p6 rfl ?_
    refine k_goto d_Store_forget_43 rfl ?_
    exact k_sb (sb_s (sb_s sb_nil)) (hK2 (s3 + (-1)) _ h)
/-- Doctype_forget -/
def w_Doctype_forget (L : Nat → Nat)  (Q : IS → Prop) (σ : IS) : Prop := Q (pf (pf σ 5 5 0) 5 6 0)
set_option maxHeartbeats 4000000 in
set_option maxRecDepth 20000 in
theorem s_Doctype_forget {L : Nat → Nat} (hL : ∀ r, L r < 2147483648) {d : Nat} (hd : 0 ≤ d)  {Q : IS → Prop} {σ : IS}  (h : w_Doctype_forget L  Q σ) : OkI BF L d 5 b_Doctype_forget 1 0 0 [] [some (.inr 5)] σ (qv Q) := by
  unfold w_Doctype_forget at h
  refine k_sb (lv' := [some (.inr 5)]) (sb_s sb_nil) ?_
  refine k_aload_n d_Doctype_forget_0 rfl ?_
  refine k_iconst d_Doctype_forget_1 cI_0 ?_
  refine k_putZ d_Doctype_forget_2 fl_5_44 ob_5 rfl (Or.inl rfl) ?_
  refine k_aload_n d_Doctype_forget_5 rfl ?_
  refine k_iconst d_Doctype_forget_6 cI_0 ?_
  refine k_putZ d_Doctype_forget_7 fl_5_48 ob_5 rfl (Or.inl rfl) ?_
  exact k_ret d_Doctype_forget_10 h
/-- Tree_forget -/
def w_Tree_forget (L : Nat → Nat)  (Q : IS → Prop) (σ : IS) : Prop := Q (pf (pf (pf (pf (pf (pf σ 6 1 0) 6 2 0) 6 10 0) 6 15 0) 6 16 0) 6 3 (-1))
set_option maxHeartbeats 4000000 in
set_option maxRecDepth 20000 in
theorem s_Tree_forget {L : Nat → Nat} (hL : ∀ r, L r < 2147483648) {d : Nat} (hd : 0 ≤ d)  {Q : IS → Prop} {σ : IS}  (h : w_Tree_forget L  Q σ) : OkI BF L d 6 b_Tree_forget 1 0 0 [] [some (.inr 6)] σ (qv Q) := by
  unfold w_Tree_forget at h
  refine k_sb (lv' := [some (.inr 6)]) (sb_s sb_nil) ?_
  refine k_aload_n d_Tree_forget_0 rfl ?_
  refine k_iconst d_Tree_forget_1 cI_0 ?_
  refine k_putI d_Tree_forget_2 fl_6_49 ob_6 rfl ?_
  refine k_aload_n d_Tree_forget_5 rfl ?_
  refine k_iconst d_Tree_forget_6 cI_0 ?_
  refine k_putI d_Tree_forget_7 fl_6_52 ob_6 rfl ?_
  refine k_aload_n d_Tree_forget_10 rfl ?_
  refine k_iconst d_Tree_forget_11 cI_0 ?_
  refine k_putI d_Tree_forget_12 fl_6_55 ob_6 rfl ?_
  refine k_aload_n d_Tree_forget_15 rfl ?_
  refine k_iconst d_Tree_forget_16 cI_0 ?_
  refine k_putI d_Tree_forget_17 fl_6_58 ob_6 rfl ?_
  refine k_aload_n d_Tree_forget_20 rfl ?_
  refine k_iconst d_Tree_forget_21 cI_0 ?_
  refine k_putI d_Tree_forget_22 fl_6_61 ob_6 rfl ?_
  refine k_aload_n d_Tree_forget_25 rfl ?_
  refine k_iconst d_Tree_forget_26 cI_m1 ?_
  refine k_putI d_Tree_forget_27 fl_6_46 ob_6 rfl ?_
  exact k_ret d_Tree_forget_30 h
/-- J_forget -/
def w_J_forget (L : Nat → Nat)  (Q : IS → Prop) (σ : IS) : Prop := w_Entities_forget L (σ.1 1 14) (fun σ1 => w_Declared_forget L (σ.1 1 14) (fun σ3 => w_Meanings_forget L (σ.1 1 14) (fun σ5 => w_Store_forget L  (fun σ7 => w_Doctype_forget L  (fun σ9 => w_Tree_forget L  (fun σ11 => Q σ11) σ9) σ7) σ5) σ3) σ1) σ
set_option maxHeartbeats 4000000 in
set_option maxRecDepth 20000 in
theorem s_J_forget {L : Nat → Nat} (hL : ∀ r, L r < 2147483648) {d : Nat} (hd : 1 ≤ d)  {Q : IS → Prop} {σ : IS}  (h : w_J_forget L  Q σ) : OkI BF L d 0 b_J_forget 2 0 0 [] [some (.inr 0)] σ (qv Q) := by
  unfold w_J_forget at h
  obtain ⟨d, rfl⟩ : ∃ e, d = e + 1 := ⟨d - 1, by omega⟩
  refine k_sb (lv' := [some (.inr 0), none]) (sb_s (sb_e sb_nil)) ?_
  refine k_aload_n d_J_forget_0 rfl ?_
  refine k_getR d_J_forget_1 fl_0_20 ob_0 rfl ?_
  refine k_getI (x := (σ.1 1 14)) d_J_forget_4 fl_0_178 ob_1 rfl rfl ?_
  refine k_istore_n (lv' := [some (.inr 0), some (.inl (σ.1 1 14))]) d_J_forget_7 rfl rfl ?_
  refine k_aload_n d_J_forget_8 rfl ?_
  refine k_getR d_J_forget_9 fl_0_38 ob_0 rfl ?_
  refine k_iload_n d_J_forget_12 rfl ?_
  refine k_cvv [.inl (σ.1 1 14)] d_J_forget_13 ml_0_181 rfl rfl ob_3 rfl (s_Entities_forget hL (by omega)  h) (fun σ1 h => ?_)
  refine k_aload_n d_J_forget_16 rfl ?_
  refine k_getR d_J_forget_17 fl_0_45 ob_0 rfl ?_
  refine k_iload_n d_J_forget_20 rfl ?_
  refine k_cvv [.inl (σ.1 1 14)] d_J_forget_21 ml_0_183 rfl rfl ob_4 rfl (s_Declared_forget hL (by omega)  h) (fun σ3 h => ?_)
  refine k_aload_n d_J_forget_24 rfl ?_
  refine k_getR d_J_forget_25 fl_0_93 ob_0 rfl ?_
  refine k_iload_n d_J_forget_28 rfl ?_
  refine k_cvv [.inl (σ.1 1 14)] d_J_forget_29 ml_0_184 rfl rfl ob_10 rfl (s_Meanings_forget hL (by omega)  h) (fun σ5 h => ?_)
  refine k_aload_n d_J_forget_32 rfl ?_
  refine k_getR d_J_forget_33 fl_0_20 ob_0 rfl ?_
  refine k_cvv [] d_J_forget_36 ml_0_185 rfl rfl ob_1 rfl (s_Store_forget hL (by omega)  h) (fun σ7 h => ?_)
  refine k_aload_n d_J_forget_39 rfl ?_
  refine k_getR d_J_forget_40 fl_0_54 ob_0 rfl ?_
  refine k_cvv [] d_J_forget_43 ml_0_186 rfl rfl ob_5 rfl (s_Doctype_forget hL (by omega)  h) (fun σ9 h => ?_)
  refine k_aload_n d_J_forget_46 rfl ?_
  refine k_getR d_J_forget_47 fl_0_63 ob_0 rfl ?_
  refine k_cvv [] d_J_forget_50 ml_0_165 rfl rfl ob_6 rfl (s_Tree_forget hL (by omega)  h) (fun σ11 h => ?_)
  exact k_ret d_J_forget_53 h
theorem d_Reader_isCharacter_0 : decode b_Reader_isCharacter 0 = .ok (.iload_n 0, 1) := by decide +kernel
theorem d_Reader_isCharacter_1 : decode b_Reader_isCharacter 1 = .ok (.bipush 32, 2) := by decide +kernel
theorem d_Reader_isCharacter_3 : decode b_Reader_isCharacter 3 = .ok (.if_icmp .lt 9, 3) := by decide +kernel
theorem d_Reader_isCharacter_6 : decode b_Reader_isCharacter 6 = .ok (.iload_n 0, 1) := by decide +kernel
theorem d_Reader_isCharacter_7 : decode b_Reader_isCharacter 7 = .ok (.ldc 44, 2) := by decide +kernel
theorem d_Reader_isCharacter_9 : decode b_Reader_isCharacter 9 = .ok (.if_icmp .le 45, 3) := by decide +kernel
theorem d_Reader_isCharacter_12 : decode b_Reader_isCharacter 12 = .ok (.iload_n 0, 1) := by decide +kernel
theorem d_Reader_isCharacter_13 : decode b_Reader_isCharacter 13 = .ok (.bipush 9, 2) := by decide +kernel
theorem d_Reader_isCharacter_15 : decode b_Reader_isCharacter 15 = .ok (.if_icmp .eq 39, 3) := by decide +kernel
theorem d_Reader_isCharacter_18 : decode b_Reader_isCharacter 18 = .ok (.iload_n 0, 1) := by decide +kernel
theorem d_Reader_isCharacter_19 : decode b_Reader_isCharacter 19 = .ok (.bipush 10, 2) := by decide +kernel
theorem d_Reader_isCharacter_21 : decode b_Reader_isCharacter 21 = .ok (.if_icmp .eq 33, 3) := by decide +kernel
theorem d_Reader_isCharacter_24 : decode b_Reader_isCharacter 24 = .ok (.iload_n 0, 1) := by decide +kernel
theorem d_Reader_isCharacter_25 : decode b_Reader_isCharacter 25 = .ok (.bipush 13, 2) := by decide +kernel
theorem d_Reader_isCharacter_27 : decode b_Reader_isCharacter 27 = .ok (.if_icmp .eq 27, 3) := by decide +kernel
theorem d_Reader_isCharacter_30 : decode b_Reader_isCharacter 30 = .ok (.iload_n 0, 1) := by decide +kernel
theorem d_Reader_isCharacter_31 : decode b_Reader_isCharacter 31 = .ok (.ldc 45, 2) := by decide +kernel
theorem d_Reader_isCharacter_33 : decode b_Reader_isCharacter 33 = .ok (.if_icmp .lt 9, 3) := by decide +kernel
theorem d_Reader_isCharacter_36 : decode b_Reader_isCharacter 36 = .ok (.iload_n 0, 1) := by decide +kernel
theorem d_Reader_isCharacter_37 : decode b_Reader_isCharacter 37 = .ok (.ldc 46, 2) := by decide +kernel
theorem d_Reader_isCharacter_39 : decode b_Reader_isCharacter 39 = .ok (.if_icmp .le 15, 3) := by decide +kernel
theorem d_Reader_isCharacter_42 : decode b_Reader_isCharacter 42 = .ok (.iload_n 0, 1) := by decide +kernel
theorem d_Reader_isCharacter_43 : decode b_Reader_isCharacter 43 = .ok (.ldc 47, 2) := by decide +kernel
theorem d_Reader_isCharacter_45 : decode b_Reader_isCharacter 45 = .ok (.if_icmp .lt 13, 3) := by decide +kernel
theorem d_Reader_isCharacter_48 : decode b_Reader_isCharacter 48 = .ok (.iload_n 0, 1) := by decide +kernel
theorem d_Reader_isCharacter_49 : decode b_Reader_isCharacter 49 = .ok (.ldc 48, 2) := by decide +kernel
theorem d_Reader_isCharacter_51 : decode b_Reader_isCharacter 51 = .ok (.if_icmp .gt 7, 3) := by decide +kernel
theorem d_Reader_isCharacter_54 : decode b_Reader_isCharacter 54 = .ok (.iconst 1, 1) := by decide +kernel
theorem d_Reader_isCharacter_55 : decode b_Reader_isCharacter 55 = .ok (.goto 4, 3) := by decide +kernel
theorem d_Reader_isCharacter_58 : decode b_Reader_isCharacter 58 = .ok (.iconst 0, 1) := by decide +kernel
theorem d_Reader_isCharacter_59 : decode b_Reader_isCharacter 59 = .ok (.ireturn, 1) := by decide +kernel
/-- Reader_isCharacter -/
def w_Reader_isCharacter (L : Nat → Nat) (a0 : Int) (Q : Int → IS → Prop) (σ : IS) : Prop := Q (if a0 < 32 then (if a0 = 9 then (1 : Int) else (if a0 = 10 then (1 : Int) else (if a0 = 13 then (1 : Int) else (if a0 < 57344 then (if a0 < 65536 then (0 : Int) else (if 1114111 < a0 then (0 : Int) else (1 : Int))) else (if 65533 < a0 then (if a0 < 65536 then (0 : Int) else (if 1114111 < a0 then (0 : Int) else (1 : Int))) else (1 : Int)))))) else (if 55295 < a0 then (if a0 = 9 then (1 : Int) else (if a0 = 10 then (1 : Int) else (if a0 = 13 then (1 : Int) else (if a0 < 57344 then (if a0 < 65536 then (0 : Int) else (if 1114111 < a0 then (0 : Int) else (1 : Int))) else (if 65533 < a0 then (if a0 < 65536 then (0 : Int) else (if 1114111 < a0 then (0 : Int) else (1 : Int))) else (1 : Int)))))) else (1 : Int))) σ
set_option maxHeartbeats 4000000 in
set_option maxRecDepth 20000 in
theorem s_Reader_isCharacter {L : Nat → Nat} (hL : ∀ r, L r < 2147483648) {d : Nat} (hd : 0 ≤ d) {a0 : Int} {Q : Int → IS → Prop} {σ : IS}  (h : w_Reader_isCharacter L a0 Q σ) : OkI BF L d 2 b_Reader_isCharacter 1 2 0 [] [some (.inl a0)] σ (qi Q) := by
  unfold w_Reader_isCharacter at h
  refine k_sb (lv' := [some (.inl a0)]) (sb_s sb_nil) ?_
  refine k_iload_n d_Reader_isCharacter_0 rfl ?_
  refine k_bipush d_Reader_isCharacter_1 cB_32 ?_
  have hV1 : OkI BF L d 2 b_Reader_isCharacter 1 2 59 [.inl (if a0 < 32 then (if a0 = 9 then (1 : Int) else (if a0 = 10 then (1 : Int) else (if a0 = 13 then (1 : Int) else (if a0 < 57344 then (if a0 < 65536 then (0 : Int) else (if 1114111 < a0 then (0 : Int) else (1 : Int))) else (if 65533 < a0 then (if a0 < 65536 then (0 : Int) else (if 1114111 < a0 then (0 : Int) else (1 : Int))) else (1 : Int)))))) else (if 55295 < a0 then (if a0 = 9 then (1 : Int) else (if a0 = 10 then (1 : Int) else (if a0 = 13 then (1 : Int) else (if a0 < 57344 then (if a0 < 65536 then (0 : Int) else (if 1114111 < a0 then (0 : Int) else (1 : Int))) else (if 65533 < a0 then (if a0 < 65536 then (0 : Int) else (if 1114111 < a0 then (0 : Int) else (1 : Int))) else (1 : Int)))))) else (1 : Int)))] [some (.inl a0)] σ (qi Q) := by
    exact k_iret d_Reader_isCharacter_59 (Or.inr ⟨rfl, it01 (it01 (Or.inr rfl) (it01 (Or.inr rfl) (it01 (Or.inr rfl) (it01 (it01 (Or.inl rfl) (it01 (Or.inl rfl) (Or.inr rfl))) (it01 (it01 (Or.inl rfl) (it01 (Or.inl rfl) (Or.inr rfl))) (Or.inr rfl)))))) (it01 (it01 (Or.inr rfl) (it01 (Or.inr rfl) (it01 (Or.inr rfl) (it01 (it01 (Or.inl rfl) (it01 (Or.inl rfl) (Or.inr rfl))) (it01 (it01 (Or.inl rfl) (it01 (Or.inl rfl) (Or.inr rfl))) (Or.inr rfl)))))) (Or.inr rfl))⟩) h
  refine k_iclt d_Reader_isCharacter_3 rfl (fun c2 => ?_) (fun c2 => ?_)
  · have hV3 := k_eqI (if_pos c2) hV1
    refine k_iload_n d_Reader_isCharacter_12 rfl ?_
    refine k_bipush d_Reader_isCharacter_13 cB_9 ?_
    refine k_iceq d_Reader_isCharacter_15 rfl (fun c4 => ?_) (fun c4 => ?_)
    · have hV5 := k_eqI (if_pos c4) hV3
      refine k_iconst d_Reader_isCharacter_54 cI_1 ?_
      refine k_goto d_Reader_isCharacter_55 rfl ?_
      exact hV5
    · have hV6 := k_eqI (if_neg c4) hV3
      refine k_iload_n d_Reader_isCharacter_18 rfl ?_
      refine k_bipush d_Reader_isCharacter_19 cB_10 ?_
      refine k_iceq d_Reader_isCharacter_21 rfl (fun c7 => ?_) (fun c7 => ?_)
      · have hV8 := k_eqI (if_pos c7) hV6
        refine k_iconst d_Reader_isCharacter_54 cI_1 ?_
        refine k_goto d_Reader_isCharacter_55 rfl ?_
        exact hV8
      · have hV9 := k_eqI (if_neg c7) hV6
        refine k_iload_n d_Reader_isCharacter_24 rfl ?_
        refine k_bipush d_Reader_isCharacter_25 cB_13 ?_
        refine k_iceq d_Reader_isCharacter_27 rfl (fun c10 => ?_) (fun c10 => ?_)
        · have hV11 := k_eqI (if_pos c10) hV9
          refine k_iconst d_Reader_isCharacter_54 cI_1 ?_
          refine k_goto d_Reader_isCharacter_55 rfl ?_
          exact hV11
        · have hV12 := k_eqI (if_neg c10) hV9
          refine k_iload_n d_Reader_isCharacter_30 rfl ?_
          refine k_ldc d_Reader_isCharacter_31 ks_2_45 cL_57344 ?_
          refine k_iclt d_Reader_isCharacter_33 rfl (fun c13 => ?_) (fun c13 => ?_)
          · have hV14 := k_eqI (if_pos c13) hV12
            refine k_iload_n d_Reader_isCharacter_42 rfl ?_
            refine k_ldc d_Reader_isCharacter_43 ks_2_47 cL_65536 ?_
            refine k_iclt d_Reader_isCharacter_45 rfl (fun c15 => ?_) (fun c15 => ?_)
            · have hV16 := k_eqI (if_pos c15) hV14
              refine k_iconst d_Reader_isCharacter_58 cI_0 ?_
              exact hV16
            · have hV17 := k_eqI (if_neg c15) hV14
              refine k_iload_n d_Reader_isCharacter_48 rfl ?_
              refine k_ldc d_Reader_isCharacter_49 ks_2_48 cL_1114111 ?_
              refine k_icgt d_Reader_isCharacter_51 rfl (fun c18 => ?_) (fun c18 => ?_)
              · have hV19 := k_eqI (if_pos c18) hV17
                refine k_iconst d_Reader_isCharacter_58 cI_0 ?_
                exact hV19
              · have hV20 := k_eqI (if_neg c18) hV17
                refine k_iconst d_Reader_isCharacter_54 cI_1 ?_
                refine k_goto d_Reader_isCharacter_55 rfl ?_
                exact hV20
          · have hV21 := k_eqI (if_neg c13) hV12
            refine k_iload_n d_Reader_isCharacter_36 rfl ?_
            refine k_ldc d_Reader_isCharacter_37 ks_2_46 cL_65533 ?_
            refine k_icle d_Reader_isCharacter_39 rfl (fun c22 => ?_) (fun c22 => ?_)
            · have hV30 := k_eqI (if_neg c22) hV21
              refine k_iconst d_Reader_isCharacter_54 cI_1 ?_
              refine k_goto d_Reader_isCharacter_55 rfl ?_
              exact hV30
            · have hV23 := k_eqI (if_pos c22) hV21
              refine k_iload_n d_Reader_isCharacter_42 rfl ?_
              refine k_ldc d_Reader_isCharacter_43 ks_2_47 cL_65536 ?_
              refine k_iclt d_Reader_isCharacter_45 rfl (fun c24 => ?_) (fun c24 => ?_)
              · have hV25 := k_eqI (if_pos c24) hV23
                refine k_iconst d_Reader_isCharacter_58 cI_0 ?_
                exact hV25
              · have hV26 := k_eqI (if_neg c24) hV23
                refine k_iload_n d_Reader_isCharacter_48 rfl ?_
                refine k_ldc d_Reader_isCharacter_49 ks_2_48 cL_1114111 ?_
                refine k_icgt d_Reader_isCharacter_51 rfl (fun c27 => ?_) (fun c27 => ?_)
                · have hV28 := k_eqI (if_pos c27) hV26
                  refine k_iconst d_Reader_isCharacter_58 cI_0 ?_
                  exact hV28
                · have hV29 := k_eqI (if_neg c27) hV26
                  refine k_iconst d_Reader_isCharacter_54 cI_1 ?_
                  refine k_goto d_Reader_isCharacter_55 rfl ?_
                  exact hV29
  · have hV31 := k_eqI (if_neg c2) hV1
    refine k_iload_n d_Reader_isCharacter_6 rfl ?_
    refine k_ldc d_Reader_isCharacter_7 ks_2_44 cL_55295 ?_
    refine k_icle d_Reader_isCharacter_9 rfl (fun c32 => ?_) (fun c32 => ?_)
    · have hV61 := k_eqI (if_neg c32) hV31
      refine k_iconst d_Reader_isCharacter_54 cI_1 ?_
      refine k_goto d_Reader_isCharacter_55 rfl ?_
      exact hV61
    · have hV33 := k_eqI (if_pos c32) hV31
      refine k_iload_n d_Reader_isCharacter_12 rfl ?_
      refine k_bipush d_Reader_isCharacter_13 cB_9 ?_
      refine k_iceq d_Reader_isCharacter_15 rfl (fun c34 => ?_) (fun c34 => ?_)
      · have hV35 := k_eqI (if_pos c34) hV33
        refine k_iconst d_Reader_isCharacter_54 cI_1 ?_
        refine k_goto d_Reader_isCharacter_55 rfl ?_
        exact hV35
      · have hV36 := k_eqI (if_neg c34) hV33
        refine k_iload_n d_Reader_isCharacter_18 rfl ?_
        refine k_bipush d_Reader_isCharacter_19 cB_10 ?_
        refine k_iceq d_Reader_isCharacter_21 rfl (fun c37 => ?_) (fun c37 => ?_)
        · have hV38 := k_eqI (if_pos c37) hV36
          refine k_iconst d_Reader_isCharacter_54 cI_1 ?_
          refine k_goto d_Reader_isCharacter_55 rfl ?_
          exact hV38
        · have hV39 := k_eqI (if_neg c37) hV36
          refine k_iload_n d_Reader_isCharacter_24 rfl ?_
          refine k_bipush d_Reader_isCharacter_25 cB_13 ?_
          refine k_iceq d_Reader_isCharacter_27 rfl (fun c40 => ?_) (fun c40 => ?_)
          · have hV41 := k_eqI (if_pos c40) hV39
            refine k_iconst d_Reader_isCharacter_54 cI_1 ?_
            refine k_goto d_Reader_isCharacter_55 rfl ?_
            exact hV41
          · have hV42 := k_eqI (if_neg c40) hV39
            refine k_iload_n d_Reader_isCharacter_30 rfl ?_
            refine k_ldc d_Reader_isCharacter_31 ks_2_45 cL_57344 ?_
            refine k_iclt d_Reader_isCharacter_33 rfl (fun c43 => ?_) (fun c43 => ?_)
            · have hV44 := k_eqI (if_pos c43) hV42
              refine k_iload_n d_Reader_isCharacter_42 rfl ?_
              refine k_ldc d_Reader_isCharacter_43 ks_2_47 cL_65536 ?_
              refine k_iclt d_Reader_isCharacter_45 rfl (fun c45 => ?_) (fun c45 => ?_)
              · have hV46 := k_eqI (if_pos c45) hV44
                refine k_iconst d_Reader_isCharacter_58 cI_0 ?_
                exact hV46
              · have hV47 := k_eqI (if_neg c45) hV44
                refine k_iload_n d_Reader_isCharacter_48 rfl ?_
                refine k_ldc d_Reader_isCharacter_49 ks_2_48 cL_1114111 ?_
                refine k_icgt d_Reader_isCharacter_51 rfl (fun c48 => ?_) (fun c48 => ?_)
                · have hV49 := k_eqI (if_pos c48) hV47
                  refine k_iconst d_Reader_isCharacter_58 cI_0 ?_
                  exact hV49
                · have hV50 := k_eqI (if_neg c48) hV47
                  refine k_iconst d_Reader_isCharacter_54 cI_1 ?_
                  refine k_goto d_Reader_isCharacter_55 rfl ?_
                  exact hV50
            · have hV51 := k_eqI (if_neg c43) hV42
              refine k_iload_n d_Reader_isCharacter_36 rfl ?_
              refine k_ldc d_Reader_isCharacter_37 ks_2_46 cL_65533 ?_
              refine k_icle d_Reader_isCharacter_39 rfl (fun c52 => ?_) (fun c52 => ?_)
              · have hV60 := k_eqI (if_neg c52) hV51
                refine k_iconst d_Reader_isCharacter_54 cI_1 ?_
                refine k_goto d_Reader_isCharacter_55 rfl ?_
                exact hV60
              · have hV53 := k_eqI (if_pos c52) hV51
                refine k_iload_n d_Reader_isCharacter_42 rfl ?_
                refine k_ldc d_Reader_isCharacter_43 ks_2_47 cL_65536 ?_
                refine k_iclt d_Reader_isCharacter_45 rfl (fun c54 => ?_) (fun c54 => ?_)
                · have hV55 := k_eqI (if_pos c54) hV53
                  refine k_iconst d_Reader_isCharacter_58 cI_0 ?_
                  exact hV55
                · have hV56 := k_eqI (if_neg c54) hV53
                  refine k_iload_n d_Reader_isCharacter_48 rfl ?_
                  refine k_ldc d_Reader_isCharacter_49 ks_2_48 cL_1114111 ?_
                  refine k_icgt d_Reader_isCharacter_51 rfl (fun c57 => ?_) (fun c57 => ?_)
                  · have hV58 := k_eqI (if_pos c57) hV56
                    refine k_iconst d_Reader_isCharacter_58 cI_0 ?_
                    exact hV58
                  · have hV59 := k_eqI (if_neg c57) hV56
                    refine k_iconst d_Reader_isCharacter_54 cI_1 ?_
                    refine k_goto d_Reader_isCharacter_55 rfl ?_
                    exact hV59
/-- Store_add -/
def w_Store_add (L : Nat → Nat) (a1 : Int) (Q : IS → Prop) (σ : IS) : Prop := WJ (fun (s3 : Unit) (σ4 : IS) => Q σ4) (fun J1 => if (σ.1 1 3) < ((L 101 : Nat) : Int) then inL L 101 (σ.1 1 3) ∧ inR ((σ.1 1 3) + 1) ∧ J1 () (pf (pr σ 101 (Int.toNat (σ.1 1 3)) a1) 1 3 ((σ.1 1 3) + 1)) else J1 () σ)
set_option maxHeartbeats 4000000 in
set_option maxRecDepth 20000 in
theorem s_Store_add {L : Nat → Nat} (hL : ∀ r, L r < 2147483648) {d : Nat} (hd : 0 ≤ d) {B : MB} {a1 : Int} {Q : IS → Prop} {σ : IS} (hB : stB B) (h : w_Store_add L a1 Q σ) : OkI B L d 1 b_Store_add 2 0 0 [] [some (.inr 1), some (.inl a1)] σ (qv Q) := by
  unfold w_Store_add at h
  refine k_sb (lv' := [some (.inr 1), some (.inl a1)]) (sb_s (sb_s sb_nil)) ?_
  refine k_aload_n d_Store_add_0 rfl ?_
  refine k_getI (x := (σ.1 1 3)) d_Store_add_1 fl_1_98 (stB_ob hB) rfl rfl ?_
  refine k_aload_n d_Store_add_4 rfl ?_
  refine k_getR d_Store_add_5 fl_1_22 (stB_ob hB) rfl ?_
  refine k_len d_Store_add_8 (stB_101 hB).1 (hL _) ?_
  refine k_join (S := Unit) (pc' := 32) (st' := fun s3 => []) (lv' := fun s3 => [none, none]) (fun s3 σ4 h => ?_) (fun J1 hJ2 h => ?_) h
  · exact k_ret d_Store_add_32 h
  · refine k_icge d_Store_add_9 rfl (fun c5 => ?_) (fun c5 => ?_)
    · have h := ineg c5 h
      exact k_sb (sb_n (sb_n sb_nil)) (hJ2 () _ h)
    · have h := ipos c5 h
      refine k_aload_n d_Store_add_12 rfl ?_
      refine k_getR d_Store_add_13 fl_1_22 (stB_ob hB) rfl ?_
      refine k_aload_n d_Store_add_16 rfl ?_
      refine k_getI (x := (σ.1 1 3)) d_Store_add_17 fl_1_98 (stB_ob hB) rfl rfl ?_
      refine k_iload_n d_Store_add_20 rfl ?_
      obtain ⟨p7, h⟩ := h
      refine k_ist d_Store_add_21 (stB_101 hB) p7 ?_
      refine k_aload_n d_Store_add_22 rfl ?_
      refine k_dup d_Store_add_23 ?_
      refine k_getI (x := (σ.1 1 3)) d_Store_add_24 fl_1_98 (stB_ob hB) rfl rfl ?_
      refine k_iconst d_Store_add_27 cI_1 ?_
      obtain ⟨p6, h⟩ := h
      refine k_iadd d_Store_add_28 p6 ?_
      refine k_putI d_Store_add_29 fl_1_98 (stB_ob hB) rfl ?_
      exact k_sb (sb_n (sb_n sb_nil)) (hJ2 () _ h)
theorem d_Store_addToText_0 : decode b_Store_addToText 0 = .ok (.iload_n 1, 1) := by decide +kernel
theorem d_Store_addToText_1 : decode b_Store_addToText 1 = .ok (.bipush 10, 2) := by decide +kernel
theorem d_Store_addToText_3 : decode b_Store_addToText 3 = .ok (.if_icmp .ne 10, 3) := by decide +kernel
theorem d_Store_addToText_6 : decode b_Store_addToText 6 = .ok (.aload_n 0, 1) := by decide +kernel
theorem d_Store_addToText_7 : decode b_Store_addToText 7 = .ok (.getfield 123, 3) := by decide +kernel
theorem d_Store_addToText_10 : decode b_Store_addToText 10 = .ok (.ifCond .ne 40, 3) := by decide +kernel
theorem d_Store_addToText_13 : decode b_Store_addToText 13 = .ok (.aload_n 0, 1) := by decide +kernel
theorem d_Store_addToText_14 : decode b_Store_addToText 14 = .ok (.getfield 121, 3) := by decide +kernel
theorem d_Store_addToText_17 : decode b_Store_addToText 17 = .ok (.aload_n 0, 1) := by decide +kernel
theorem d_Store_addToText_18 : decode b_Store_addToText 18 = .ok (.getfield 9, 3) := by decide +kernel
theorem d_Store_addToText_21 : decode b_Store_addToText 21 = .ok (.if_icmp .ge 19, 3) := by decide +kernel
theorem d_Store_addToText_24 : decode b_Store_addToText 24 = .ok (.aload_n 0, 1) := by decide +kernel
theorem d_Store_addToText_25 : decode b_Store_addToText 25 = .ok (.iload_n 1, 1) := by decide +kernel
theorem d_Store_addToText_26 : decode b_Store_addToText 26 = .ok (.bipush 13, 2) := by decide +kernel
theorem d_Store_addToText_28 : decode b_Store_addToText 28 = .ok (.if_icmp .ne 8, 3) := by decide +kernel
theorem d_Store_addToText_31 : decode b_Store_addToText 31 = .ok (.bipush 10, 2) := by decide +kernel
theorem d_Store_addToText_33 : decode b_Store_addToText 33 = .ok (.goto 4, 3) := by decide +kernel
theorem d_Store_addToText_36 : decode b_Store_addToText 36 = .ok (.iload_n 1, 1) := by decide +kernel
theorem d_Store_addToText_37 : decode b_Store_addToText 37 = .ok (.invokevirtual 114, 3) := by decide +kernel
theorem d_Store_addToText_40 : decode b_Store_addToText 40 = .ok (.aload_n 0, 1) := by decide +kernel
theorem d_Store_addToText_41 : decode b_Store_addToText 41 = .ok (.dup, 1) := by decide +kernel
theorem d_Store_addToText_42 : decode b_Store_addToText 42 = .ok (.getfield 121, 3) := by decide +kernel
theorem d_Store_addToText_45 : decode b_Store_addToText 45 = .ok (.iconst 1, 1) := by decide +kernel
theorem d_Store_addToText_46 : decode b_Store_addToText 46 = .ok (.iadd, 1) := by decide +kernel
theorem d_Store_addToText_47 : decode b_Store_addToText 47 = .ok (.putfield 121, 3) := by decide +kernel
theorem d_Store_addToText_50 : decode b_Store_addToText 50 = .ok (.aload_n 0, 1) := by decide +kernel
theorem d_Store_addToText_51 : decode b_Store_addToText 51 = .ok (.iload_n 1, 1) := by decide +kernel
theorem d_Store_addToText_52 : decode b_Store_addToText 52 = .ok (.bipush 13, 2) := by decide +kernel
theorem d_Store_addToText_54 : decode b_Store_addToText 54 = .ok (.if_icmp .ne 7, 3) := by decide +kernel
theorem d_Store_addToText_57 : decode b_Store_addToText 57 = .ok (.iconst 1, 1) := by decide +kernel
theorem d_Store_addToText_58 : decode b_Store_addToText 58 = .ok (.goto 4, 3) := by decide +kernel
theorem d_Store_addToText_61 : decode b_Store_addToText 61 = .ok (.iconst 0, 1) := by decide +kernel
theorem d_Store_addToText_62 : decode b_Store_addToText 62 = .ok (.putfield 123, 3) := by decide +kernel
theorem d_Store_addToText_65 : decode b_Store_addToText 65 = .ok (.return_, 1) := by decide +kernel
/-- Store_addToText -/
def w_Store_addToText (L : Nat → Nat) (a1 : Int) (Q : IS → Prop) (σ : IS) : Prop := WJ (fun (s3 : Unit) (σ4 : IS) => Q (pf σ4 1 6 (if a1 = 13 then (1 : Int) else (0 : Int)))) (fun J1 => if ¬ a1 = 10 ∨ ((σ.1 1 6) = 0) then WJ (fun (s11 : Unit) (σ12 : IS) => inR ((σ12.1 1 4) + 1) ∧ J1 () (pf σ12 1 4 ((σ12.1 1 4) + 1))) (fun J9 => if (σ.1 1 4) < (σ.1 1 0) then w_Store_add L (if a1 = 13 then (10 : Int) else a1) (fun σ15 => J9 () σ15) σ else J9 () σ) else J1 () σ)
set_option maxHeartbeats 4000000 in
set_option maxRecDepth 20000 in
theorem s_Store_addToText {L : Nat → Nat} (hL : ∀ r, L r < 2147483648) {d : Nat} (hd : 1 ≤ d) {a1 : Int} {Q : IS → Prop} {σ : IS}  (h : w_Store_addToText L a1 Q σ) : OkI BF L d 1 b_Store_addToText 2 0 0 [] [some (.inr 1), some (.inl a1)] σ (qv Q) := by
  unfold w_Store_addToText at h
  obtain ⟨d, rfl⟩ : ∃ e, d = e + 1 := ⟨d - 1, by omega⟩
  refine k_sb (lv' := [some (.inr 1), some (.inl a1)]) (sb_s (sb_s sb_nil)) ?_
  refine k_iload_n d_Store_addToText_0 rfl ?_
  refine k_bipush d_Store_addToText_1 cB_10 ?_
  refine k_join (S := Unit) (pc' := 50) (st' := fun s3 => []) (lv' := fun s3 => [some (.inr 1), some (.inl a1)]) (fun s3 σ4 h => ?_) (fun J1 hJ2 h => ?_) h
  · refine k_aload_n d_Store_addToText_50 rfl ?_
    refine k_iload_n d_Store_addToText_51 rfl ?_
    refine k_bipush d_Store_addToText_52 cB_13 ?_
    have hV5 : OkI BF L (d + 1) 1 b_Store_addToText 2 0 62 [.inl (if a1 = 13 then (1 : Int) else (0 : Int)), .inr 1] [some (.inr 1), some (.inl a1)] σ4 (qv Q) := by
      refine k_putZ d_Store_addToText_62 fl_1_123 ob_1 rfl (it01 (Or.inr rfl) (Or.inl rfl)) ?_
      exact k_ret d_Store_addToText_65 h
    refine k_icne d_Store_addToText_54 rfl (fun c6 => ?_) (fun c6 => ?_)
    · have hV8 := k_eqI (if_neg c6) hV5
      refine k_iconst d_Store_addToText_61 cI_0 ?_
      exact hV8
    · have hV7 := k_eqI (if_pos c6) hV5
      refine k_iconst d_Store_addToText_57 cI_1 ?_
      refine k_goto d_Store_addToText_58 rfl ?_
      exact hV7
  · have hX21 : (¬ a1 = 10 ∨ ((σ.1 1 6) = 0)) → OkI BF L (d + 1) 1 b_Store_addToText 2 0 13 [] [some (.inr 1), some (.inl a1)] σ (qv Q) := fun e23 => by
      have h := ipos e23 h
      refine k_aload_n d_Store_addToText_13 rfl ?_
      refine k_getI (x := (σ.1 1 4)) d_Store_addToText_14 fl_1_121 ob_1 rfl rfl ?_
      refine k_aload_n d_Store_addToText_17 rfl ?_
      refine k_getI (x := (σ.1 1 0)) d_Store_addToText_18 fl_1_9 ob_1 rfl rfl ?_
      refine k_join (S := Unit) (pc' := 40) (st' := fun s11 => []) (lv' := fun s11 => [some (.inr 1), some (.inl a1)]) (fun s11 σ12 h => ?_) (fun J9 hJ10 h => ?_) h
      · refine k_aload_n d_Store_addToText_40 rfl ?_
        refine k_dup d_Store_addToText_41 ?_
        refine k_getI (x := (σ12.1 1 4)) d_Store_addToText_42 fl_1_121 ob_1 rfl rfl ?_
        refine k_iconst d_Store_addToText_45 cI_1 ?_
        obtain ⟨p13, h⟩ := h
        refine k_iadd d_Store_addToText_46 p13 ?_
        refine k_putI d_Store_addToText_47 fl_1_121 ob_1 rfl ?_
        exact k_sb (sb_s (sb_s sb_nil)) (hJ2 () _ h)
      · refine k_icge d_Store_addToText_21 rfl (fun c14 => ?_) (fun c14 => ?_)
        · have h := ineg c14 h
          exact k_sb (sb_s (sb_s sb_nil)) (hJ10 () _ h)
        · have h := ipos c14 h
          refine k_aload_n d_Store_addToText_24 rfl ?_
          refine k_iload_n d_Store_addToText_25 rfl ?_
          refine k_bipush d_Store_addToText_26 cB_13 ?_
          have hV17 : OkI BF L (d + 1) 1 b_Store_addToText 2 0 37 [.inl (if a1 = 13 then (10 : Int) else a1), .inr 1] [some (.inr 1), some (.inl a1)] σ (qv Q) := by
            refine k_cvv [.inl (if a1 = 13 then (10 : Int) else a1)] d_Store_addToText_37 ml_1_114 rfl rfl ob_1 rfl (s_Store_add hL (by omega) stB_BF h) (fun σ15 h => ?_)
            exact k_sb (sb_s (sb_s sb_nil)) (hJ10 () _ h)
          refine k_icne d_Store_addToText_28 rfl (fun c18 => ?_) (fun c18 => ?_)
          · have hV20 := k_eqI (if_neg c18) hV17
            refine k_iload_n d_Store_addToText_36 rfl ?_
            exact hV20
          · have hV19 := k_eqI (if_pos c18) hV17
            refine k_bipush d_Store_addToText_31 cB_10 ?_
            refine k_goto d_Store_addToText_33 rfl ?_
            exact hV19
    have hY22 : ¬ (¬ a1 = 10 ∨ ((σ.1 1 6) = 0)) → OkI BF L (d + 1) 1 b_Store_addToText 2 0 50 [] [some (.inr 1), some (.inl a1)] σ (qv Q) := fun e23 => by
      have h := ineg e23 h
      exact k_sb (sb_s (sb_s sb_nil)) (hJ2 () _ h)
    refine k_icne d_Store_addToText_3 rfl (fun c24 => ?_) (fun c24 => ?_)
    · exact hX21 (Or.inl c24)
    · refine k_aload_n d_Store_addToText_6 rfl ?_
      refine k_getI (x := (σ.1 1 6)) d_Store_addToText_7 fl_1_123 ob_1 rfl rfl ?_
      refine k_ifne d_Store_addToText_10 rfl (fun c25 => ?_) (fun c25 => ?_)
      · exact hY22 (fun z => z.elim (fun y => y c24) (c25))
      · exact hX21 (Or.inr (c25))
theorem d_Store_loadWide_0 : decode b_Store_loadWide 0 = .ok (.iconst 2, 1) := by decide +kernel
theorem d_Store_loadWide_1 : decode b_Store_loadWide 1 = .ok (.istore 5, 2) := by decide +kernel
theorem d_Store_loadWide_3 : decode b_Store_loadWide 3 = .ok (.iload 5, 2) := by decide +kernel
theorem d_Store_loadWide_5 : decode b_Store_loadWide 5 = .ok (.iload_n 2, 1) := by decide +kernel
theorem d_Store_loadWide_6 : decode b_Store_loadWide 6 = .ok (.if_icmp .ge 161, 3) := by decide +kernel
theorem d_Store_loadWide_9 : decode b_Store_loadWide 9 = .ok (.iconst 2, 1) := by decide +kernel
theorem d_Store_loadWide_10 : decode b_Store_loadWide 10 = .ok (.istore 4, 2) := by decide +kernel
theorem d_Store_loadWide_12 : decode b_Store_loadWide 12 = .ok (.iload_n 2, 1) := by decide +kernel
theorem d_Store_loadWide_13 : decode b_Store_loadWide 13 = .ok (.iload 5, 2) := by decide +kernel
theorem d_Store_loadWide_15 : decode b_Store_loadWide 15 = .ok (.isub, 1) := by decide +kernel
theorem d_Store_loadWide_16 : decode b_Store_loadWide 16 = .ok (.iconst 2, 1) := by decide +kernel
theorem d_Store_loadWide_17 : decode b_Store_loadWide 17 = .ok (.if_icmp .ge 6, 3) := by decide +kernel
theorem d_Store_loadWide_20 : decode b_Store_loadWide 20 = .ok (.iload 5, 2) := by decide +kernel
theorem d_Store_loadWide_22 : decode b_Store_loadWide 22 = .ok (.ireturn, 1) := by decide +kernel
theorem d_Store_loadWide_23 : decode b_Store_loadWide 23 = .ok (.aload_n 1, 1) := by decide +kernel
theorem d_Store_loadWide_24 : decode b_Store_loadWide 24 = .ok (.iload 5, 2) := by decide +kernel
theorem d_Store_loadWide_26 : decode b_Store_loadWide 26 = .ok (.iload_n 3, 1) := by decide +kernel
theorem d_Store_loadWide_27 : decode b_Store_loadWide 27 = .ok (.iadd, 1) := by decide +kernel
theorem d_Store_loadWide_28 : decode b_Store_loadWide 28 = .ok (.baload, 1) := by decide +kernel
theorem d_Store_loadWide_29 : decode b_Store_loadWide 29 = .ok (.sipush 255, 3) := by decide +kernel
theorem d_Store_loadWide_32 : decode b_Store_loadWide 32 = .ok (.iand, 1) := by decide +kernel
theorem d_Store_loadWide_33 : decode b_Store_loadWide 33 = .ok (.bipush 8, 2) := by decide +kernel
theorem d_Store_loadWide_35 : decode b_Store_loadWide 35 = .ok (.ishl, 1) := by decide +kernel
theorem d_Store_loadWide_36 : decode b_Store_loadWide 36 = .ok (.aload_n 1, 1) := by decide +kernel
theorem d_Store_loadWide_37 : decode b_Store_loadWide 37 = .ok (.iload 5, 2) := by decide +kernel
theorem d_Store_loadWide_39 : decode b_Store_loadWide 39 = .ok (.iconst 1, 1) := by decide +kernel
theorem d_Store_loadWide_40 : decode b_Store_loadWide 40 = .ok (.iadd, 1) := by decide +kernel
theorem d_Store_loadWide_41 : decode b_Store_loadWide 41 = .ok (.iload_n 3, 1) := by decide +kernel
theorem d_Store_loadWide_42 : decode b_Store_loadWide 42 = .ok (.isub, 1) := by decide +kernel
theorem d_Store_loadWide_43 : decode b_Store_loadWide 43 = .ok (.baload, 1) := by decide +kernel
theorem d_Store_loadWide_44 : decode b_Store_loadWide 44 = .ok (.sipush 255, 3) := by decide +kernel
theorem d_Store_loadWide_47 : decode b_Store_loadWide 47 = .ok (.iand, 1) := by decide +kernel
theorem d_Store_loadWide_48 : decode b_Store_loadWide 48 = .ok (.ior, 1) := by decide +kernel
theorem d_Store_loadWide_49 : decode b_Store_loadWide 49 = .ok (.istore 6, 2) := by decide +kernel
theorem d_Store_loadWide_51 : decode b_Store_loadWide 51 = .ok (.iload 6, 2) := by decide +kernel
theorem d_Store_loadWide_53 : decode b_Store_loadWide 53 = .ok (.ldc 149, 2) := by decide +kernel
theorem d_Store_loadWide_55 : decode b_Store_loadWide 55 = .ok (.if_icmp .lt 85, 3) := by decide +kernel
theorem d_Store_loadWide_58 : decode b_Store_loadWide 58 = .ok (.iload 6, 2) := by decide +kernel
theorem d_Store_loadWide_60 : decode b_Store_loadWide 60 = .ok (.ldc 150, 2) := by decide +kernel
theorem d_Store_loadWide_62 : decode b_Store_loadWide 62 = .ok (.if_icmp .gt 78, 3) := by decide +kernel
theorem d_Store_loadWide_65 : decode b_Store_loadWide 65 = .ok (.iload_n 2, 1) := by decide +kernel
theorem d_Store_loadWide_66 : decode b_Store_loadWide 66 = .ok (.iload 5, 2) := by decide +kernel
theorem d_Store_loadWide_68 : decode b_Store_loadWide 68 = .ok (.isub, 1) := by decide +kernel
theorem d_Store_loadWide_69 : decode b_Store_loadWide 69 = .ok (.iconst 4, 1) := by decide +kernel
theorem d_Store_loadWide_70 : decode b_Store_loadWide 70 = .ok (.if_icmp .lt 70, 3) := by decide +kernel
theorem d_Store_loadWide_73 : decode b_Store_loadWide 73 = .ok (.aload_n 1, 1) := by decide +kernel
theorem d_Store_loadWide_74 : decode b_Store_loadWide 74 = .ok (.iload 5, 2) := by decide +kernel
theorem d_Store_loadWide_76 : decode b_Store_loadWide 76 = .ok (.iconst 2, 1) := by decide +kernel
theorem d_Store_loadWide_77 : decode b_Store_loadWide 77 = .ok (.iadd, 1) := by decide +kernel
theorem d_Store_loadWide_78 : decode b_Store_loadWide 78 = .ok (.iload_n 3, 1) := by decide +kernel
theorem d_Store_loadWide_79 : decode b_Store_loadWide 79 = .ok (.iadd, 1) := by decide +kernel
theorem d_Store_loadWide_80 : decode b_Store_loadWide 80 = .ok (.baload, 1) := by decide +kernel
theorem d_Store_loadWide_81 : decode b_Store_loadWide 81 = .ok (.sipush 255, 3) := by decide +kernel
theorem d_Store_loadWide_84 : decode b_Store_loadWide 84 = .ok (.iand, 1) := by decide +kernel
theorem d_Store_loadWide_85 : decode b_Store_loadWide 85 = .ok (.bipush 8, 2) := by decide +kernel
theorem d_Store_loadWide_87 : decode b_Store_loadWide 87 = .ok (.ishl, 1) := by decide +kernel
theorem d_Store_loadWide_88 : decode b_Store_loadWide 88 = .ok (.aload_n 1, 1) := by decide +kernel
theorem d_Store_loadWide_89 : decode b_Store_loadWide 89 = .ok (.iload 5, 2) := by decide +kernel
theorem d_Store_loadWide_91 : decode b_Store_loadWide 91 = .ok (.iconst 3, 1) := by decide +kernel
theorem d_Store_loadWide_92 : decode b_Store_loadWide 92 = .ok (.iadd, 1) := by decide +kernel
theorem d_Store_loadWide_93 : decode b_Store_loadWide 93 = .ok (.iload_n 3, 1) := by decide +kernel
theorem d_Store_loadWide_94 : decode b_Store_loadWide 94 = .ok (.isub, 1) := by decide +kernel
theorem d_Store_loadWide_95 : decode b_Store_loadWide 95 = .ok (.baload, 1) := by decide +kernel
theorem d_Store_loadWide_96 : decode b_Store_loadWide 96 = .ok (.sipush 255, 3) := by decide +kernel
theorem d_Store_loadWide_99 : decode b_Store_loadWide 99 = .ok (.iand, 1) := by decide +kernel
theorem d_Store_loadWide_100 : decode b_Store_loadWide 100 = .ok (.ior, 1) := by decide +kernel
theorem d_Store_loadWide_101 : decode b_Store_loadWide 101 = .ok (.istore 7, 2) := by decide +kernel
theorem d_Store_loadWide_103 : decode b_Store_loadWide 103 = .ok (.iload 7, 2) := by decide +kernel
theorem d_Store_loadWide_105 : decode b_Store_loadWide 105 = .ok (.ldc 151, 2) := by decide +kernel
theorem d_Store_loadWide_107 : decode b_Store_loadWide 107 = .ok (.if_icmp .lt 33, 3) := by decide +kernel
theorem d_Store_loadWide_110 : decode b_Store_loadWide 110 = .ok (.iload 7, 2) := by decide +kernel
theorem d_Store_loadWide_112 : decode b_Store_loadWide 112 = .ok (.ldc 152, 2) := by decide +kernel
theorem d_Store_loadWide_114 : decode b_Store_loadWide 114 = .ok (.if_icmp .gt 26, 3) := by decide +kernel
theorem d_Store_loadWide_117 : decode b_Store_loadWide 117 = .ok (.ldc 15, 2) := by decide +kernel
theorem d_Store_loadWide_119 : decode b_Store_loadWide 119 = .ok (.sipush 1024, 3) := by decide +kernel
theorem d_Store_loadWide_122 : decode b_Store_loadWide 122 = .ok (.iload 6, 2) := by decide +kernel
theorem d_Store_loadWide_124 : decode b_Store_loadWide 124 = .ok (.ldc 149, 2) := by decide +kernel
theorem d_Store_loadWide_126 : decode b_Store_loadWide 126 = .ok (.isub, 1) := by decide +kernel
theorem d_Store_loadWide_127 : decode b_Store_loadWide 127 = .ok (.imul, 1) := by decide +kernel
theorem d_Store_loadWide_128 : decode b_Store_loadWide 128 = .ok (.iadd, 1) := by decide +kernel
theorem d_Store_loadWide_129 : decode b_Store_loadWide 129 = .ok (.iload 7, 2) := by decide +kernel
theorem d_Store_loadWide_131 : decode b_Store_loadWide 131 = .ok (.iadd, 1) := by decide +kernel
theorem d_Store_loadWide_132 : decode b_Store_loadWide 132 = .ok (.ldc 151, 2) := by decide +kernel
theorem d_Store_loadWide_134 : decode b_Store_loadWide 134 = .ok (.isub, 1) := by decide +kernel
theorem d_Store_loadWide_135 : decode b_Store_loadWide 135 = .ok (.istore 6, 2) := by decide +kernel
theorem d_Store_loadWide_137 : decode b_Store_loadWide 137 = .ok (.iconst 4, 1) := by decide +kernel
theorem d_Store_loadWide_138 : decode b_Store_loadWide 138 = .ok (.istore 4, 2) := by decide +kernel
theorem d_Store_loadWide_140 : decode b_Store_loadWide 140 = .ok (.iload 6, 2) := by decide +kernel
theorem d_Store_loadWide_142 : decode b_Store_loadWide 142 = .ok (.invokestatic 140, 3) := by decide +kernel
theorem d_Store_loadWide_145 : decode b_Store_loadWide 145 = .ok (.ifCond .ne 6, 3) := by decide +kernel
theorem d_Store_loadWide_148 : decode b_Store_loadWide 148 = .ok (.iload 5, 2) := by decide +kernel
theorem d_Store_loadWide_150 : decode b_Store_loadWide 150 = .ok (.ireturn, 1) := by decide +kernel
theorem d_Store_loadWide_151 : decode b_Store_loadWide 151 = .ok (.aload_n 0, 1) := by decide +kernel
theorem d_Store_loadWide_152 : decode b_Store_loadWide 152 = .ok (.iload 6, 2) := by decide +kernel
theorem d_Store_loadWide_154 : decode b_Store_loadWide 154 = .ok (.invokevirtual 146, 3) := by decide +kernel
theorem d_Store_loadWide_157 : decode b_Store_loadWide 157 = .ok (.iload 5, 2) := by decide +kernel
theorem d_Store_loadWide_159 : decode b_Store_loadWide 159 = .ok (.iload 4, 2) := by decide +kernel
theorem d_Store_loadWide_161 : decode b_Store_loadWide 161 = .ok (.iadd, 1) := by decide +kernel
theorem d_Store_loadWide_162 : decode b_Store_loadWide 162 = .ok (.istore 5, 2) := by decide +kernel
theorem d_Store_loadWide_164 : decode b_Store_loadWide 164 = .ok (.goto (-161), 3) := by decide +kernel
theorem d_Store_loadWide_167 : decode b_Store_loadWide 167 = .ok (.iconst (-1), 1) := by decide +kernel
theorem d_Store_loadWide_168 : decode b_Store_loadWide 168 = .ok (.ireturn, 1) := by decide +kernel
/-- Store_loadWide -/
def w_Store_loadWide (L : Nat → Nat) (a1 : Nat) (a2 : Int) (a3 : Int) (Q : Int → IS → Prop) (σ : IS) : Prop := WL (fun (K1 : Int → IS → Prop) (s3 : Int) (σ4 : IS) => if s3 < a2 then inR (a2 - s3) ∧ if (a2 - s3) < 2 then Q s3 σ4 else inR (s3 + a3) ∧ inL L a1 (s3 + a3) ∧ inR (s3 + 1) ∧ inR ((s3 + 1) - a3) ∧ inL L a1 ((s3 + 1) - a3) ∧ WJ (fun (s9 : Int × Int) (σ10 : IS) => w_Reader_isCharacter L s9.2 (fun v12 σ11 => if v12 = 0 then Q s3 σ11 else w_Store_addToText L s9.2 (fun σ14 => inR (s3 + s9.1) ∧ K1 (s3 + s9.1) σ14) σ11) σ10) (fun J7 => ((¬ (io (isl (ia (σ4.2 a1 (Int.toNat (s3 + a3))) 255) 8) (ia (σ4.2 a1 (Int.toNat ((s3 + 1) - a3))) 255)) < 55296 → (¬ 56319 < (io (isl (ia (σ4.2 a1 (Int.toNat (s3 + a3))) 255) 8) (ia (σ4.2 a1 (Int.toNat ((s3 + 1) - a3))) 255)) → inR (a2 - s3)))) ∧ if ¬ (io (isl (ia (σ4.2 a1 (Int.toNat (s3 + a3))) 255) 8) (ia (σ4.2 a1 (Int.toNat ((s3 + 1) - a3))) 255)) < 55296 ∧ (¬ 56319 < (io (isl (ia (σ4.2 a1 (Int.toNat (s3 + a3))) 255) 8) (ia (σ4.2 a1 (Int.toNat ((s3 + 1) - a3))) 255)) ∧ (¬ (a2 - s3) < 4)) then inR (s3 + 2) ∧ inR ((s3 + 2) + a3) ∧ inL L a1 ((s3 + 2) + a3) ∧ inR (s3 + 3) ∧ inR ((s3 + 3) - a3) ∧ inL L a1 ((s3 + 3) - a3) ∧ if ¬ (io (isl (ia (σ4.2 a1 (Int.toNat ((s3 + 2) + a3))) 255) 8) (ia (σ4.2 a1 (Int.toNat ((s3 + 3) - a3))) 255)) < 56320 ∧ (¬ 57343 < (io (isl (ia (σ4.2 a1 (Int.toNat ((s3 + 2) + a3))) 255) 8) (ia (σ4.2 a1 (Int.toNat ((s3 + 3) - a3))) 255))) then inR ((io (isl (ia (σ4.2 a1 (Int.toNat (s3 + a3))) 255) 8) (ia (σ4.2 a1 (Int.toNat ((s3 + 1) - a3))) 255)) - 55296) ∧ inR (1024 * ((io (isl (ia (σ4.2 a1 (Int.toNat (s3 + a3))) 255) 8) (ia (σ4.2 a1 (Int.toNat ((s3 + 1) - a3))) 255)) - 55296)) ∧ inR (65536 + (1024 * ((io (isl (ia (σ4.2 a1 (Int.toNat (s3 + a3))) 255) 8) (ia (σ4.2 a1 (Int.toNat ((s3 + 1) - a3))) 255)) - 55296))) ∧ inR ((65536 + (1024 * ((io (isl (ia (σ4.2 a1 (Int.toNat (s3 + a3))) 255) 8) (ia (σ4.2 a1 (Int.toNat ((s3 + 1) - a3))) 255)) - 55296))) + (io (isl (ia (σ4.2 a1 (Int.toNat ((s3 + 2) + a3))) 255) 8) (ia (σ4.2 a1 (Int.toNat ((s3 + 3) - a3))) 255))) ∧ inR (((65536 + (1024 * ((io (isl (ia (σ4.2 a1 (Int.toNat (s3 + a3))) 255) 8) (ia (σ4.2 a1 (Int.toNat ((s3 + 1) - a3))) 255)) - 55296))) + (io (isl (ia (σ4.2 a1 (Int.toNat ((s3 + 2) + a3))) 255) 8) (ia (σ4.2 a1 (Int.toNat ((s3 + 3) - a3))) 255))) - 56320) ∧ LETI (((65536 + (1024 * ((io (isl (ia (σ4.2 a1 (Int.toNat (s3 + a3))) 255) 8) (ia (σ4.2 a1 (Int.toNat ((s3 + 1) - a3))) 255)) - 55296))) + (io (isl (ia (σ4.2 a1 (Int.toNat ((s3 + 2) + a3))) 255) 8) (ia (σ4.2 a1 (Int.toNat ((s3 + 3) - a3))) 255))) - 56320) (fun t18 => J7 (4, t18) σ4) else J7 (2, (io (isl (ia (σ4.2 a1 (Int.toNat (s3 + a3))) 255) 8) (ia (σ4.2 a1 (Int.toNat ((s3 + 1) - a3))) 255))) σ4 else J7 (2, (io (isl (ia (σ4.2 a1 (Int.toNat (s3 + a3))) 255) 8) (ia (σ4.2 a1 (Int.toNat ((s3 + 1) - a3))) 255))) σ4) else Q (-1) σ4) 2 σ
set_option maxHeartbeats 4000000 in
set_option maxRecDepth 20000 in
theorem s_Store_loadWide {L : Nat → Nat} (hL : ∀ r, L r < 2147483648) {d : Nat} (hd : 2 ≤ d) {a1 : Nat} {a2 : Int} {a3 : Int} {Q : Int → IS → Prop} {σ : IS} (ha1 : rwB BF a1) (h : w_Store_loadWide L a1 a2 a3 Q σ) : OkI BF L d 1 b_Store_loadWide 8 1 0 [] [some (.inr 1), some (.inr a1), some (.inl a2), some (.inl a3)] σ (qi Q) := by
  unfold w_Store_loadWide at h
  obtain ⟨d, rfl⟩ : ∃ e, d = e + 1 := ⟨d - 1, by omega⟩
  refine k_sb (lv' := [some (.inr 1), some (.inr a1), some (.inl a2), some (.inl a3), none, none, none, none]) (sb_s (sb_s (sb_s (sb_s (sb_e (sb_e (sb_e (sb_e sb_nil)))))))) ?_
  refine k_iconst d_Store_loadWide_0 cI_2 ?_
  refine k_istore (lv' := [some (.inr 1), some (.inr a1), some (.inl a2), some (.inl a3), none, some (.inl 2), none, none]) d_Store_loadWide_1 rfl rfl ?_
  refine k_sb (lv' := [some (.inr 1), some (.inr a1), some (.inl a2), some (.inl a3), none, some (.inl 2), none, none]) (sb_s (sb_s (sb_s (sb_s (sb_s (sb_s (sb_s (sb_s sb_nil)))))))) ?_
  refine k_loop (S := Int) (st := fun _ => []) (lv := fun s3 => [some (.inr 1), some (.inr a1), some (.inl a2), some (.inl a3), none, some (.inl s3), none, none]) (fun K1 hK2 s3 σ4 h => ?_) 2 _ h
  refine k_iload d_Store_loadWide_3 rfl ?_
  refine k_iload_n d_Store_loadWide_5 rfl ?_
  refine k_icge d_Store_loadWide_6 rfl (fun c5 => ?_) (fun c5 => ?_)
  · have h := ineg c5 h
    refine k_iconst d_Store_loadWide_167 cI_m1 ?_
    exact k_iret d_Store_loadWide_168 (Or.inl rfl) h
  · have h := ipos c5 h
    refine k_iconst d_Store_loadWide_9 cI_2 ?_
    refine k_istore (lv' := [some (.inr 1), some (.inr a1), some (.inl a2), some (.inl a3), some (.inl 2), some (.inl s3), none, none]) d_Store_loadWide_10 rfl rfl ?_
    refine k_iload_n d_Store_loadWide_12 rfl ?_
    refine k_iload d_Store_loadWide_13 rfl ?_
    obtain ⟨p50, h⟩ := h
    refine k_isub d_Store_loadWide_15 p50 ?_
    refine k_iconst d_Store_loadWide_16 cI_2 ?_
    refine k_icge d_Store_loadWide_17 rfl (fun c6 => ?_) (fun c6 => ?_)
    · have h := ineg c6 h
      refine k_aload_n d_Store_loadWide_23 rfl ?_
      refine k_iload d_Store_loadWide_24 rfl ?_
      refine k_iload_n d_Store_loadWide_26 rfl ?_
      obtain ⟨p49, h⟩ := h
      refine k_iadd d_Store_loadWide_27 p49 ?_
      obtain ⟨p48, h⟩ := h
      refine k_bld (x := (σ4.2 a1 (Int.toNat (s3 + a3)))) d_Store_loadWide_28 ha1 p48 rfl ?_
      refine k_sipush d_Store_loadWide_29 cS_255 ?_
      refine k_iand d_Store_loadWide_32 ?_
      refine k_bipush d_Store_loadWide_33 cB_8 ?_
      refine k_ishl d_Store_loadWide_35 ?_
      refine k_aload_n d_Store_loadWide_36 rfl ?_
      refine k_iload d_Store_loadWide_37 rfl ?_
      refine k_iconst d_Store_loadWide_39 cI_1 ?_
      obtain ⟨p47, h⟩ := h
      refine k_iadd d_Store_loadWide_40 p47 ?_
      refine k_iload_n d_Store_loadWide_41 rfl ?_
      obtain ⟨p46, h⟩ := h
      refine k_isub d_Store_loadWide_42 p46 ?_
      obtain ⟨p45, h⟩ := h
      refine k_bld (x := (σ4.2 a1 (Int.toNat ((s3 + 1) - a3)))) d_Store_loadWide_43 ha1 p45 rfl ?_
      refine k_sipush d_Store_loadWide_44 cS_255 ?_
      refine k_iand d_Store_loadWide_47 ?_
      refine k_ior d_Store_loadWide_48 ?_
      refine k_istore (lv' := [some (.inr 1), some (.inr a1), some (.inl a2), some (.inl a3), some (.inl 2), some (.inl s3), some (.inl (io (isl (ia (σ4.2 a1 (Int.toNat (s3 + a3))) 255) 8) (ia (σ4.2 a1 (Int.toNat ((s3 + 1) - a3))) 255))), none]) d_Store_loadWide_49 rfl rfl ?_
      refine k_iload d_Store_loadWide_51 rfl ?_
      refine k_ldc d_Store_loadWide_53 ks_1_149 cL_55296 ?_
      refine k_join (S := Int × Int) (pc' := 140) (st' := fun s9 => []) (lv' := fun s9 => [some (.inr 1), some (.inr a1), some (.inl a2), some (.inl a3), some (.inl s9.1), some (.inl s3), some (.inl s9.2), none]) (fun s9 σ10 h => ?_) (fun J7 hJ8 h => ?_) h
      · refine k_iload d_Store_loadWide_140 rfl ?_
        refine k_csi [.inl s9.2] d_Store_loadWide_142 ml_1_140 (Or.inl rfl) rfl rfl rfl (s_Reader_isCharacter hL (by omega)  h) (fun v12 σ11 h => ?_)
        refine k_ifne d_Store_loadWide_145 rfl (fun c13 => ?_) (fun c13 => ?_)
        · have h := ineg c13 h
          refine k_aload_n d_Store_loadWide_151 rfl ?_
          refine k_iload d_Store_loadWide_152 rfl ?_
          refine k_cvv [.inl s9.2] d_Store_loadWide_154 ml_1_146 rfl rfl ob_1 rfl (s_Store_addToText hL (by omega)  h) (fun σ14 h => ?_)
          refine k_iload d_Store_loadWide_157 rfl ?_
          refine k_iload d_Store_loadWide_159 rfl ?_
          obtain ⟨p16, h⟩ := h
          refine k_iadd d_Store_loadWide_161 p16 ?_
          refine k_istore (lv' := [some (.inr 1), some (.inr a1), some (.inl a2), some (.inl a3), some (.inl s9.1), some (.inl (s3 + s9.1)), some (.inl s9.2), none]) d_Store_loadWide_162 rfl rfl ?_
          refine k_goto d_Store_loadWide_164 rfl ?_
          exact k_sb (sb_s (sb_s (sb_s (sb_s (sb_n (sb_s (sb_n (sb_s sb_nil)))))))) (hK2 (s3 + s9.1) _ h)
        · have h := ipos c13 h
          refine k_iload d_Store_loadWide_148 rfl ?_
          exact k_iret d_Store_loadWide_150 (Or.inl rfl) h
      · obtain ⟨pt39, h⟩ := h
        have hX36 : (¬ (io (isl (ia (σ4.2 a1 (Int.toNat (s3 + a3))) 255) 8) (ia (σ4.2 a1 (Int.toNat ((s3 + 1) - a3))) 255)) < 55296 ∧ (¬ 56319 < (io (isl (ia (σ4.2 a1 (Int.toNat (s3 + a3))) 255) 8) (ia (σ4.2 a1 (Int.toNat ((s3 + 1) - a3))) 255)) ∧ (¬ (a2 - s3) < 4))) → OkI BF L (d + 1) 1 b_Store_loadWide 8 1 73 [] [some (.inr 1), some (.inr a1), some (.inl a2), some (.inl a3), some (.inl 2), some (.inl s3), some (.inl (io (isl (ia (σ4.2 a1 (Int.toNat (s3 + a3))) 255) 8) (ia (σ4.2 a1 (Int.toNat ((s3 + 1) - a3))) 255))), none] σ4 (qi Q) := fun e38 => by
          have h := ipos e38 h
          refine k_aload_n d_Store_loadWide_73 rfl ?_
          refine k_iload d_Store_loadWide_74 rfl ?_
          refine k_iconst d_Store_loadWide_76 cI_2 ?_
          obtain ⟨p35, h⟩ := h
          refine k_iadd d_Store_loadWide_77 p35 ?_
          refine k_iload_n d_Store_loadWide_78 rfl ?_
          obtain ⟨p34, h⟩ := h
          refine k_iadd d_Store_loadWide_79 p34 ?_
          obtain ⟨p33, h⟩ := h
          refine k_bld (x := (σ4.2 a1 (Int.toNat ((s3 + 2) + a3)))) d_Store_loadWide_80 ha1 p33 rfl ?_
          refine k_sipush d_Store_loadWide_81 cS_255 ?_
          refine k_iand d_Store_loadWide_84 ?_
          refine k_bipush d_Store_loadWide_85 cB_8 ?_
          refine k_ishl d_Store_loadWide_87 ?_
          refine k_aload_n d_Store_loadWide_88 rfl ?_
          refine k_iload d_Store_loadWide_89 rfl ?_
          refine k_iconst d_Store_loadWide_91 cI_3 ?_
          obtain ⟨p32, h⟩ := h
          refine k_iadd d_Store_loadWide_92 p32 ?_
          refine k_iload_n d_Store_loadWide_93 rfl ?_
          obtain ⟨p31, h⟩ := h
          refine k_isub d_Store_loadWide_94 p31 ?_
          obtain ⟨p30, h⟩ := h
          refine k_bld (x := (σ4.2 a1 (Int.toNat ((s3 + 3) - a3)))) d_Store_loadWide_95 ha1 p30 rfl ?_
          refine k_sipush d_Store_loadWide_96 cS_255 ?_
          refine k_iand d_Store_loadWide_99 ?_
          refine k_ior d_Store_loadWide_100 ?_
          refine k_istore (lv' := [some (.inr 1), some (.inr a1), some (.inl a2), some (.inl a3), some (.inl 2), some (.inl s3), some (.inl (io (isl (ia (σ4.2 a1 (Int.toNat (s3 + a3))) 255) 8) (ia (σ4.2 a1 (Int.toNat ((s3 + 1) - a3))) 255))), some (.inl (io (isl (ia (σ4.2 a1 (Int.toNat ((s3 + 2) + a3))) 255) 8) (ia (σ4.2 a1 (Int.toNat ((s3 + 3) - a3))) 255)))]) d_Store_loadWide_101 rfl rfl ?_
          refine k_iload d_Store_loadWide_103 rfl ?_
          refine k_ldc d_Store_loadWide_105 ks_1_151 cL_56320 ?_
          have hX25 : (¬ (io (isl (ia (σ4.2 a1 (Int.toNat ((s3 + 2) + a3))) 255) 8) (ia (σ4.2 a1 (Int.toNat ((s3 + 3) - a3))) 255)) < 56320 ∧ (¬ 57343 < (io (isl (ia (σ4.2 a1 (Int.toNat ((s3 + 2) + a3))) 255) 8) (ia (σ4.2 a1 (Int.toNat ((s3 + 3) - a3))) 255)))) → OkI BF L (d + 1) 1 b_Store_loadWide 8 1 117 [] [some (.inr 1), some (.inr a1), some (.inl a2), some (.inl a3), some (.inl 2), some (.inl s3), some (.inl (io (isl (ia (σ4.2 a1 (Int.toNat (s3 + a3))) 255) 8) (ia (σ4.2 a1 (Int.toNat ((s3 + 1) - a3))) 255))), some (.inl (io (isl (ia (σ4.2 a1 (Int.toNat ((s3 + 2) + a3))) 255) 8) (ia (σ4.2 a1 (Int.toNat ((s3 + 3) - a3))) 255)))] σ4 (qi Q) := fun e27 => by
            have h := ipos e27 h
            refine k_ldc d_Store_loadWide_117 ks_1_15 cL_65536 ?_
            refine k_sipush d_Store_loadWide_119 cS_1024 ?_
            refine k_iload d_Store_loadWide_122 rfl ?_
            refine k_ldc d_Store_loadWide_124 ks_1_149 cL_55296 ?_
            obtain ⟨p24, h⟩ := h
            refine k_isub d_Store_loadWide_126 p24 ?_
            obtain ⟨p23, h⟩ := h
            refine k_imul d_Store_loadWide_127 p23 ?_
            obtain ⟨p22, h⟩ := h
            refine k_iadd d_Store_loadWide_128 p22 ?_
            refine k_iload d_Store_loadWide_129 rfl ?_
            obtain ⟨p21, h⟩ := h
            refine k_iadd d_Store_loadWide_131 p21 ?_
            refine k_ldc d_Store_loadWide_132 ks_1_151 cL_56320 ?_
            obtain ⟨p20, h⟩ := h
            refine k_isub d_Store_loadWide_134 p20 ?_
            refine k_letI (fun t18 ht19 h => ?_) h
            refine k_istore (lv' := [some (.inr 1), some (.inr a1), some (.inl a2), some (.inl a3), some (.inl 2), some (.inl s3), some (.inl t18), some (.inl (io (isl (ia (σ4.2 a1 (Int.toNat ((s3 + 2) + a3))) 255) 8) (ia (σ4.2 a1 (Int.toNat ((s3 + 3) - a3))) 255)))]) d_Store_loadWide_135 rfl rfl ?_
            refine k_iconst d_Store_loadWide_137 cI_4 ?_
            refine k_istore (lv' := [some (.inr 1), some (.inr a1), some (.inl a2), some (.inl a3), some (.inl 4), some (.inl s3), some (.inl t18), some (.inl (io (isl (ia (σ4.2 a1 (Int.toNat ((s3 + 2) + a3))) 255) 8) (ia (σ4.2 a1 (Int.toNat ((s3 + 3) - a3))) 255)))]) d_Store_loadWide_138 rfl rfl ?_
            exact k_sb (sb_s (sb_s (sb_s (sb_s (sb_s (sb_s (sb_s (sb_n sb_nil)))))))) (hJ8 (4, t18) _ h)
          have hY26 : ¬ (¬ (io (isl (ia (σ4.2 a1 (Int.toNat ((s3 + 2) + a3))) 255) 8) (ia (σ4.2 a1 (Int.toNat ((s3 + 3) - a3))) 255)) < 56320 ∧ (¬ 57343 < (io (isl (ia (σ4.2 a1 (Int.toNat ((s3 + 2) + a3))) 255) 8) (ia (σ4.2 a1 (Int.toNat ((s3 + 3) - a3))) 255)))) → OkI BF L (d + 1) 1 b_Store_loadWide 8 1 140 [] [some (.inr 1), some (.inr a1), some (.inl a2), some (.inl a3), some (.inl 2), some (.inl s3), some (.inl (io (isl (ia (σ4.2 a1 (Int.toNat (s3 + a3))) 255) 8) (ia (σ4.2 a1 (Int.toNat ((s3 + 1) - a3))) 255))), some (.inl (io (isl (ia (σ4.2 a1 (Int.toNat ((s3 + 2) + a3))) 255) 8) (ia (σ4.2 a1 (Int.toNat ((s3 + 3) - a3))) 255)))] σ4 (qi Q) := fun e27 => by
            have h := ineg e27 h
            exact k_sb (sb_s (sb_s (sb_s (sb_s (sb_s (sb_s (sb_s (sb_n sb_nil)))))))) (hJ8 (2, (io (isl (ia (σ4.2 a1 (Int.toNat (s3 + a3))) 255) 8) (ia (σ4.2 a1 (Int.toNat ((s3 + 1) - a3))) 255))) _ h)
          refine k_iclt d_Store_loadWide_107 rfl (fun c28 => ?_) (fun c28 => ?_)
          · exact hY26 (fun z => z.1 c28)
          · refine k_iload d_Store_loadWide_110 rfl ?_
            refine k_ldc d_Store_loadWide_112 ks_1_152 cL_57343 ?_
            refine k_icgt d_Store_loadWide_114 rfl (fun c29 => ?_) (fun c29 => ?_)
            · exact hY26 (fun z => (fun z => z c29) z.2)
            · exact hX25 (⟨c28, c29⟩)
        have hY37 : ¬ (¬ (io (isl (ia (σ4.2 a1 (Int.toNat (s3 + a3))) 255) 8) (ia (σ4.2 a1 (Int.toNat ((s3 + 1) - a3))) 255)) < 55296 ∧ (¬ 56319 < (io (isl (ia (σ4.2 a1 (Int.toNat (s3 + a3))) 255) 8) (ia (σ4.2 a1 (Int.toNat ((s3 + 1) - a3))) 255)) ∧ (¬ (a2 - s3) < 4))) → OkI BF L (d + 1) 1 b_Store_loadWide 8 1 140 [] [some (.inr 1), some (.inr a1), some (.inl a2), some (.inl a3), some (.inl 2), some (.inl s3), some (.inl (io (isl (ia (σ4.2 a1 (Int.toNat (s3 + a3))) 255) 8) (ia (σ4.2 a1 (Int.toNat ((s3 + 1) - a3))) 255))), none] σ4 (qi Q) := fun e38 => by
          have h := ineg e38 h
          exact k_sb (sb_s (sb_s (sb_s (sb_s (sb_s (sb_s (sb_s (sb_s sb_nil)))))))) (hJ8 (2, (io (isl (ia (σ4.2 a1 (Int.toNat (s3 + a3))) 255) 8) (ia (σ4.2 a1 (Int.toNat ((s3 + 1) - a3))) 255))) _ h)
        have pb40 := pt39
        refine k_iclt d_Store_loadWide_55 rfl (fun c41 => ?_) (fun c41 => ?_)
        · exact hY37 (fun z => z.1 c41)
        · have pb40 := pb40 c41
          have pb42 := pb40
          refine k_iload d_Store_loadWide_58 rfl ?_
          refine k_ldc d_Store_loadWide_60 ks_1_150 cL_56319 ?_
          refine k_icgt d_Store_loadWide_62 rfl (fun c43 => ?_) (fun c43 => ?_)
          · exact hY37 (fun z => (fun z => z.1 c43) z.2)
          · have pb42 := pb42 c43
            have p17 := pb42
            refine k_iload_n d_Store_loadWide_65 rfl ?_
            refine k_iload d_Store_loadWide_66 rfl ?_
            refine k_isub d_Store_loadWide_68 p17 ?_
            refine k_iconst d_Store_loadWide_69 cI_4 ?_
            refine k_iclt d_Store_loadWide_70 rfl (fun c44 => ?_) (fun c44 => ?_)
            · exact hY37 (fun z => (fun z => (fun z => z c44) z.2) z.2)
            · exact hX36 (⟨c41, ⟨c43, c44⟩⟩)
    · have h := ipos c6 h
      refine k_iload d_Store_loadWide_20 rfl ?_
      exact k_iret d_Store_loadWide_22 (Or.inl rfl) h
theorem d_Store_loadNarrow_9 : decode b_Store_loadNarrow 9 = .ok (.aload_n 1, 1) := by decide +kernel
theorem d_Store_loadNarrow_10 : decode b_Store_loadNarrow 10 = .ok (.iload 5, 2) := by decide +kernel
theorem d_Store_loadNarrow_12 : decode b_Store_loadNarrow 12 = .ok (.baload, 1) := by decide +kernel
theorem d_Store_loadNarrow_13 : decode b_Store_loadNarrow 13 = .ok (.sipush 255, 3) := by decide +kernel
theorem d_Store_loadNarrow_16 : decode b_Store_loadNarrow 16 = .ok (.iand, 1) := by decide +kernel
theorem d_Store_loadNarrow_17 : decode b_Store_loadNarrow 17 = .ok (.istore 6, 2) := by decide +kernel
theorem d_Store_loadNarrow_19 : decode b_Store_loadNarrow 19 = .ok (.iload 6, 2) := by decide +kernel
theorem d_Store_loadNarrow_21 : decode b_Store_loadNarrow 21 = .ok (.sipush 128, 3) := by decide +kernel
theorem d_Store_loadNarrow_24 : decode b_Store_loadNarrow 24 = .ok (.if_icmp .ge 7, 3) := by decide +kernel
theorem d_Store_loadNarrow_27 : decode b_Store_loadNarrow 27 = .ok (.iconst 0, 1) := by decide +kernel
theorem d_Store_loadNarrow_28 : decode b_Store_loadNarrow 28 = .ok (.goto 28, 3) := by decide +kernel
theorem d_Store_loadNarrow_31 : decode b_Store_loadNarrow 31 = .ok (.iload 6, 2) := by decide +kernel
theorem d_Store_loadNarrow_33 : decode b_Store_loadNarrow 33 = .ok (.sipush 224, 3) := by decide +kernel
theorem d_Store_loadNarrow_36 : decode b_Store_loadNarrow 36 = .ok (.if_icmp .ge 7, 3) := by decide +kernel
theorem d_Store_loadNarrow_39 : decode b_Store_loadNarrow 39 = .ok (.iconst 1, 1) := by decide +kernel
theorem d_Store_loadNarrow_40 : decode b_Store_loadNarrow 40 = .ok (.goto 16, 3) := by decide +kernel
theorem d_Store_loadNarrow_43 : decode b_Store_loadNarrow 43 = .ok (.iload 6, 2) := by decide +kernel
theorem d_Store_loadNarrow_45 : decode b_Store_loadNarrow 45 = .ok (.sipush 240, 3) := by decide +kernel
theorem d_Store_loadNarrow_48 : decode b_Store_loadNarrow 48 = .ok (.if_icmp .ge 7, 3) := by decide +kernel
theorem d_Store_loadNarrow_51 : decode b_Store_loadNarrow 51 = .ok (.iconst 2, 1) := by decide +kernel
theorem d_Store_loadNarrow_52 : decode b_Store_loadNarrow 52 = .ok (.goto 4, 3) := by decide +kernel
theorem d_Store_loadNarrow_55 : decode b_Store_loadNarrow 55 = .ok (.iconst 3, 1) := by decide +kernel
theorem d_Store_loadNarrow_56 : decode b_Store_loadNarrow 56 = .ok (.istore 4, 2) := by decide +kernel
theorem d_Store_loadNarrow_58 : decode b_Store_loadNarrow 58 = .ok (.iload 6, 2) := by decide +kernel
theorem d_Store_loadNarrow_60 : decode b_Store_loadNarrow 60 = .ok (.sipush 128, 3) := by decide +kernel
theorem d_Store_loadNarrow_63 : decode b_Store_loadNarrow 63 = .ok (.if_icmp .lt 11, 3) := by decide +kernel
theorem d_Store_loadNarrow_66 : decode b_Store_loadNarrow 66 = .ok (.iload 6, 2) := by decide +kernel
theorem d_Store_loadNarrow_68 : decode b_Store_loadNarrow 68 = .ok (.sipush 192, 3) := by decide +kernel
theorem d_Store_loadNarrow_71 : decode b_Store_loadNarrow 71 = .ok (.if_icmp .lt 20, 3) := by decide +kernel
theorem d_Store_loadNarrow_74 : decode b_Store_loadNarrow 74 = .ok (.iload 6, 2) := by decide +kernel
theorem d_Store_loadNarrow_76 : decode b_Store_loadNarrow 76 = .ok (.sipush 248, 3) := by decide +kernel
theorem d_Store_loadNarrow_79 : decode b_Store_loadNarrow 79 = .ok (.if_icmp .ge 12, 3) := by decide +kernel
theorem d_Store_loadNarrow_82 : decode b_Store_loadNarrow 82 = .ok (.iload_n 2, 1) := by decide +kernel
theorem d_Store_loadNarrow_83 : decode b_Store_loadNarrow 83 = .ok (.iload 5, 2) := by decide +kernel
theorem d_Store_loadNarrow_85 : decode b_Store_loadNarrow 85 = .ok (.isub, 1) := by decide +kernel
theorem d_Store_loadNarrow_86 : decode b_Store_loadNarrow 86 = .ok (.iload 4, 2) := by decide +kernel
theorem d_Store_loadNarrow_88 : decode b_Store_loadNarrow 88 = .ok (.if_icmp .gt 6, 3) := by decide +kernel
theorem d_Store_loadNarrow_91 : decode b_Store_loadNarrow 91 = .ok (.iload 5, 2) := by decide +kernel
theorem d_Store_loadNarrow_93 : decode b_Store_loadNarrow 93 = .ok (.ireturn, 1) := by decide +kernel
theorem d_Store_loadNarrow_94 : decode b_Store_loadNarrow 94 = .ok (.iload 4, 2) := by decide +kernel
theorem d_Store_loadNarrow_96 : decode b_Store_loadNarrow 96 = .ok (.ifCond .ne 8, 3) := by decide +kernel
theorem d_Store_loadNarrow_99 : decode b_Store_loadNarrow 99 = .ok (.iload 6, 2) := by decide +kernel
theorem d_Store_loadNarrow_101 : decode b_Store_loadNarrow 101 = .ok (.goto 11, 3) := by decide +kernel
theorem d_Store_loadNarrow_104 : decode b_Store_loadNarrow 104 = .ok (.iload 6, 2) := by decide +kernel
theorem d_Store_loadNarrow_106 : decode b_Store_loadNarrow 106 = .ok (.bipush 63, 2) := by decide +kernel
theorem d_Store_loadNarrow_108 : decode b_Store_loadNarrow 108 = .ok (.iload 4, 2) := by decide +kernel
theorem d_Store_loadNarrow_110 : decode b_Store_loadNarrow 110 = .ok (.ishr, 1) := by decide +kernel
theorem d_Store_loadNarrow_111 : decode b_Store_loadNarrow 111 = .ok (.iand, 1) := by decide +kernel
theorem d_Store_loadNarrow_112 : decode b_Store_loadNarrow 112 = .ok (.istore 7, 2) := by decide +kernel
theorem d_Store_loadNarrow_114 : decode b_Store_loadNarrow 114 = .ok (.iconst 1, 1) := by decide +kernel
theorem d_Store_loadNarrow_115 : decode b_Store_loadNarrow 115 = .ok (.istore 8, 2) := by decide +kernel
theorem d_Store_loadNarrow_117 : decode b_Store_loadNarrow 117 = .ok (.iload 8, 2) := by decide +kernel
theorem d_Store_loadNarrow_119 : decode b_Store_loadNarrow 119 = .ok (.iload 4, 2) := by decide +kernel
theorem d_Store_loadNarrow_121 : decode b_Store_loadNarrow 121 = .ok (.if_icmp .gt 50, 3) := by decide +kernel
theorem d_Store_loadNarrow_124 : decode b_Store_loadNarrow 124 = .ok (.aload_n 1, 1) := by decide +kernel
theorem d_Store_loadNarrow_125 : decode b_Store_loadNarrow 125 = .ok (.iload 5, 2) := by decide +kernel
theorem d_Store_loadNarrow_127 : decode b_Store_loadNarrow 127 = .ok (.iload 8, 2) := by decide +kernel
theorem d_Store_loadNarrow_129 : decode b_Store_loadNarrow 129 = .ok (.iadd, 1) := by decide +kernel
theorem d_Store_loadNarrow_130 : decode b_Store_loadNarrow 130 = .ok (.baload, 1) := by decide +kernel
theorem d_Store_loadNarrow_131 : decode b_Store_loadNarrow 131 = .ok (.sipush 255, 3) := by decide +kernel
theorem d_Store_loadNarrow_134 : decode b_Store_loadNarrow 134 = .ok (.iand, 1) := by decide +kernel
theorem d_Store_loadNarrow_135 : decode b_Store_loadNarrow 135 = .ok (.istore 9, 2) := by decide +kernel
theorem d_Store_loadNarrow_137 : decode b_Store_loadNarrow 137 = .ok (.iload 9, 2) := by decide +kernel
theorem d_Store_loadNarrow_139 : decode b_Store_loadNarrow 139 = .ok (.sipush 192, 3) := by decide +kernel
theorem d_Store_loadNarrow_142 : decode b_Store_loadNarrow 142 = .ok (.iand, 1) := by decide +kernel
theorem d_Store_loadNarrow_143 : decode b_Store_loadNarrow 143 = .ok (.sipush 128, 3) := by decide +kernel
theorem d_Store_loadNarrow_146 : decode b_Store_loadNarrow 146 = .ok (.if_icmp .eq 6, 3) := by decide +kernel
theorem d_Store_loadNarrow_149 : decode b_Store_loadNarrow 149 = .ok (.iload 5, 2) := by decide +kernel
theorem d_Store_loadNarrow_151 : decode b_Store_loadNarrow 151 = .ok (.ireturn, 1) := by decide +kernel
theorem d_Store_loadNarrow_152 : decode b_Store_loadNarrow 152 = .ok (.iload 7, 2) := by decide +kernel
theorem d_Store_loadNarrow_154 : decode b_Store_loadNarrow 154 = .ok (.bipush 6, 2) := by decide +kernel
theorem d_Store_loadNarrow_156 : decode b_Store_loadNarrow 156 = .ok (.ishl, 1) := by decide +kernel
theorem d_Store_loadNarrow_157 : decode b_Store_loadNarrow 157 = .ok (.iload 9, 2) := by decide +kernel
theorem d_Store_loadNarrow_159 : decode b_Store_loadNarrow 159 = .ok (.bipush 63, 2) := by decide +kernel
theorem d_Store_loadNarrow_161 : decode b_Store_loadNarrow 161 = .ok (.iand, 1) := by decide +kernel
theorem d_Store_loadNarrow_162 : decode b_Store_loadNarrow 162 = .ok (.ior, 1) := by decide +kernel
theorem d_Store_loadNarrow_163 : decode b_Store_loadNarrow 163 = .ok (.istore 7, 2) := by decide +kernel
theorem d_Store_loadNarrow_165 : decode b_Store_loadNarrow 165 = .ok (.iinc 8 1, 3) := by decide +kernel
theorem d_Store_loadNarrow_168 : decode b_Store_loadNarrow 168 = .ok (.goto (-51), 3) := by decide +kernel
theorem d_Store_loadNarrow_171 : decode b_Store_loadNarrow 171 = .ok (.iload 7, 2) := by decide +kernel
theorem d_Store_loadNarrow_173 : decode b_Store_loadNarrow 173 = .ok (.getstatic 137, 3) := by decide +kernel
theorem d_Store_loadNarrow_176 : decode b_Store_loadNarrow 176 = .ok (.iload 4, 2) := by decide +kernel
theorem d_Store_loadNarrow_178 : decode b_Store_loadNarrow 178 = .ok (.iaload, 1) := by decide +kernel
theorem d_Store_loadNarrow_179 : decode b_Store_loadNarrow 179 = .ok (.if_icmp .lt 11, 3) := by decide +kernel
theorem d_Store_loadNarrow_182 : decode b_Store_loadNarrow 182 = .ok (.iload 7, 2) := by decide +kernel
theorem d_Store_loadNarrow_184 : decode b_Store_loadNarrow 184 = .ok (.invokestatic 140, 3) := by decide +kernel
theorem d_Store_loadNarrow_187 : decode b_Store_loadNarrow 187 = .ok (.ifCond .ne 6, 3) := by decide +kernel
theorem d_Store_loadNarrow_190 : decode b_Store_loadNarrow 190 = .ok (.iload 5, 2) := by decide +kernel
theorem d_Store_loadNarrow_192 : decode b_Store_loadNarrow 192 = .ok (.ireturn, 1) := by decide +kernel
theorem d_Store_loadNarrow_193 : decode b_Store_loadNarrow 193 = .ok (.aload_n 0, 1) := by decide +kernel
theorem d_Store_loadNarrow_194 : decode b_Store_loadNarrow 194 = .ok (.iload 7, 2) := by decide +kernel
theorem d_Store_loadNarrow_196 : decode b_Store_loadNarrow 196 = .ok (.invokevirtual 146, 3) := by decide +kernel
theorem d_Store_loadNarrow_199 : decode b_Store_loadNarrow 199 = .ok (.iload 5, 2) := by decide +kernel
theorem d_Store_loadNarrow_201 : decode b_Store_loadNarrow 201 = .ok (.iload 4, 2) := by decide +kernel
theorem d_Store_loadNarrow_203 : decode b_Store_loadNarrow 203 = .ok (.iconst 1, 1) := by decide +kernel
theorem d_Store_loadNarrow_204 : decode b_Store_loadNarrow 204 = .ok (.iadd, 1) := by decide +kernel
theorem d_Store_loadNarrow_205 : decode b_Store_loadNarrow 205 = .ok (.iadd, 1) := by decide +kernel
theorem d_Store_loadNarrow_206 : decode b_Store_loadNarrow 206 = .ok (.istore 5, 2) := by decide +kernel
theorem d_Store_loadNarrow_208 : decode b_Store_loadNarrow 208 = .ok (.goto (-205), 3) := by decide +kernel
/-- Store_loadNarrow -/
def w_Store_loadNarrow (L : Nat → Nat) (a1 : Nat) (a2 : Int) (a3 : Int) (Q : Int → IS → Prop) (σ : IS) : Prop := WL (fun (K1 : Int → IS → Prop) (s3 : Int) (σ4 : IS) => if s3 < a2 then inL L a1 s3 ∧ LETI (if (ia (σ4.2 a1 (Int.toNat s3)) 255) < 128 then (0 : Int) else (if (ia (σ4.2 a1 (Int.toNat s3)) 255) < 224 then (1 : Int) else (if (ia (σ4.2 a1 (Int.toNat s3)) 255) < 240 then (2 : Int) else (3 : Int)))) (fun t6 => ((((ia (σ4.2 a1 (Int.toNat s3)) 255) < 128 → ((ia (σ4.2 a1 (Int.toNat s3)) 255) < 248 → inR (a2 - s3))) ∧ (¬ (ia (σ4.2 a1 (Int.toNat s3)) 255) < 128 → (¬ (ia (σ4.2 a1 (Int.toNat s3)) 255) < 192 → ((ia (σ4.2 a1 (Int.toNat s3)) 255) < 248 → inR (a2 - s3)))))) ∧ if ((ia (σ4.2 a1 (Int.toNat s3)) 255) < 128 ∧ ((ia (σ4.2 a1 (Int.toNat s3)) 255) < 248 ∧ (t6 < (a2 - s3)))) ∨ (¬ (ia (σ4.2 a1 (Int.toNat s3)) 255) < 128 ∧ (¬ (ia (σ4.2 a1 (Int.toNat s3)) 255) < 192 ∧ ((ia (σ4.2 a1 (Int.toNat s3)) 255) < 248 ∧ (t6 < (a2 - s3))))) then WL (fun (K10 : Int × Int → IS → Prop) (s12 : Int × Int) (σ13 : IS) => if t6 < s12.2 then ((0 : Int) ≤ t6 ∧ t6 < srN 2000) ∧ WJ (fun (s17 : Unit) (σ18 : IS) => Q s3 σ18) (fun J15 => if s12.1 < (srI 2000 t6) then J15 () σ13 else w_Reader_isCharacter L s12.1 (fun v21 σ20 => if v21 = 0 then J15 () σ20 else w_Store_addToText L s12.1 (fun σ23 => inR (t6 + 1) ∧ inR (s3 + (t6 + 1)) ∧ K1 (s3 + (t6 + 1)) σ23) σ20) σ13) else inR (s3 + s12.2) ∧ inL L a1 (s3 + s12.2) ∧ if (ia (ia (σ13.2 a1 (Int.toNat (s3 + s12.2))) 255) 192) = 128 then inR (s12.2 + 1) ∧ K10 ((io (isl s12.1 6) (ia (ia (σ13.2 a1 (Int.toNat (s3 + s12.2))) 255) 63)), (s12.2 + 1)) σ13 else Q s3 σ13) ((if t6 = 0 then (ia (σ4.2 a1 (Int.toNat s3)) 255) else (ia (ia (σ4.2 a1 (Int.toNat s3)) 255) (isr 63 t6))), 1) σ4 else Q s3 σ4) else Q (-1) σ4) a3 σ
set_option maxHeartbeats 4000000 in
set_option maxRecDepth 20000 in
theorem s_Store_loadNarrow {L : Nat → Nat} (hL : ∀ r, L r < 2147483648) {d : Nat} (hd : 2 ≤ d) {a1 : Nat} {a2 : Int} {a3 : Int} {Q : Int → IS → Prop} {σ : IS} (ha1 : rwB BF a1) (h : w_Store_loadNarrow L a1 a2 a3 Q σ) : OkI BF L d 1 b_Store_loadNarrow 10 1 0 [] [some (.inr 1), some (.inr a1), some (.inl a2), some (.inl a3)] σ (qi Q) := by
  unfold w_Store_loadNarrow at h
  obtain ⟨d, rfl⟩ : ∃ e, d = e + 1 := ⟨d - 1, by omega⟩
  refine k_sb (lv' := [some (.inr 1), some (.inr a1), some (.inl a2), some (.inl a3), none, none, none, none, none, none]) (sb_s (sb_s (sb_s (sb_s (sb_e (sb_e (sb_e (sb_e (sb_e (sb_e sb_nil)))))))))) ?_
  refine k_iload_n d_Store_loadNarrow_0 rfl ?_
  refine k_istore (lv' := [some (.inr 1), some (.inr a1), some (.inl a2), some (.inl a3), none, some (.inl a3), none, none, none, none]) d_Store_loadNarrow_1 rfl rfl ?_
  refine k_sb (lv' := [some (.inr 1), some (.inr a1), some (.inl a2), none, none, some (.inl a3), none, none, none, none]) (sb_s (sb_s (sb_s (sb_n (sb_s (sb_s (sb_s (sb_s (sb_s (sb_s sb_nil)))))))))) ?_
  refine k_loop (S := Int) (st := fun _ => []) (lv := fun s3 => [some (.inr 1), some (.inr a1), some (.inl a2), none, none, some (.inl s3), none, none, none, none]) (fun K1 hK2 s3 σ4 h => ?_) a3 _ h
  refine k_iload d_Store_loadNarrow_3 rfl ?_
  refine k_iload_n d_Store_loadNarrow_5 rfl ?_
  refine k_icge d_Store_loadNarrow_6 rfl (fun c5 => ?_) (fun c5 => ?_)
  · have h := ineg c5 h
    refine k_iconst d_Store_loadNarrow_211 cI_m1 ?_
    exact k_iret d_Store_loadNarrow_212 (Or.inl rfl) h
  · have h := ipos c5 h
    refine k_aload_n d_Store_loadNarrow_9 rfl ?_
    refine k_iload d_Store_loadNarrow_10 rfl ?_
    obtain ⟨p61, h⟩ := h
    refine k_bld (x := (σ4.2 a1 (Int.toNat s3))) d_Store_loadNarrow_12 ha1 p61 rfl ?_
    refine k_sipush d_Store_loadNarrow_13 cS_255 ?_
    refine k_iand d_Store_loadNarrow_16 ?_
    refine k_istore (lv' := [some (.inr 1), some (.inr a1), some (.inl a2), none, none, some (.inl s3), some (.inl (ia (σ4.2 a1 (Int.toNat s3)) 255)), none, none, none]) d_Store_loadNarrow_17 rfl rfl ?_
    refine k_iload d_Store_loadNarrow_19 rfl ?_
    refine k_sipush d_Store_loadNarrow_21 cS_128 ?_
    have hV51 : OkI BF L (d + 1) 1 b_Store_loadNarrow 10 1 56 [.inl (if (ia (σ4.2 a1 (Int.toNat s3)) 255) < 128 then (0 : Int) else (if (ia (σ4.2 a1 (Int.toNat s3)) 255) < 224 then (1 : Int) else (if (ia (σ4.2 a1 (Int.toNat s3)) 255) < 240 then (2 : Int) else (3 : Int))))] [some (.inr 1), some (.inr a1), some (.inl a2), none, none, some (.inl s3), some (.inl (ia (σ4.2 a1 (Int.toNat s3)) 255)), none, none, none] σ4 (qi Q) := by
      refine k_letI (fun t6 ht7 h => ?_) h
      refine k_istore (lv' := [some (.inr 1), some (.inr a1), some (.inl a2), none, some (.inl t6), some (.inl s3), some (.inl (ia (σ4.2 a1 (Int.toNat s3)) 255)), none, none, none]) d_Store_loadNarrow_56 rfl rfl ?_
      refine k_iload d_Store_loadNarrow_58 rfl ?_
      refine k_sipush d_Store_loadNarrow_60 cS_128 ?_
      obtain ⟨pt39, h⟩ := h
      have hX36 : (((ia (σ4.2 a1 (Int.toNat s3)) 255) < 128 ∧ ((ia (σ4.2 a1 (Int.toNat s3)) 255) < 248 ∧ (t6 < (a2 - s3)))) ∨ (¬ (ia (σ4.2 a1 (Int.toNat s3)) 255) < 128 ∧ (¬ (ia (σ4.2 a1 (Int.toNat s3)) 255) < 192 ∧ ((ia (σ4.2 a1 (Int.toNat s3)) 255) < 248 ∧ (t6 < (a2 - s3)))))) → OkI BF L (d + 1) 1 b_Store_loadNarrow 10 1 94 [] [some (.inr 1), some (.inr a1), some (.inl a2), none, some (.inl t6), some (.inl s3), some (.inl (ia (σ4.2 a1 (Int.toNat s3)) 255)), none, none, none] σ4 (qi Q) := fun e38 => by
        have h := ipos e38 h
        refine k_iload d_Store_loadNarrow_94 rfl ?_
        have hV32 : OkI BF L (d + 1) 1 b_Store_loadNarrow 10 1 112 [.inl (if t6 = 0 then (ia (σ4.2 a1 (Int.toNat s3)) 255) else (ia (ia (σ4.2 a1 (Int.toNat s3)) 255) (isr 63 t6)))] [some (.inr 1), some (.inr a1), some (.inl a2), none, some (.inl t6), some (.inl s3), some (.inl (ia (σ4.2 a1 (Int.toNat s3)) 255)), none, none, none] σ4 (qi Q) := by
          refine k_istore (lv' := [some (.inr 1), some (.inr a1), some (.inl a2), none, some (.inl t6), some (.inl s3), some (.inl (ia (σ4.2 a1 (Int.toNat s3)) 255)), some (.inl (if t6 = 0 then (ia (σ4.2 a1 (Int.toNat s3)) 255) else (ia (ia (σ4.2 a1 (Int.toNat s3)) 255) (isr 63 t6)))), none, none]) d_Store_loadNarrow_112 rfl rfl ?_
          refine k_iconst d_Store_loadNarrow_114 cI_1 ?_
          refine k_istore (lv' := [some (.inr 1), some (.inr a1), some (.inl a2), none, some (.inl t6), some (.inl s3), some (.inl (ia (σ4.2 a1 (Int.toNat s3)) 255)), some (.inl (if t6 = 0 then (ia (σ4.2 a1 (Int.toNat s3)) 255) else (ia (ia (σ4.2 a1 (Int.toNat s3)) 255) (isr 63 t6)))), some (.inl 1), none]) d_Store_loadNarrow_115 rfl rfl ?_
          refine k_sb (lv' := [some (.inr 1), some (.inr a1), some (.inl a2), none, some (.inl t6), some (.inl s3), none, some (.inl (if t6 = 0 then (ia (σ4.2 a1 (Int.toNat s3)) 255) else (ia (ia (σ4.2 a1 (Int.toNat s3)) 255) (isr 63 t6)))), some (.inl 1), none]) (sb_s (sb_s (sb_s (sb_s (sb_s (sb_s (sb_n (sb_s (sb_s (sb_s sb_nil)))))))))) ?_
          refine k_loop (S := Int × Int) (st := fun _ => []) (lv := fun s12 => [some (.inr 1), some (.inr a1), some (.inl a2), none, some (.inl t6), some (.inl s3), none, some (.inl s12.1), some (.inl s12.2), none]) (fun K10 hK11 s12 σ13 h => ?_) ((if t6 = 0 then (ia (σ4.2 a1 (Int.toNat s3)) 255) else (ia (ia (σ4.2 a1 (Int.toNat s3)) 255) (isr 63 t6))), 1) _ h
          refine k_iload d_Store_loadNarrow_117 rfl ?_
          refine k_iload d_Store_loadNarrow_119 rfl ?_
          refine k_icgt d_Store_loadNarrow_121 rfl (fun c14 => ?_) (fun c14 => ?_)
          · have h := ipos c14 h
            refine k_iload d_Store_loadNarrow_171 rfl ?_
            refine k_getS d_Store_loadNarrow_173 rfl ?_
            refine k_iload d_Store_loadNarrow_176 rfl ?_
            obtain ⟨p27, h⟩ := h
            refine k_ldS d_Store_loadNarrow_178 ⟨by decide, rfl⟩ p27 ?_
            refine k_join (S := Unit) (pc' := 190) (st' := fun s17 => []) (lv' := fun s17 => [none, none, none, none, none, some (.inl s3), none, none, none, none]) (fun s17 σ18 h => ?_) (fun J15 hJ16 h => ?_) h
            · refine k_iload d_Store_loadNarrow_190 rfl ?_
              exact k_iret d_Store_loadNarrow_192 (Or.inl rfl) h
            · refine k_iclt d_Store_loadNarrow_179 rfl (fun c19 => ?_) (fun c19 => ?_)
              · have h := ipos c19 h
                exact k_sb (sb_n (sb_n (sb_n (sb_s (sb_n (sb_s (sb_s (sb_n (sb_n (sb_s sb_nil)))))))))) (hJ16 () _ h)
              · have h := ineg c19 h
                refine k_iload d_Store_loadNarrow_182 rfl ?_
                refine k_csi [.inl s12.1] d_Store_loadNarrow_184 ml_1_140 (Or.inl rfl) rfl rfl rfl (s_Reader_isCharacter hL (by omega)  h) (fun v21 σ20 h => ?_)
                refine k_ifne d_Store_loadNarrow_187 rfl (fun c22 => ?_) (fun c22 => ?_)
                · have h := ineg c22 h
                  refine k_aload_n d_Store_loadNarrow_193 rfl ?_
                  refine k_iload d_Store_loadNarrow_194 rfl ?_
                  refine k_cvv [.inl s12.1] d_Store_loadNarrow_196 ml_1_146 rfl rfl ob_1 rfl (s_Store_addToText hL (by omega)  h) (fun σ23 h => ?_)
                  refine k_iload d_Store_loadNarrow_199 rfl ?_
                  refine k_iload d_Store_loadNarrow_201 rfl ?_
                  refine k_iconst d_Store_loadNarrow_203 cI_1 ?_
                  obtain ⟨p26, h⟩ := h
                  refine k_iadd d_Store_loadNarrow_204 p26 ?_
                  obtain ⟨p25, h⟩ := h
                  refine k_iadd d_Store_loadNarrow_205 p25 ?_
                  refine k_istore (lv' := [some (.inr 1), some (.inr a1), some (.inl a2), none, some (.inl t6), some (.inl (s3 + (t6 + 1))), none, some (.inl s12.1), some (.inl s12.2), none]) d_Store_loadNarrow_206 rfl rfl ?_
                  refine k_goto d_Store_loadNarrow_208 rfl ?_
                  exact k_sb (sb_s (sb_s (sb_s (sb_s (sb_n (sb_s (sb_s (sb_n (sb_n (sb_s sb_nil)))))))))) (hK2 (s3 + (t6 + 1)) _ h)
                · have h := ipos c22 h
                  exact k_sb (sb_n (sb_n (sb_n (sb_s (sb_n (sb_s (sb_s (sb_n (sb_n (sb_s sb_nil)))))))))) (hJ16 () _ h)
          · have h := ineg c14 h
            refine k_aload_n d_Store_loadNarrow_124 rfl ?_
            refine k_iload d_Store_loadNarrow_125 rfl ?_
            refine k_iload d_Store_loadNarrow_127 rfl ?_
            obtain ⟨p31, h⟩ := h
            refine k_iadd d_Store_loadNarrow_129 p31 ?_
            obtain ⟨p30, h⟩ := h
            refine k_bld (x := (σ13.2 a1 (Int.toNat (s3 + s12.2)))) d_Store_loadNarrow_130 ha1 p30 rfl ?_
            refine k_sipush d_Store_loadNarrow_131 cS_255 ?_
            refine k_iand d_Store_loadNarrow_134 ?_
            refine k_istore (lv' := [some (.inr 1), some (.inr a1), some (.inl a2), none, some (.inl t6), some (.inl s3), none, some (.inl s12.1), some (.inl s12.2), some (.inl (ia (σ13.2 a1 (Int.toNat (s3 + s12.2))) 255))]) d_Store_loadNarrow_135 rfl rfl ?_
            refine k_iload d_Store_loadNarrow_137 rfl ?_
            refine k_sipush d_Store_loadNarrow_139 cS_192 ?_
            refine k_iand d_Store_loadNarrow_142 ?_
            refine k_sipush d_Store_loadNarrow_143 cS_128 ?_
            refine k_iceq d_Store_loadNarrow_146 rfl (fun c28 => ?_) (fun c28 => ?_)
            · have h := ipos c28 h
              refine k_iload d_Store_loadNarrow_152 rfl ?_
              refine k_bipush d_Store_loadNarrow_154 cB_6 ?_
              refine k_ishl d_Store_loadNarrow_156 ?_
              refine k_iload d_Store_loadNarrow_157 rfl ?_
              refine k_bipush d_Store_loadNarrow_159 cB_63 ?_
              refine k_iand d_Store_loadNarrow_161 ?_
              refine k_ior d_Store_loadNarrow_162 ?_
              refine k_istore (lv' := [some (.inr 1), some (.inr a1), some (.inl a2), none, some (.inl t6), some (.inl s3), none, some (.inl (io (isl s12.1 6) (ia (ia (σ13.2 a1 (Int.toNat (s3 + s12.2))) 255) 63))), some (.inl s12.2), some (.inl (ia (σ13.2 a1 (Int.toNat (s3 + s12.2))) 255))]) d_Store_loadNarrow_163 rfl rfl ?_
              obtain ⟨p29, h⟩ := h
              refine k_iinc (lv' := [some (.inr 1), some (.inr a1), some (.inl a2), none, some (.inl t6), some (.inl s3), none, some (.inl (io (isl s12.1 6) (ia (ia (σ13.2 a1 (Int.toNat (s3 + s12.2))) 255) 63))), some (.inl (s12.2 + 1)), some (.inl (ia (σ13.2 a1 (Int.toNat (s3 + s12.2))) 255))]) d_Store_loadNarrow_165 cI_1 rfl rfl p29 rfl ?_
              refine k_goto d_Store_loadNarrow_168 rfl ?_
              exact k_sb (sb_s (sb_s (sb_s (sb_s (sb_s (sb_s (sb_s (sb_s (sb_s (sb_n sb_nil)))))))))) (hK11 ((io (isl s12.1 6) (ia (ia (σ13.2 a1 (Int.toNat (s3 + s12.2))) 255) 63)), (s12.2 + 1)) _ h)
            · have h := ineg c28 h
              refine k_iload d_Store_loadNarrow_149 rfl ?_
              exact k_iret d_Store_loadNarrow_151 (Or.inl rfl) h
        refine k_ifne d_Store_loadNarrow_96 rfl (fun c33 => ?_) (fun c33 => ?_)
        · have hV35 := k_eqI (if_neg c33) hV32
          refine k_iload d_Store_loadNarrow_104 rfl ?_
          refine k_bipush d_Store_loadNarrow_106 cB_63 ?_
          refine k_iload d_Store_loadNarrow_108 rfl ?_
          refine k_ishr d_Store_loadNarrow_110 ?_
          refine k_iand d_Store_loadNarrow_111 ?_
          exact hV35
        · have hV34 := k_eqI (if_pos c33) hV32
          refine k_iload d_Store_loadNarrow_99 rfl ?_
          refine k_goto d_Store_loadNarrow_101 rfl ?_
          exact hV34
      have hY37 : ¬ (((ia (σ4.2 a1 (Int.toNat s3)) 255) < 128 ∧ ((ia (σ4.2 a1 (Int.toNat s3)) 255) < 248 ∧ (t6 < (a2 - s3)))) ∨ (¬ (ia (σ4.2 a1 (Int.toNat s3)) 255) < 128 ∧ (¬ (ia (σ4.2 a1 (Int.toNat s3)) 255) < 192 ∧ ((ia (σ4.2 a1 (Int.toNat s3)) 255) < 248 ∧ (t6 < (a2 - s3)))))) → OkI BF L (d + 1) 1 b_Store_loadNarrow 10 1 91 [] [some (.inr 1), some (.inr a1), some (.inl a2), none, some (.inl t6), some (.inl s3), some (.inl (ia (σ4.2 a1 (Int.toNat s3)) 255)), none, none, none] σ4 (qi Q) := fun e38 => by
        have h := ineg e38 h
        refine k_iload d_Store_loadNarrow_91 rfl ?_
        exact k_iret d_Store_loadNarrow_93 (Or.inl rfl) h
      obtain ⟨pa40, pb41⟩ := pt39
      refine k_iclt d_Store_loadNarrow_63 rfl (fun c42 => ?_) (fun c42 => ?_)
      · have pa40 := pa40 c42
        have pa43 := pa40
        refine k_iload d_Store_loadNarrow_74 rfl ?_
        refine k_sipush d_Store_loadNarrow_76 cS_248 ?_
        refine k_icge d_Store_loadNarrow_79 rfl (fun c44 => ?_) (fun c44 => ?_)
        · exact hY37 (fun z => z.elim (fun y => (fun z => c44 z.1) y.2) (fun y => y.1 c42))
        · have pa43 := pa43 c44
          have p8 := pa43
          refine k_iload_n d_Store_loadNarrow_82 rfl ?_
          refine k_iload d_Store_loadNarrow_83 rfl ?_
          refine k_isub d_Store_loadNarrow_85 p8 ?_
          refine k_iload d_Store_loadNarrow_86 rfl ?_
          refine k_icgt d_Store_loadNarrow_88 rfl (fun c45 => ?_) (fun c45 => ?_)
          · exact hX36 (Or.inl ⟨c42, ⟨c44, c45⟩⟩)
          · exact hY37 (fun z => z.elim (fun y => (fun z => (c45) z.2) y.2) (fun y => y.1 c42))
      · have pb41 := pb41 c42
        have pb46 := pb41
        refine k_iload d_Store_loadNarrow_66 rfl ?_
        refine k_sipush d_Store_loadNarrow_68 cS_192 ?_
        refine k_iclt d_Store_loadNarrow_71 rfl (fun c47 => ?_) (fun c47 => ?_)
        · exact hY37 (fun z => z.elim (fun y => c42 y.1) (fun y => (fun z => z.1 c47) y.2))
        · have pb46 := pb46 c47
          have pa48 := pb46
          refine k_iload d_Store_loadNarrow_74 rfl ?_
          refine k_sipush d_Store_loadNarrow_76 cS_248 ?_
          refine k_icge d_Store_loadNarrow_79 rfl (fun c49 => ?_) (fun c49 => ?_)
          · exact hY37 (fun z => z.elim (fun y => c42 y.1) (fun y => (fun z => (fun z => c49 z.1) z.2) y.2))
          · have pa48 := pa48 c49
            have p9 := pa48
            refine k_iload_n d_Store_loadNarrow_82 rfl ?_
            refine k_iload d_Store_loadNarrow_83 rfl ?_
            refine k_isub d_Store_loadNarrow_85 p9 ?_
            refine k_iload d_Store_loadNarrow_86 rfl ?_
            refine k_icgt d_Store_loadNarrow_88 rfl (fun c50 => ?_) (fun c50 => ?_)
            · exact hX36 (Or.inr ⟨c42, ⟨c47, ⟨c49, c50⟩⟩⟩)
            · exact hY37 (fun z => z.elim (fun y => c42 y.1) (fun y => (fun z => (fun z => (c50) z.2) z.2) y.2))
    refine k_icge d_Store_loadNarrow_24 rfl (fun c52 => ?_) (fun c52 => ?_)
    · have hV54 := k_eqI (if_neg c52) hV51
      refine k_iload d_Store_loadNarrow_31 rfl ?_
      refine k_sipush d_Store_loadNarrow_33 cS_224 ?_
      refine k_icge d_Store_loadNarrow_36 rfl (fun c55 => ?_) (fun c55 => ?_)
      · have hV57 := k_eqI (if_neg c55) hV54
        refine k_iload d_Store_loadNarrow_43 rfl ?_
        refine k_sipush d_Store_loadNarrow_45 cS_240 ?_
        refine k_icge d_Store_loadNarrow_48 rfl (fun c58 => ?_) (fun c58 => ?_)
        · have hV60 := k_eqI (if_neg c58) hV57
          refine k_iconst d_Store_loadNarrow_55 cI_3 ?_
          exact hV60
        · have hV59 := k_eqI (if_pos c58) hV57
          refine k_iconst d_Store_loadNarrow_51 cI_2 ?_
          refine k_goto d_Store_loadNarrow_52 rfl ?_
          exact hV59
      · have hV56 := k_eqI (if_pos c55) hV54
        refine k_iconst d_Store_loadNarrow_39 cI_1 ?_
        refine k_goto d_Store_loadNarrow_40 rfl ?_
        exact hV56
    · have hV53 := k_eqI (if_pos c52) hV51
      refine k_iconst d_Store_loadNarrow_27 cI_0 ?_
      refine k_goto d_Store_loadNarrow_28 rfl ?_
      exact hV53
theorem d_Store_load_4 : decode b_Store_load 4 = .ok (.aload_n 1, 1) := by decide +kernel
theorem d_Store_load_5 : decode b_Store_load 5 = .ok (.iconst 0, 1) := by decide +kernel
theorem d_Store_load_6 : decode b_Store_load 6 = .ok (.baload, 1) := by decide +kernel
theorem d_Store_load_7 : decode b_Store_load 7 = .ok (.sipush 255, 3) := by decide +kernel
theorem d_Store_load_10 : decode b_Store_load 10 = .ok (.iand, 1) := by decide +kernel
theorem d_Store_load_11 : decode b_Store_load 11 = .ok (.goto 4, 3) := by decide +kernel
theorem d_Store_load_21 : decode b_Store_load 21 = .ok (.aload_n 1, 1) := by decide +kernel
theorem d_Store_load_22 : decode b_Store_load 22 = .ok (.iconst 1, 1) := by decide +kernel
theorem d_Store_load_23 : decode b_Store_load 23 = .ok (.baload, 1) := by decide +kernel
theorem d_Store_load_24 : decode b_Store_load 24 = .ok (.sipush 255, 3) := by decide +kernel
theorem d_Store_load_27 : decode b_Store_load 27 = .ok (.iand, 1) := by decide +kernel
theorem d_Store_load_28 : decode b_Store_load 28 = .ok (.goto 4, 3) := by decide +kernel
theorem d_Store_load_41 : decode b_Store_load 41 = .ok (.iload 4, 2) := by decide +kernel
theorem d_Store_load_43 : decode b_Store_load 43 = .ok (.sipush 255, 3) := by decide +kernel
theorem d_Store_load_46 : decode b_Store_load 46 = .ok (.if_icmp .ne 7, 3) := by decide +kernel
theorem d_Store_load_49 : decode b_Store_load 49 = .ok (.iconst 1, 1) := by decide +kernel
theorem d_Store_load_50 : decode b_Store_load 50 = .ok (.goto 4, 3) := by decide +kernel
theorem d_Store_load_69 : decode b_Store_load 69 = .ok (.iload 4, 2) := by decide +kernel
theorem d_Store_load_71 : decode b_Store_load 71 = .ok (.sipush 254, 3) := by decide +kernel
theorem d_Store_load_74 : decode b_Store_load 74 = .ok (.if_icmp .ne 7, 3) := by decide +kernel
theorem d_Store_load_77 : decode b_Store_load 77 = .ok (.iconst 1, 1) := by decide +kernel
theorem d_Store_load_78 : decode b_Store_load 78 = .ok (.goto 4, 3) := by decide +kernel
theorem d_Store_load_92 : decode b_Store_load 92 = .ok (.aload_n 0, 1) := by decide +kernel
theorem d_Store_load_93 : decode b_Store_load 93 = .ok (.aload_n 1, 1) := by decide +kernel
theorem d_Store_load_94 : decode b_Store_load 94 = .ok (.iload_n 2, 1) := by decide +kernel
theorem d_Store_load_95 : decode b_Store_load 95 = .ok (.iload 5, 2) := by decide +kernel
theorem d_Store_load_97 : decode b_Store_load 97 = .ok (.ifCond .eq 7, 3) := by decide +kernel
theorem d_Store_load_100 : decode b_Store_load 100 = .ok (.iconst 0, 1) := by decide +kernel
theorem d_Store_load_101 : decode b_Store_load 101 = .ok (.goto 4, 3) := by decide +kernel
theorem d_Store_load_104 : decode b_Store_load 104 = .ok (.iconst 1, 1) := by decide +kernel
theorem d_Store_load_105 : decode b_Store_load 105 = .ok (.invokevirtual 130, 3) := by decide +kernel
theorem d_Store_load_108 : decode b_Store_load 108 = .ok (.ireturn, 1) := by decide +kernel
theorem d_Store_load_114 : decode b_Store_load 114 = .ok (.iload_n 3, 1) := by decide +kernel
theorem d_Store_load_115 : decode b_Store_load 115 = .ok (.sipush 239, 3) := by decide +kernel
theorem d_Store_load_118 : decode b_Store_load 118 = .ok (.if_icmp .ne 28, 3) := by decide +kernel
theorem d_Store_load_121 : decode b_Store_load 121 = .ok (.iload 4, 2) := by decide +kernel
theorem d_Store_load_123 : decode b_Store_load 123 = .ok (.sipush 187, 3) := by decide +kernel
theorem d_Store_load_126 : decode b_Store_load 126 = .ok (.if_icmp .ne 20, 3) := by decide +kernel
theorem d_Store_load_129 : decode b_Store_load 129 = .ok (.aload_n 1, 1) := by decide +kernel
theorem d_Store_load_130 : decode b_Store_load 130 = .ok (.iconst 2, 1) := by decide +kernel
theorem d_Store_load_131 : decode b_Store_load 131 = .ok (.baload, 1) := by decide +kernel
theorem d_Store_load_132 : decode b_Store_load 132 = .ok (.sipush 255, 3) := by decide +kernel
theorem d_Store_load_135 : decode b_Store_load 135 = .ok (.iand, 1) := by decide +kernel
theorem d_Store_load_136 : decode b_Store_load 136 = .ok (.sipush 191, 3) := by decide +kernel
theorem d_Store_load_139 : decode b_Store_load 139 = .ok (.if_icmp .ne 7, 3) := by decide +kernel
theorem d_Store_load_142 : decode b_Store_load 142 = .ok (.iconst 1, 1) := by decide +kernel
theorem d_Store_load_143 : decode b_Store_load 143 = .ok (.goto 4, 3) := by decide +kernel
theorem d_Store_load_157 : decode b_Store_load 157 = .ok (.iconst 3, 1) := by decide +kernel
theorem d_Store_load_158 : decode b_Store_load 158 = .ok (.goto 4, 3) := by decide +kernel
/-- Store_load -/
def w_Store_load (L : Nat → Nat) (a1 : Nat) (a2 : Int) (Q : Int → IS → Prop) (σ : IS) : Prop := ((0 < a2 → inL L a1 0)) ∧ ((1 < a2 → inL L a1 1)) ∧ LETI (if (if 0 < a2 then (ia (σ.2 a1 (Int.toNat 0)) 255) else (0 : Int)) = 254 then (if (if 1 < a2 then (ia (σ.2 a1 (Int.toNat 1)) 255) else (0 : Int)) = 255 then (1 : Int) else (0 : Int)) else (0 : Int)) (fun t3 => if (if t3 = 0 then (if (if 0 < a2 then (ia (σ.2 a1 (Int.toNat 0)) 255) else (0 : Int)) = 255 then (if (if 1 < a2 then (ia (σ.2 a1 (Int.toNat 1)) 255) else (0 : Int)) = 254 then (1 : Int) else (0 : Int)) else (0 : Int)) else (1 : Int)) = 0 then ((2 < a2 → ((if 0 < a2 then (ia (σ.2 a1 (Int.toNat 0)) 255) else (0 : Int)) = 239 → ((if 1 < a2 then (ia (σ.2 a1 (Int.toNat 1)) 255) else (0 : Int)) = 187 → inL L a1 2)))) ∧ LETI (if 2 < a2 then (if (if 0 < a2 then (ia (σ.2 a1 (Int.toNat 0)) 255) else (0 : Int)) = 239 then (if (if 1 < a2 then (ia (σ.2 a1 (Int.toNat 1)) 255) else (0 : Int)) = 187 then (if (ia (σ.2 a1 (Int.toNat 2)) 255) = 191 then (1 : Int) else (0 : Int)) else (0 : Int)) else (0 : Int)) else (0 : Int)) (fun t7 => w_Store_loadNarrow L a1 a2 (if t7 = 0 then (0 : Int) else (3 : Int)) (fun v10 σ9 => Q v10 σ9) (pf σ 1 5 (if t3 = 0 then (if (if 0 < a2 then (ia (σ.2 a1 (Int.toNat 0)) 255) else (0 : Int)) = 255 then (if (if 1 < a2 then (ia (σ.2 a1 (Int.toNat 1)) 255) else (0 : Int)) = 254 then (1 : Int) else (0 : Int)) else (0 : Int)) else (1 : Int)))) else w_Store_loadWide L a1 a2 (if t3 = 0 then (1 : Int) else (0 : Int)) (fun v33 σ32 => Q v33 σ32) (pf σ 1 5 (if t3 = 0 then (if (if 0 < a2 then (ia (σ.2 a1 (Int.toNat 0)) 255) else (0 : Int)) = 255 then (if (if 1 < a2 then (ia (σ.2 a1 (Int.toNat 1)) 255) else (0 : Int)) = 254 then (1 : Int) else (0 : Int)) else (0 : Int)) else (1 : Int))))
set_option maxHeartbeats 4000000 in
set_option maxRecDepth 20000 in
theorem s_Store_load {L : Nat → Nat} (hL : ∀ r, L r < 2147483648) {d : Nat} (hd : 3 ≤ d) {a1 : Nat} {a2 : Int} {Q : Int → IS → Prop} {σ : IS} (ha1 : rwB BF a1) (h : w_Store_load L a1 a2 Q σ) : OkI BF L d 1 b_Store_load 7 1 0 [] [some (.inr 1), some (.inr a1), some (.inl a2)] σ (qi Q) := by
  unfold w_Store_load at h
  obtain ⟨d, rfl⟩ : ∃ e, d = e + 1 := ⟨d - 1, by omega⟩
  refine k_sb (lv' := [some (.inr 1), some (.inr a1), some (.inl a2), none, none, none, none]) (sb_s (sb_s (sb_s (sb_e (sb_e (sb_e (sb_e sb_nil))))))) ?_
  refine k_iload_n d_Store_load_0 rfl ?_
  obtain ⟨pt62, h⟩ := h
  have hV61 : OkI BF L (d + 1) 1 b_Store_load 7 1 15 [.inl (if 0 < a2 then (ia (σ.2 a1 (Int.toNat 0)) 255) else (0 : Int))] [some (.inr 1), some (.inr a1), some (.inl a2), none, none, none, none] σ (qi Q) := by
    refine k_istore_n (lv' := [some (.inr 1), some (.inr a1), some (.inl a2), some (.inl (if 0 < a2 then (ia (σ.2 a1 (Int.toNat 0)) 255) else (0 : Int))), none, none, none]) d_Store_load_15 rfl rfl ?_
    refine k_iload_n d_Store_load_16 rfl ?_
    refine k_iconst d_Store_load_17 cI_1 ?_
    obtain ⟨pt56, h⟩ := h
    have hV55 : OkI BF L (d + 1) 1 b_Store_load 7 1 32 [.inl (if 1 < a2 then (ia (σ.2 a1 (Int.toNat 1)) 255) else (0 : Int))] [some (.inr 1), some (.inr a1), some (.inl a2), some (.inl (if 0 < a2 then (ia (σ.2 a1 (Int.toNat 0)) 255) else (0 : Int))), none, none, none] σ (qi Q) := by
      refine k_istore (lv' := [some (.inr 1), some (.inr a1), some (.inl a2), some (.inl (if 0 < a2 then (ia (σ.2 a1 (Int.toNat 0)) 255) else (0 : Int))), some (.inl (if 1 < a2 then (ia (σ.2 a1 (Int.toNat 1)) 255) else (0 : Int))), none, none]) d_Store_load_32 rfl rfl ?_
      refine k_iload_n d_Store_load_34 rfl ?_
      refine k_sipush d_Store_load_35 cS_254 ?_
      have hV48 : OkI BF L (d + 1) 1 b_Store_load 7 1 54 [.inl (if (if 0 < a2 then (ia (σ.2 a1 (Int.toNat 0)) 255) else (0 : Int)) = 254 then (if (if 1 < a2 then (ia (σ.2 a1 (Int.toNat 1)) 255) else (0 : Int)) = 255 then (1 : Int) else (0 : Int)) else (0 : Int))] [some (.inr 1), some (.inr a1), some (.inl a2), some (.inl (if 0 < a2 then (ia (σ.2 a1 (Int.toNat 0)) 255) else (0 : Int))), some (.inl (if 1 < a2 then (ia (σ.2 a1 (Int.toNat 1)) 255) else (0 : Int))), none, none] σ (qi Q) := by
        refine k_letI (fun t3 ht4 h => ?_) h
        refine k_istore (lv' := [some (.inr 1), some (.inr a1), some (.inl a2), some (.inl (if 0 < a2 then (ia (σ.2 a1 (Int.toNat 0)) 255) else (0 : Int))), some (.inl (if 1 < a2 then (ia (σ.2 a1 (Int.toNat 1)) 255) else (0 : Int))), some (.inl t3), none]) d_Store_load_54 rfl rfl ?_
        refine k_aload_n d_Store_load_56 rfl ?_
        refine k_iload d_Store_load_57 rfl ?_
        have hV38 : OkI BF L (d + 1) 1 b_Store_load 7 1 82 [.inl (if t3 = 0 then (if (if 0 < a2 then (ia (σ.2 a1 (Int.toNat 0)) 255) else (0 : Int)) = 255 then (if (if 1 < a2 then (ia (σ.2 a1 (Int.toNat 1)) 255) else (0 : Int)) = 254 then (1 : Int) else (0 : Int)) else (0 : Int)) else (1 : Int)), .inr 1] [some (.inr 1), some (.inr a1), some (.inl a2), some (.inl (if 0 < a2 then (ia (σ.2 a1 (Int.toNat 0)) 255) else (0 : Int))), some (.inl (if 1 < a2 then (ia (σ.2 a1 (Int.toNat 1)) 255) else (0 : Int))), some (.inl t3), none] σ (qi Q) := by
          refine k_putZ d_Store_load_82 fl_1_127 ob_1 rfl (it01 (it01 (it01 (Or.inr rfl) (Or.inl rfl)) (Or.inl rfl)) (Or.inr rfl)) ?_
          refine k_aload_n d_Store_load_85 rfl ?_
          refine k_getI (x := (if t3 = 0 then (if (if 0 < a2 then (ia (σ.2 a1 (Int.toNat 0)) 255) else (0 : Int)) = 255 then (if (if 1 < a2 then (ia (σ.2 a1 (Int.toNat 1)) 255) else (0 : Int)) = 254 then (1 : Int) else (0 : Int)) else (0 : Int)) else (1 : Int))) d_Store_load_86 fl_1_127 ob_1 rfl rfl ?_
          refine k_ifeq d_Store_load_89 rfl (fun c5 => ?_) (fun c5 => ?_)
          · have h := ipos c5 h
            refine k_iload_n d_Store_load_109 rfl ?_
            refine k_iconst d_Store_load_110 cI_2 ?_
            obtain ⟨pt16, h⟩ := h
            have hV15 : OkI BF L (d + 1) 1 b_Store_load 7 1 147 [.inl (if 2 < a2 then (if (if 0 < a2 then (ia (σ.2 a1 (Int.toNat 0)) 255) else (0 : Int)) = 239 then (if (if 1 < a2 then (ia (σ.2 a1 (Int.toNat 1)) 255) else (0 : Int)) = 187 then (if (ia (σ.2 a1 (Int.toNat 2)) 255) = 191 then (1 : Int) else (0 : Int)) else (0 : Int)) else (0 : Int)) else (0 : Int))] [some (.inr 1), some (.inr a1), some (.inl a2), some (.inl (if 0 < a2 then (ia (σ.2 a1 (Int.toNat 0)) 255) else (0 : Int))), some (.inl (if 1 < a2 then (ia (σ.2 a1 (Int.toNat 1)) 255) else (0 : Int))), some (.inl t3), none] (pf σ 1 5 (if t3 = 0 then (if (if 0 < a2 then (ia (σ.2 a1 (Int.toNat 0)) 255) else (0 : Int)) = 255 then (if (if 1 < a2 then (ia (σ.2 a1 (Int.toNat 1)) 255) else (0 : Int)) = 254 then (1 : Int) else (0 : Int)) else (0 : Int)) else (1 : Int))) (qi Q) := by
              refine k_letI (fun t7 ht8 h => ?_) h
              refine k_istore (lv' := [some (.inr 1), some (.inr a1), some (.inl a2), some (.inl (if 0 < a2 then (ia (σ.2 a1 (Int.toNat 0)) 255) else (0 : Int))), some (.inl (if 1 < a2 then (ia (σ.2 a1 (Int.toNat 1)) 255) else (0 : Int))), some (.inl t3), some (.inl t7)]) d_Store_load_147 rfl rfl ?_
              refine k_aload_n d_Store_load_149 rfl ?_
              refine k_aload_n d_Store_load_150 rfl ?_
              refine k_iload_n d_Store_load_151 rfl ?_
              refine k_iload d_Store_load_152 rfl ?_
              have hV11 : OkI BF L (d + 1) 1 b_Store_load 7 1 162 [.inl (if t7 = 0 then (0 : Int) else (3 : Int)), .inl a2, .inr a1, .inr 1] [some (.inr 1), some (.inr a1), some (.inl a2), some (.inl (if 0 < a2 then (ia (σ.2 a1 (Int.toNat 0)) 255) else (0 : Int))), some (.inl (if 1 < a2 then (ia (σ.2 a1 (Int.toNat 1)) 255) else (0 : Int))), some (.inl t3), some (.inl t7)] (pf σ 1 5 (if t3 = 0 then (if (if 0 < a2 then (ia (σ.2 a1 (Int.toNat 0)) 255) else (0 : Int)) = 255 then (if (if 1 < a2 then (ia (σ.2 a1 (Int.toNat 1)) 255) else (0 : Int)) = 254 then (1 : Int) else (0 : Int)) else (0 : Int)) else (1 : Int))) (qi Q) := by
                refine k_cvi [.inr a1, .inl a2, .inl (if t7 = 0 then (0 : Int) else (3 : Int))] d_Store_load_162 ml_1_134 rfl rfl ob_1 rfl (s_Store_loadNarrow hL (by omega) ha1 h) (fun v10 σ9 h => ?_)
                exact k_iret d_Store_load_165 (Or.inl rfl) h
              refine k_ifeq d_Store_load_154 rfl (fun c12 => ?_) (fun c12 => ?_)
              · have hV13 := k_eqI (if_pos c12) hV11
                refine k_iconst d_Store_load_161 cI_0 ?_
                exact hV13
              · have hV14 := k_eqI (if_neg c12) hV11
                refine k_iconst d_Store_load_157 cI_3 ?_
                refine k_goto d_Store_load_158 rfl ?_
                exact hV14
            have pa17 := pt16
            refine k_icle d_Store_load_111 rfl (fun c18 => ?_) (fun c18 => ?_)
            · have hV31 := k_eqI (if_neg c18) hV15
              refine k_iconst d_Store_load_146 cI_0 ?_
              exact hV31
            · have pa17 := pa17 c18
              have hV19 := k_eqI (if_pos c18) hV15
              have pa20 := pa17
              refine k_iload_n d_Store_load_114 rfl ?_
              refine k_sipush d_Store_load_115 cS_239 ?_
              refine k_icne d_Store_load_118 rfl (fun c21 => ?_) (fun c21 => ?_)
              · have hV30 := k_eqI (if_neg c21) hV19
                refine k_iconst d_Store_load_146 cI_0 ?_
                exact hV30
              · have pa20 := pa20 c21
                have hV22 := k_eqI (if_pos c21) hV19
                have pa23 := pa20
                refine k_iload d_Store_load_121 rfl ?_
                refine k_sipush d_Store_load_123 cS_187 ?_
                refine k_icne d_Store_load_126 rfl (fun c24 => ?_) (fun c24 => ?_)
                · have hV29 := k_eqI (if_neg c24) hV22
                  refine k_iconst d_Store_load_146 cI_0 ?_
                  exact hV29
                · have pa23 := pa23 c24
                  have hV25 := k_eqI (if_pos c24) hV22
                  have p6 := pa23
                  refine k_aload_n d_Store_load_129 rfl ?_
                  refine k_iconst d_Store_load_130 cI_2 ?_
                  refine k_bld (x := (σ.2 a1 (Int.toNat 2))) d_Store_load_131 ha1 p6 rfl ?_
                  refine k_sipush d_Store_load_132 cS_255 ?_
                  refine k_iand d_Store_load_135 ?_
                  refine k_sipush d_Store_load_136 cS_191 ?_
                  refine k_icne d_Store_load_139 rfl (fun c26 => ?_) (fun c26 => ?_)
                  · have hV28 := k_eqI (if_neg c26) hV25
                    refine k_iconst d_Store_load_146 cI_0 ?_
                    exact hV28
                  · have hV27 := k_eqI (if_pos c26) hV25
                    refine k_iconst d_Store_load_142 cI_1 ?_
                    refine k_goto d_Store_load_143 rfl ?_
                    exact hV27
          · have h := ineg c5 h
            refine k_aload_n d_Store_load_92 rfl ?_
            refine k_aload_n d_Store_load_93 rfl ?_
            refine k_iload_n d_Store_load_94 rfl ?_
            refine k_iload d_Store_load_95 rfl ?_
            have hV34 : OkI BF L (d + 1) 1 b_Store_load 7 1 105 [.inl (if t3 = 0 then (1 : Int) else (0 : Int)), .inl a2, .inr a1, .inr 1] [some (.inr 1), some (.inr a1), some (.inl a2), some (.inl (if 0 < a2 then (ia (σ.2 a1 (Int.toNat 0)) 255) else (0 : Int))), some (.inl (if 1 < a2 then (ia (σ.2 a1 (Int.toNat 1)) 255) else (0 : Int))), some (.inl t3), none] (pf σ 1 5 (if t3 = 0 then (if (if 0 < a2 then (ia (σ.2 a1 (Int.toNat 0)) 255) else (0 : Int)) = 255 then (if (if 1 < a2 then (ia (σ.2 a1 (Int.toNat 1)) 255) else (0 : Int)) = 254 then (1 : Int) else (0 : Int)) else (0 : Int)) else (1 : Int))) (qi Q) := by
              refine k_cvi [.inr a1, .inl a2, .inl (if t3 = 0 then (1 : Int) else (0 : Int))] d_Store_load_105 ml_1_130 rfl rfl ob_1 rfl (s_Store_loadWide hL (by omega) ha1 h) (fun v33 σ32 h => ?_)
              exact k_iret d_Store_load_108 (Or.inl rfl) h
            refine k_ifeq d_Store_load_97 rfl (fun c35 => ?_) (fun c35 => ?_)
            · have hV36 := k_eqI (if_pos c35) hV34
              refine k_iconst d_Store_load_104 cI_1 ?_
              exact hV36
            · have hV37 := k_eqI (if_neg c35) hV34
              refine k_iconst d_Store_load_100 cI_0 ?_
              refine k_goto d_Store_load_101 rfl ?_
              exact hV37
        refine k_ifne d_Store_load_59 rfl (fun c39 => ?_) (fun c39 => ?_)
        · have hV47 := k_eqI (if_neg c39) hV38
          refine k_iconst d_Store_load_77 cI_1 ?_
          refine k_goto d_Store_load_78 rfl ?_
          exact hV47
        · have hV40 := k_eqI (if_pos c39) hV38
          refine k_iload_n d_Store_load_62 rfl ?_
          refine k_sipush d_Store_load_63 cS_255 ?_
          refine k_icne d_Store_load_66 rfl (fun c41 => ?_) (fun c41 => ?_)
          · have hV46 := k_eqI (if_neg c41) hV40
            refine k_iconst d_Store_load_81 cI_0 ?_
            exact hV46
          · have hV42 := k_eqI (if_pos c41) hV40
            refine k_iload d_Store_load_69 rfl ?_
            refine k_sipush d_Store_load_71 cS_254 ?_
            refine k_icne d_Store_load_74 rfl (fun c43 => ?_) (fun c43 => ?_)
            · have hV45 := k_eqI (if_neg c43) hV42
              refine k_iconst d_Store_load_81 cI_0 ?_
              exact hV45
            · have hV44 := k_eqI (if_pos c43) hV42
              refine k_iconst d_Store_load_77 cI_1 ?_
              refine k_goto d_Store_load_78 rfl ?_
              exact hV44
      refine k_icne d_Store_load_38 rfl (fun c49 => ?_) (fun c49 => ?_)
      · have hV54 := k_eqI (if_neg c49) hV48
        refine k_iconst d_Store_load_53 cI_0 ?_
        exact hV54
      · have hV50 := k_eqI (if_pos c49) hV48
        refine k_iload d_Store_load_41 rfl ?_
        refine k_sipush d_Store_load_43 cS_255 ?_
        refine k_icne d_Store_load_46 rfl (fun c51 => ?_) (fun c51 => ?_)
        · have hV53 := k_eqI (if_neg c51) hV50
          refine k_iconst d_Store_load_53 cI_0 ?_
          exact hV53
        · have hV52 := k_eqI (if_pos c51) hV50
          refine k_iconst d_Store_load_49 cI_1 ?_
          refine k_goto d_Store_load_50 rfl ?_
          exact hV52
    have pa57 := pt56
    refine k_icle d_Store_load_18 rfl (fun c58 => ?_) (fun c58 => ?_)
    · have hV60 := k_eqI (if_neg c58) hV55
      refine k_iconst d_Store_load_31 cI_0 ?_
      exact hV60
    · have pa57 := pa57 c58
      have hV59 := k_eqI (if_pos c58) hV55
      have p2 := pa57
      refine k_aload_n d_Store_load_21 rfl ?_
      refine k_iconst d_Store_load_22 cI_1 ?_
      refine k_bld (x := (σ.2 a1 (Int.toNat 1))) d_Store_load_23 ha1 p2 rfl ?_
      refine k_sipush d_Store_load_24 cS_255 ?_
      refine k_iand d_Store_load_27 ?_
      refine k_goto d_Store_load_28 rfl ?_
      exact hV59
  have pa63 := pt62
  refine k_ifle d_Store_load_1 rfl (fun c64 => ?_) (fun c64 => ?_)
  · have hV66 := k_eqI (if_neg c64) hV61
    refine k_iconst d_Store_load_14 cI_0 ?_
    exact hV66
  · have pa63 := pa63 c64
    have hV65 := k_eqI (if_pos c64) hV61
    have p1 := pa63
    refine k_aload_n d_Store_load_4 rfl ?_
    refine k_iconst d_Store_load_5 cI_0 ?_
    refine k_bld (x := (σ.2 a1 (Int.toNat 0))) d_Store_load_6 ha1 p1 rfl ?_
    refine k_sipush d_Store_load_7 cS_255 ?_
    refine k_iand d_Store_load_10 ?_
    refine k_goto d_Store_load_11 rfl ?_
    exact hV65
/-- Reader_start -/
def w_Reader_start (L : Nat → Nat)  (Q : IS → Prop) (σ : IS) : Prop := Q (pf (pf (pf (pf (pf σ 2 2 (σ.1 1 2)) 2 3 (σ.1 1 3)) 2 4 0) 2 5 0) 2 6 0)
set_option maxHeartbeats 4000000 in
set_option maxRecDepth 20000 in
theorem s_Reader_start {L : Nat → Nat} (hL : ∀ r, L r < 2147483648) {d : Nat} (hd : 0 ≤ d)  {Q : IS → Prop} {σ : IS}  (h : w_Reader_start L  Q σ) : OkI BF L d 2 b_Reader_start 1 0 0 [] [some (.inr 2)] σ (qv Q) := by
  unfold w_Reader_start at h
  refine k_sb (lv' := [some (.inr 2)]) (sb_s sb_nil) ?_
  refine k_aload_n d_Reader_start_0 rfl ?_
  refine k_aload_n d_Reader_start_1 rfl ?_
  refine k_getR d_Reader_start_2 fl_2_9 ob_2 rfl ?_
  refine k_getI (x := (σ.1 1 2)) d_Reader_start_5 fl_2_22 ob_1 rfl rfl ?_
  refine k_putI d_Reader_start_8 fl_2_26 ob_2 rfl ?_
  refine k_aload_n d_Reader_start_11 rfl ?_
  refine k_aload_n d_Reader_start_12 rfl ?_
  refine k_getR d_Reader_start_13 fl_2_9 ob_2 rfl ?_
  refine k_getI (x := (σ.1 1 3)) d_Reader_start_16 fl_2_29 ob_1 rfl rfl ?_
  refine k_putI d_Reader_start_19 fl_2_32 ob_2 rfl ?_
  refine k_aload_n d_Reader_start_22 rfl ?_
  refine k_iconst d_Reader_start_23 cI_0 ?_
  refine k_putI d_Reader_start_24 fl_2_35 ob_2 rfl ?_
  refine k_aload_n d_Reader_start_27 rfl ?_
  refine k_iconst d_Reader_start_28 cI_0 ?_
  refine k_putI d_Reader_start_29 fl_2_38 ob_2 rfl ?_
  refine k_aload_n d_Reader_start_32 rfl ?_
  refine k_iconst d_Reader_start_33 cI_0 ?_
  refine k_putI d_Reader_start_34 fl_2_41 ob_2 rfl ?_
  exact k_ret d_Reader_start_37 h
/-- Reader_fail -/
def w_Reader_fail (L : Nat → Nat) (a1 : Int) (Q : IS → Prop) (σ : IS) : Prop := WJ (fun (s3 : Unit) (σ4 : IS) => Q σ4) (fun J1 => if (σ.1 2 4) = 0 then J1 () (pf σ 2 4 a1) else J1 () σ)
set_option maxHeartbeats 4000000 in
set_option maxRecDepth 20000 in
theorem s_Reader_fail {L : Nat → Nat} (hL : ∀ r, L r < 2147483648) {d : Nat} (hd : 0 ≤ d) {a1 : Int} {Q : IS → Prop} {σ : IS}  (h : w_Reader_fail L a1 Q σ) : OkI BF L d 2 b_Reader_fail 2 0 0 [] [some (.inr 2), some (.inl a1)] σ (qv Q) := by
  unfold w_Reader_fail at h
  refine k_sb (lv' := [some (.inr 2), some (.inl a1)]) (sb_s (sb_s sb_nil)) ?_
  refine k_aload_n d_Reader_fail_0 rfl ?_
  refine k_getI (x := (σ.1 2 4)) d_Reader_fail_1 fl_2_35 ob_2 rfl rfl ?_
  refine k_join (S := Unit) (pc' := 12) (st' := fun s3 => []) (lv' := fun s3 => [none, none]) (fun s3 σ4 h => ?_) (fun J1 hJ2 h => ?_) h
  · exact k_ret d_Reader_fail_12 h
  · refine k_ifne d_Reader_fail_4 rfl (fun c5 => ?_) (fun c5 => ?_)
    · have h := ineg c5 h
      exact k_sb (sb_n (sb_n sb_nil)) (hJ2 () _ h)
    · have h := ipos c5 h
      refine k_aload_n d_Reader_fail_7 rfl ?_
      refine k_iload_n d_Reader_fail_8 rfl ?_
      refine k_putI d_Reader_fail_9 fl_2_35 ob_2 rfl ?_
      exact k_sb (sb_n (sb_n sb_nil)) (hJ2 () _ h)
/-- Entities_start -/
def w_Entities_start (L : Nat → Nat)  (Q : IS → Prop) (σ : IS) : Prop := Q (pf σ 3 13 (σ.1 1 4))
set_option maxHeartbeats 4000000 in
set_option maxRecDepth 20000 in
theorem s_Entities_start {L : Nat → Nat} (hL : ∀ r, L r < 2147483648) {d : Nat} (hd : 0 ≤ d)  {Q : IS → Prop} {σ : IS}  (h : w_Entities_start L  Q σ) : OkI BF L d 3 b_Entities_start 1 0 0 [] [some (.inr 3)] σ (qv Q) := by
  unfold w_Entities_start at h
  refine k_sb (lv' := [some (.inr 3)]) (sb_s sb_nil) ?_
  refine k_aload_n d_Entities_start_0 rfl ?_
  refine k_aload_n d_Entities_start_1 rfl ?_
  refine k_getR d_Entities_start_2 fl_3_9 ob_3 rfl ?_
  refine k_getI (x := (σ.1 1 4)) d_Entities_start_5 fl_3_79 ob_1 rfl rfl ?_
  refine k_putI d_Entities_start_8 fl_3_82 ob_3 rfl ?_
  exact k_ret d_Entities_start_11 h
theorem d_Reader_at_20 : decode b_Reader_at 20 = .ok (.iconst 0, 1) := by decide +kernel
theorem d_Reader_at_21 : decode b_Reader_at 21 = .ok (.istore_n 3, 1) := by decide +kernel
theorem d_Reader_at_22 : decode b_Reader_at 22 = .ok (.iload_n 3, 1) := by decide +kernel
theorem d_Reader_at_23 : decode b_Reader_at 23 = .ok (.iload_n 2, 1) := by decide +kernel
theorem d_Reader_at_24 : decode b_Reader_at 24 = .ok (.if_icmp .ge 30, 3) := by decide +kernel
theorem d_Reader_at_27 : decode b_Reader_at 27 = .ok (.aload_n 0, 1) := by decide +kernel
theorem d_Reader_at_28 : decode b_Reader_at 28 = .ok (.getfield 21, 3) := by decide +kernel
theorem d_Reader_at_31 : decode b_Reader_at 31 = .ok (.aload_n 0, 1) := by decide +kernel
theorem d_Reader_at_32 : decode b_Reader_at 32 = .ok (.getfield 26, 3) := by decide +kernel
theorem d_Reader_at_35 : decode b_Reader_at 35 = .ok (.iload_n 3, 1) := by decide +kernel
theorem d_Reader_at_36 : decode b_Reader_at 36 = .ok (.iadd, 1) := by decide +kernel
theorem d_Reader_at_37 : decode b_Reader_at 37 = .ok (.iaload, 1) := by decide +kernel
theorem d_Reader_at_38 : decode b_Reader_at 38 = .ok (.aload_n 1, 1) := by decide +kernel
theorem d_Reader_at_39 : decode b_Reader_at 39 = .ok (.iload_n 3, 1) := by decide +kernel
theorem d_Reader_at_40 : decode b_Reader_at 40 = .ok (.invokevirtual 58, 3) := by decide +kernel
theorem d_Reader_at_43 : decode b_Reader_at 43 = .ok (.if_icmp .eq 5, 3) := by decide +kernel
theorem d_Reader_at_46 : decode b_Reader_at 46 = .ok (.iconst 0, 1) := by decide +kernel
theorem d_Reader_at_47 : decode b_Reader_at 47 = .ok (.ireturn, 1) := by decide +kernel
theorem d_Reader_at_48 : decode b_Reader_at 48 = .ok (.iinc 3 1, 3) := by decide +kernel
theorem d_Reader_at_51 : decode b_Reader_at 51 = .ok (.goto (-29), 3) := by decide +kernel
theorem d_Reader_at_54 : decode b_Reader_at 54 = .ok (.iconst 1, 1) := by decide +kernel
theorem d_Reader_at_55 : decode b_Reader_at 55 = .ok (.ireturn, 1) := by decide +kernel
/-- Reader_at -/
def w_Reader_at (L : Nat → Nat) (a1 : Nat) (Q : Int → IS → Prop) (σ : IS) : Prop := inR ((σ.1 2 3) - (σ.1 2 2)) ∧ if ((σ.1 2 3) - (σ.1 2 2)) < (tN a1) then Q 0 σ else WL (fun (K2 : Int → IS → Prop) (s4 : Int) (σ5 : IS) => if s4 < (tN a1) then inR ((σ5.1 2 2) + s4) ∧ inL L 101 ((σ5.1 2 2) + s4) ∧ ((0 : Int) ≤ s4 ∧ s4 < tN a1) ∧ if (σ5.2 101 (Int.toNat ((σ5.1 2 2) + s4))) = (tC a1 s4) then inR (s4 + 1) ∧ K2 (s4 + 1) σ5 else Q 0 σ5 else Q 1 σ5) 0 σ
set_option maxHeartbeats 4000000 in
set_option maxRecDepth 20000 in
theorem s_Reader_at {L : Nat → Nat} (hL : ∀ r, L r < 2147483648) {d : Nat} (hd : 0 ≤ d) {a1 : Nat} {Q : Int → IS → Prop} {σ : IS} (ha1 : isT a1) (h : w_Reader_at L a1 Q σ) : OkI BF L d 2 b_Reader_at 4 2 0 [] [some (.inr 2), some (.inr a1)] σ (qi Q) := by
  unfold w_Reader_at at h
  refine k_sb (lv' := [some (.inr 2), some (.inr a1), none, none]) (sb_s (sb_s (sb_e (sb_e sb_nil)))) ?_
  refine k_aload_n d_Reader_at_0 rfl ?_
  refine k_tlen d_Reader_at_1 ml_2_52 ha1 rfl ?_
  refine k_istore_n (lv' := [some (.inr 2), some (.inr a1), some (.inl (tN a1)), none]) d_Reader_at_4 rfl rfl ?_
  refine k_aload_n d_Reader_at_5 rfl ?_
  refine k_getI (x := (σ.1 2 3)) d_Reader_at_6 fl_2_32 ob_2 rfl rfl ?_
  refine k_aload_n d_Reader_at_9 rfl ?_
  refine k_getI (x := (σ.1 2 2)) d_Reader_at_10 fl_2_26 ob_2 rfl rfl ?_
  obtain ⟨p12, h⟩ := h
  refine k_isub d_Reader_at_13 p12 ?_
  refine k_iload_n d_Reader_at_14 rfl ?_
  refine k_icge d_Reader_at_15 rfl (fun c1 => ?_) (fun c1 => ?_)
  · have h := ineg c1 h
    refine k_iconst d_Reader_at_20 cI_0 ?_
    refine k_istore_n (lv' := [some (.inr 2), some (.inr a1), some (.inl (tN a1)), some (.inl 0)]) d_Reader_at_21 rfl rfl ?_
    refine k_sb (lv' := [some (.inr 2), some (.inr a1), some (.inl (tN a1)), some (.inl 0)]) (sb_s (sb_s (sb_s (sb_s sb_nil)))) ?_
    refine k_loop (S := Int) (st := fun _ => []) (lv := fun s4 => [some (.inr 2), some (.inr a1), some (.inl (tN a1)), some (.inl s4)]) (fun K2 hK3 s4 σ5 h => ?_) 0 _ h
    refine k_iload_n d_Reader_at_22 rfl ?_
    refine k_iload_n d_Reader_at_23 rfl ?_
    refine k_icge d_Reader_at_24 rfl (fun c6 => ?_) (fun c6 => ?_)
    · have h := ineg c6 h
      refine k_iconst d_Reader_at_54 cI_1 ?_
      exact k_iret d_Reader_at_55 (Or.inr ⟨rfl, Or.inr rfl⟩) h
    · have h := ipos c6 h
      refine k_aload_n d_Reader_at_27 rfl ?_
      refine k_getR d_Reader_at_28 fl_2_21 ob_2 rfl ?_
      refine k_aload_n d_Reader_at_31 rfl ?_
      refine k_getI (x := (σ5.1 2 2)) d_Reader_at_32 fl_2_26 ob_2 rfl rfl ?_
      refine k_iload_n d_Reader_at_35 rfl ?_
      obtain ⟨p11, h⟩ := h
      refine k_iadd d_Reader_at_36 p11 ?_
      obtain ⟨p10, h⟩ := h
      refine k_ild (x := (σ5.2 101 (Int.toNat ((σ5.1 2 2) + s4)))) d_Reader_at_37 rI_101 p10 rfl ?_
      refine k_aload_n d_Reader_at_38 rfl ?_
      refine k_iload_n d_Reader_at_39 rfl ?_
      obtain ⟨p9, h⟩ := h
      refine k_tchr d_Reader_at_40 ml_2_58 ha1 p9 rfl ?_
      refine k_iceq d_Reader_at_43 rfl (fun c7 => ?_) (fun c7 => ?_)
      · have h := ipos c7 h
        obtain ⟨p8, h⟩ := h
        refine k_iinc (lv' := [some (.inr 2), some (.inr a1), some (.inl (tN a1)), some (.inl (s4 + 1))]) d_Reader_at_48 cI_1 rfl rfl p8 rfl ?_
        refine k_goto d_Reader_at_51 rfl ?_
        exact k_sb (sb_s (sb_s (sb_s (sb_s sb_nil)))) (hK3 (s4 + 1) _ h)
      · have h := ineg c7 h
        refine k_iconst d_Reader_at_46 cI_0 ?_
        exact k_iret d_Reader_at_47 (Or.inr ⟨rfl, Or.inl rfl⟩) h
  · have h := ipos c1 h
    refine k_iconst d_Reader_at_18 cI_0 ?_
    exact k_iret d_Reader_at_19 (Or.inr ⟨rfl, Or.inl rfl⟩) h
theorem d_Reader_isSpace_0 : decode b_Reader_isSpace 0 = .ok (.iload_n 0, 1) := by decide +kernel
theorem d_Reader_isSpace_1 : decode b_Reader_isSpace 1 = .ok (.bipush 32, 2) := by decide +kernel
theorem d_Reader_isSpace_3 : decode b_Reader_isSpace 3 = .ok (.if_icmp .eq 21, 3) := by decide +kernel
theorem d_Reader_isSpace_6 : decode b_Reader_isSpace 6 = .ok (.iload_n 0, 1) := by decide +kernel
theorem d_Reader_isSpace_7 : decode b_Reader_isSpace 7 = .ok (.bipush 10, 2) := by decide +kernel
theorem d_Reader_isSpace_9 : decode b_Reader_isSpace 9 = .ok (.if_icmp .eq 15, 3) := by decide +kernel
theorem d_Reader_isSpace_12 : decode b_Reader_isSpace 12 = .ok (.iload_n 0, 1) := by decide +kernel
theorem d_Reader_isSpace_13 : decode b_Reader_isSpace 13 = .ok (.bipush 9, 2) := by decide +kernel
theorem d_Reader_isSpace_15 : decode b_Reader_isSpace 15 = .ok (.if_icmp .eq 9, 3) := by decide +kernel
theorem d_Reader_isSpace_18 : decode b_Reader_isSpace 18 = .ok (.iload_n 0, 1) := by decide +kernel
theorem d_Reader_isSpace_19 : decode b_Reader_isSpace 19 = .ok (.bipush 13, 2) := by decide +kernel
theorem d_Reader_isSpace_21 : decode b_Reader_isSpace 21 = .ok (.if_icmp .ne 7, 3) := by decide +kernel
theorem d_Reader_isSpace_24 : decode b_Reader_isSpace 24 = .ok (.iconst 1, 1) := by decide +kernel
theorem d_Reader_isSpace_25 : decode b_Reader_isSpace 25 = .ok (.goto 4, 3) := by decide +kernel
theorem d_Reader_isSpace_28 : decode b_Reader_isSpace 28 = .ok (.iconst 0, 1) := by decide +kernel
theorem d_Reader_isSpace_29 : decode b_Reader_isSpace 29 = .ok (.ireturn, 1) := by decide +kernel
/-- Reader_isSpace -/
def w_Reader_isSpace (L : Nat → Nat) (a0 : Int) (Q : Int → IS → Prop) (σ : IS) : Prop := Q (if a0 = 32 then (1 : Int) else (if a0 = 10 then (1 : Int) else (if a0 = 9 then (1 : Int) else (if a0 = 13 then (1 : Int) else (0 : Int))))) σ
set_option maxHeartbeats 4000000 in
set_option maxRecDepth 20000 in
theorem s_Reader_isSpace {L : Nat → Nat} (hL : ∀ r, L r < 2147483648) {d : Nat} (hd : 0 ≤ d) {a0 : Int} {Q : Int → IS → Prop} {σ : IS}  (h : w_Reader_isSpace L a0 Q σ) : OkI BF L d 2 b_Reader_isSpace 1 2 0 [] [some (.inl a0)] σ (qi Q) := by
  unfold w_Reader_isSpace at h
  refine k_sb (lv' := [some (.inl a0)]) (sb_s sb_nil) ?_
  refine k_iload_n d_Reader_isSpace_0 rfl ?_
  refine k_bipush d_Reader_isSpace_1 cB_32 ?_
  have hV1 : OkI BF L d 2 b_Reader_isSpace 1 2 29 [.inl (if a0 = 32 then (1 : Int) else (if a0 = 10 then (1 : Int) else (if a0 = 9 then (1 : Int) else (if a0 = 13 then (1 : Int) else (0 : Int)))))] [some (.inl a0)] σ (qi Q) := by
    exact k_iret d_Reader_isSpace_29 (Or.inr ⟨rfl, it01 (Or.inr rfl) (it01 (Or.inr rfl) (it01 (Or.inr rfl) (it01 (Or.inr rfl) (Or.inl rfl))))⟩) h
  refine k_iceq d_Reader_isSpace_3 rfl (fun c2 => ?_) (fun c2 => ?_)
  · have hV3 := k_eqI (if_pos c2) hV1
    refine k_iconst d_Reader_isSpace_24 cI_1 ?_
    refine k_goto d_Reader_isSpace_25 rfl ?_
    exact hV3
  · have hV4 := k_eqI (if_neg c2) hV1
    refine k_iload_n d_Reader_isSpace_6 rfl ?_
    refine k_bipush d_Reader_isSpace_7 cB_10 ?_
    refine k_iceq d_Reader_isSpace_9 rfl (fun c5 => ?_) (fun c5 => ?_)
    · have hV6 := k_eqI (if_pos c5) hV4
      refine k_iconst d_Reader_isSpace_24 cI_1 ?_
      refine k_goto d_Reader_isSpace_25 rfl ?_
      exact hV6
    · have hV7 := k_eqI (if_neg c5) hV4
      refine k_iload_n d_Reader_isSpace_12 rfl ?_
      refine k_bipush d_Reader_isSpace_13 cB_9 ?_
      refine k_iceq d_Reader_isSpace_15 rfl (fun c8 => ?_) (fun c8 => ?_)
      · have hV9 := k_eqI (if_pos c8) hV7
        refine k_iconst d_Reader_isSpace_24 cI_1 ?_
        refine k_goto d_Reader_isSpace_25 rfl ?_
        exact hV9
      · have hV10 := k_eqI (if_neg c8) hV7
        refine k_iload_n d_Reader_isSpace_18 rfl ?_
        refine k_bipush d_Reader_isSpace_19 cB_13 ?_
        refine k_icne d_Reader_isSpace_21 rfl (fun c11 => ?_) (fun c11 => ?_)
        · have hV13 := k_eqI (if_neg c11) hV10
          refine k_iconst d_Reader_isSpace_28 cI_0 ?_
          exact hV13
        · have hV12 := k_eqI (if_pos c11) hV10
          refine k_iconst d_Reader_isSpace_24 cI_1 ?_
          refine k_goto d_Reader_isSpace_25 rfl ?_
          exact hV12
theorem d_Reader_need_0 : decode b_Reader_need 0 = .ok (.aload_n 0, 1) := by decide +kernel
theorem d_Reader_need_1 : decode b_Reader_need 1 = .ok (.aload_n 1, 1) := by decide +kernel
theorem d_Reader_need_2 : decode b_Reader_need 2 = .ok (.invokevirtual 62, 3) := by decide +kernel
theorem d_Reader_need_5 : decode b_Reader_need 5 = .ok (.ifCond .eq 19, 3) := by decide +kernel
theorem d_Reader_need_8 : decode b_Reader_need 8 = .ok (.aload_n 0, 1) := by decide +kernel
theorem d_Reader_need_9 : decode b_Reader_need 9 = .ok (.dup, 1) := by decide +kernel
theorem d_Reader_need_10 : decode b_Reader_need 10 = .ok (.getfield 26, 3) := by decide +kernel
theorem d_Reader_need_13 : decode b_Reader_need 13 = .ok (.aload_n 1, 1) := by decide +kernel
theorem d_Reader_need_14 : decode b_Reader_need 14 = .ok (.invokevirtual 52, 3) := by decide +kernel
theorem d_Reader_need_17 : decode b_Reader_need 17 = .ok (.iadd, 1) := by decide +kernel
theorem d_Reader_need_18 : decode b_Reader_need 18 = .ok (.putfield 26, 3) := by decide +kernel
theorem d_Reader_need_21 : decode b_Reader_need 21 = .ok (.goto 8, 3) := by decide +kernel
theorem d_Reader_need_24 : decode b_Reader_need 24 = .ok (.aload_n 0, 1) := by decide +kernel
theorem d_Reader_need_25 : decode b_Reader_need 25 = .ok (.iconst 5, 1) := by decide +kernel
theorem d_Reader_need_26 : decode b_Reader_need 26 = .ok (.invokevirtual 66, 3) := by decide +kernel
theorem d_Reader_need_29 : decode b_Reader_need 29 = .ok (.return_, 1) := by decide +kernel
/-- Reader_need -/
def w_Reader_need (L : Nat → Nat) (a1 : Nat) (Q : IS → Prop) (σ : IS) : Prop := w_Reader_at L a1 (fun v2 σ1 => WJ (fun (s5 : Unit) (σ6 : IS) => Q σ6) (fun J3 => if v2 = 0 then w_Reader_fail L 5 (fun σ8 => J3 () σ8) σ1 else inR ((σ1.1 2 2) + (tN a1)) ∧ J3 () (pf σ1 2 2 ((σ1.1 2 2) + (tN a1))))) σ
set_option maxHeartbeats 4000000 in
set_option maxRecDepth 20000 in
theorem s_Reader_need {L : Nat → Nat} (hL : ∀ r, L r < 2147483648) {d : Nat} (hd : 1 ≤ d) {a1 : Nat} {Q : IS → Prop} {σ : IS} (ha1 : isT a1) (h : w_Reader_need L a1 Q σ) : OkI BF L d 2 b_Reader_need 2 0 0 [] [some (.inr 2), some (.inr a1)] σ (qv Q) := by
  unfold w_Reader_need at h
  obtain ⟨d, rfl⟩ : ∃ e, d = e + 1 := ⟨d - 1, by omega⟩
  refine k_sb (lv' := [some (.inr 2), some (.inr a1)]) (sb_s (sb_s sb_nil)) ?_
  refine k_aload_n d_Reader_need_0 rfl ?_
  refine k_aload_n d_Reader_need_1 rfl ?_
  refine k_cvi [.inr a1] d_Reader_need_2 ml_2_62 rfl rfl ob_2 rfl (s_Reader_at hL (by omega) ha1 h) (fun v2 σ1 h => ?_)
  refine k_join (S := Unit) (pc' := 29) (st' := fun s5 => []) (lv' := fun s5 => [none, none]) (fun s5 σ6 h => ?_) (fun J3 hJ4 h => ?_) h
  · exact k_ret d_Reader_need_29 h
  · refine k_ifeq d_Reader_need_5 rfl (fun c7 => ?_) (fun c7 => ?_)
    · have h := ipos c7 h
      refine k_aload_n d_Reader_need_24 rfl ?_
      refine k_iconst d_Reader_need_25 cI_5 ?_
      refine k_cvv [.inl 5] d_Reader_need_26 ml_2_66 rfl rfl ob_2 rfl (s_Reader_fail hL (by omega)  h) (fun σ8 h => ?_)
      exact k_sb (sb_n (sb_n sb_nil)) (hJ4 () _ h)
    · have h := ineg c7 h
      refine k_aload_n d_Reader_need_8 rfl ?_
      refine k_dup d_Reader_need_9 ?_
      refine k_getI (x := (σ1.1 2 2)) d_Reader_need_10 fl_2_26 ob_2 rfl rfl ?_
      refine k_aload_n d_Reader_need_13 rfl ?_
      refine k_tlen d_Reader_need_14 ml_2_52 ha1 rfl ?_
      obtain ⟨p10, h⟩ := h
      refine k_iadd d_Reader_need_17 p10 ?_
      refine k_putI d_Reader_need_18 fl_2_26 ob_2 rfl ?_
      refine k_goto d_Reader_need_21 rfl ?_
      exact k_sb (sb_n (sb_n sb_nil)) (hJ4 () _ h)
theorem d_Reader_skipSpace_0 : decode b_Reader_skipSpace 0 = .ok (.aload_n 0, 1) := by decide +kernel
theorem d_Reader_skipSpace_1 : decode b_Reader_skipSpace 1 = .ok (.getfield 26, 3) := by decide +kernel
theorem d_Reader_skipSpace_4 : decode b_Reader_skipSpace 4 = .ok (.istore_n 1, 1) := by decide +kernel
theorem d_Reader_skipSpace_5 : decode b_Reader_skipSpace 5 = .ok (.aload_n 0, 1) := by decide +kernel
theorem d_Reader_skipSpace_6 : decode b_Reader_skipSpace 6 = .ok (.getfield 26, 3) := by decide +kernel
theorem d_Reader_skipSpace_9 : decode b_Reader_skipSpace 9 = .ok (.istore_n 2, 1) := by decide +kernel
theorem d_Reader_skipSpace_10 : decode b_Reader_skipSpace 10 = .ok (.iload_n 2, 1) := by decide +kernel
theorem d_Reader_skipSpace_11 : decode b_Reader_skipSpace 11 = .ok (.aload_n 0, 1) := by decide +kernel
theorem d_Reader_skipSpace_12 : decode b_Reader_skipSpace 12 = .ok (.getfield 32, 3) := by decide +kernel
theorem d_Reader_skipSpace_15 : decode b_Reader_skipSpace 15 = .ok (.if_icmp .ge 31, 3) := by decide +kernel
theorem d_Reader_skipSpace_18 : decode b_Reader_skipSpace 18 = .ok (.aload_n 0, 1) := by decide +kernel
theorem d_Reader_skipSpace_19 : decode b_Reader_skipSpace 19 = .ok (.getfield 21, 3) := by decide +kernel
theorem d_Reader_skipSpace_22 : decode b_Reader_skipSpace 22 = .ok (.iload_n 2, 1) := by decide +kernel
theorem d_Reader_skipSpace_23 : decode b_Reader_skipSpace 23 = .ok (.iaload, 1) := by decide +kernel
theorem d_Reader_skipSpace_24 : decode b_Reader_skipSpace 24 = .ok (.invokestatic 70, 3) := by decide +kernel
theorem d_Reader_skipSpace_27 : decode b_Reader_skipSpace 27 = .ok (.ifCond .eq 19, 3) := by decide +kernel
theorem d_Reader_skipSpace_30 : decode b_Reader_skipSpace 30 = .ok (.aload_n 0, 1) := by decide +kernel
theorem d_Reader_skipSpace_31 : decode b_Reader_skipSpace 31 = .ok (.dup, 1) := by decide +kernel
theorem d_Reader_skipSpace_32 : decode b_Reader_skipSpace 32 = .ok (.getfield 26, 3) := by decide +kernel
theorem d_Reader_skipSpace_35 : decode b_Reader_skipSpace 35 = .ok (.iconst 1, 1) := by decide +kernel
theorem d_Reader_skipSpace_36 : decode b_Reader_skipSpace 36 = .ok (.iadd, 1) := by decide +kernel
theorem d_Reader_skipSpace_37 : decode b_Reader_skipSpace 37 = .ok (.putfield 26, 3) := by decide +kernel
theorem d_Reader_skipSpace_40 : decode b_Reader_skipSpace 40 = .ok (.iinc 2 1, 3) := by decide +kernel
theorem d_Reader_skipSpace_43 : decode b_Reader_skipSpace 43 = .ok (.goto (-33), 3) := by decide +kernel
theorem d_Reader_skipSpace_46 : decode b_Reader_skipSpace 46 = .ok (.aload_n 0, 1) := by decide +kernel
theorem d_Reader_skipSpace_47 : decode b_Reader_skipSpace 47 = .ok (.getfield 26, 3) := by decide +kernel
theorem d_Reader_skipSpace_50 : decode b_Reader_skipSpace 50 = .ok (.iload_n 1, 1) := by decide +kernel
theorem d_Reader_skipSpace_51 : decode b_Reader_skipSpace 51 = .ok (.if_icmp .le 7, 3) := by decide +kernel
theorem d_Reader_skipSpace_54 : decode b_Reader_skipSpace 54 = .ok (.iconst 1, 1) := by decide +kernel
theorem d_Reader_skipSpace_55 : decode b_Reader_skipSpace 55 = .ok (.goto 4, 3) := by decide +kernel
theorem d_Reader_skipSpace_58 : decode b_Reader_skipSpace 58 = .ok (.iconst 0, 1) := by decide +kernel
theorem d_Reader_skipSpace_59 : decode b_Reader_skipSpace 59 = .ok (.ireturn, 1) := by decide +kernel
/-- Reader_skipSpace -/
def w_Reader_skipSpace (L : Nat → Nat)  (Q : Int → IS → Prop) (σ : IS) : Prop := WL (fun (K1 : Int → IS → Prop) (s3 : Int) (σ4 : IS) => WJ (fun (s7 : Unit) (σ8 : IS) => Q (if (σ.1 2 2) < (σ8.1 2 2) then (1 : Int) else (0 : Int)) σ8) (fun J5 => if s3 < (σ4.1 2 3) then inL L 101 s3 ∧ w_Reader_isSpace L (σ4.2 101 (Int.toNat s3)) (fun v15 σ14 => if v15 = 0 then J5 () σ14 else inR ((σ14.1 2 2) + 1) ∧ inR (s3 + 1) ∧ K1 (s3 + 1) (pf σ14 2 2 ((σ14.1 2 2) + 1))) σ4 else J5 () σ4)) (σ.1 2 2) σ
set_option maxHeartbeats 4000000 in
set_option maxRecDepth 20000 in
theorem s_Reader_skipSpace {L : Nat → Nat} (hL : ∀ r, L r < 2147483648) {d : Nat} (hd : 1 ≤ d)  {Q : Int → IS → Prop} {σ : IS}  (h : w_Reader_skipSpace L  Q σ) : OkI BF L d 2 b_Reader_skipSpace 3 2 0 [] [some (.inr 2)] σ (qi Q) := by
  unfold w_Reader_skipSpace at h
  obtain ⟨d, rfl⟩ : ∃ e, d = e + 1 := ⟨d - 1, by omega⟩
  refine k_sb (lv' := [some (.inr 2), none, none]) (sb_s (sb_e (sb_e sb_nil))) ?_
  refine k_aload_n d_Reader_skipSpace_0 rfl ?_
  refine k_getI (x := (σ.1 2 2)) d_Reader_skipSpace_1 fl_2_26 ob_2 rfl rfl ?_
  refine k_istore_n (lv' := [some (.inr 2), some (.inl (σ.1 2 2)), none]) d_Reader_skipSpace_4 rfl rfl ?_
  refine k_aload_n d_Reader_skipSpace_5 rfl ?_
  refine k_getI (x := (σ.1 2 2)) d_Reader_skipSpace_6 fl_2_26 ob_2 rfl rfl ?_
  refine k_istore_n (lv' := [some (.inr 2), some (.inl (σ.1 2 2)), some (.inl (σ.1 2 2))]) d_Reader_skipSpace_9 rfl rfl ?_
  refine k_sb (lv' := [some (.inr 2), some (.inl (σ.1 2 2)), some (.inl (σ.1 2 2))]) (sb_s (sb_s (sb_s sb_nil))) ?_
  refine k_loop (S := Int) (st := fun _ => []) (lv := fun s3 => [some (.inr 2), some (.inl (σ.1 2 2)), some (.inl s3)]) (fun K1 hK2 s3 σ4 h => ?_) (σ.1 2 2) _ h
  refine k_iload_n d_Reader_skipSpace_10 rfl ?_
  refine k_aload_n d_Reader_skipSpace_11 rfl ?_
  refine k_getI (x := (σ4.1 2 3)) d_Reader_skipSpace_12 fl_2_32 ob_2 rfl rfl ?_
  refine k_join (S := Unit) (pc' := 46) (st' := fun s7 => []) (lv' := fun s7 => [some (.inr 2), some (.inl (σ.1 2 2)), none]) (fun s7 σ8 h => ?_) (fun J5 hJ6 h => ?_) h
  · refine k_aload_n d_Reader_skipSpace_46 rfl ?_
    refine k_getI (x := (σ8.1 2 2)) d_Reader_skipSpace_47 fl_2_26 ob_2 rfl rfl ?_
    refine k_iload_n d_Reader_skipSpace_50 rfl ?_
    have hV9 : OkI BF L (d + 1) 2 b_Reader_skipSpace 3 2 59 [.inl (if (σ.1 2 2) < (σ8.1 2 2) then (1 : Int) else (0 : Int))] [some (.inr 2), some (.inl (σ.1 2 2)), none] σ8 (qi Q) := by
      exact k_iret d_Reader_skipSpace_59 (Or.inr ⟨rfl, it01 (Or.inr rfl) (Or.inl rfl)⟩) h
    refine k_icle d_Reader_skipSpace_51 rfl (fun c10 => ?_) (fun c10 => ?_)
    · have hV12 := k_eqI (if_neg c10) hV9
      refine k_iconst d_Reader_skipSpace_58 cI_0 ?_
      exact hV12
    · have hV11 := k_eqI (if_pos c10) hV9
      refine k_iconst d_Reader_skipSpace_54 cI_1 ?_
      refine k_goto d_Reader_skipSpace_55 rfl ?_
      exact hV11
  · refine k_icge d_Reader_skipSpace_15 rfl (fun c13 => ?_) (fun c13 => ?_)
    · have h := ineg c13 h
      exact k_sb (sb_s (sb_s (sb_n sb_nil))) (hJ6 () _ h)
    · have h := ipos c13 h
      refine k_aload_n d_Reader_skipSpace_18 rfl ?_
      refine k_getR d_Reader_skipSpace_19 fl_2_21 ob_2 rfl ?_
      refine k_iload_n d_Reader_skipSpace_22 rfl ?_
      obtain ⟨p19, h⟩ := h
      refine k_ild (x := (σ4.2 101 (Int.toNat s3))) d_Reader_skipSpace_23 rI_101 p19 rfl ?_
      refine k_csi [.inl (σ4.2 101 (Int.toNat s3))] d_Reader_skipSpace_24 ml_2_70 (Or.inl rfl) rfl rfl rfl (s_Reader_isSpace hL (by omega)  h) (fun v15 σ14 h => ?_)
      refine k_ifeq d_Reader_skipSpace_27 rfl (fun c16 => ?_) (fun c16 => ?_)
      · have h := ipos c16 h
        exact k_sb (sb_s (sb_s (sb_n sb_nil))) (hJ6 () _ h)
      · have h := ineg c16 h
        refine k_aload_n d_Reader_skipSpace_30 rfl ?_
        refine k_dup d_Reader_skipSpace_31 ?_
        refine k_getI (x := (σ14.1 2 2)) d_Reader_skipSpace_32 fl_2_26 ob_2 rfl rfl ?_
        refine k_iconst d_Reader_skipSpace_35 cI_1 ?_
        obtain ⟨p18, h⟩ := h
        refine k_iadd d_Reader_skipSpace_36 p18 ?_
        refine k_putI d_Reader_skipSpace_37 fl_2_26 ob_2 rfl ?_
        obtain ⟨p17, h⟩ := h
        refine k_iinc (lv' := [some (.inr 2), some (.inl (σ.1 2 2)), some (.inl (s3 + 1))]) d_Reader_skipSpace_40 cI_1 rfl rfl p17 rfl ?_
        refine k_goto d_Reader_skipSpace_43 rfl ?_
        exact k_sb (sb_s (sb_s (sb_s sb_nil))) (hK2 (s3 + 1) _ h)
theorem d_Reader_needSpace_0 : decode b_Reader_needSpace 0 = .ok (.aload_n 0, 1) := by decide +kernel
theorem d_Reader_needSpace_1 : decode b_Reader_needSpace 1 = .ok (.invokevirtual 74, 3) := by decide +kernel
theorem d_Reader_needSpace_4 : decode b_Reader_needSpace 4 = .ok (.ifCond .ne 8, 3) := by decide +kernel
theorem d_Reader_needSpace_7 : decode b_Reader_needSpace 7 = .ok (.aload_n 0, 1) := by decide +kernel
theorem d_Reader_needSpace_8 : decode b_Reader_needSpace 8 = .ok (.iconst 5, 1) := by decide +kernel
theorem d_Reader_needSpace_9 : decode b_Reader_needSpace 9 = .ok (.invokevirtual 66, 3) := by decide +kernel
theorem d_Reader_needSpace_12 : decode b_Reader_needSpace 12 = .ok (.return_, 1) := by decide +kernel
/-- Reader_needSpace -/
def w_Reader_needSpace (L : Nat → Nat)  (Q : IS → Prop) (σ : IS) : Prop := w_Reader_skipSpace L  (fun v2 σ1 => WJ (fun (s5 : Unit) (σ6 : IS) => Q σ6) (fun J3 => if v2 = 0 then w_Reader_fail L 5 (fun σ8 => J3 () σ8) σ1 else J3 () σ1)) σ
set_option maxHeartbeats 4000000 in
set_option maxRecDepth 20000 in
theorem s_Reader_needSpace {L : Nat → Nat} (hL : ∀ r, L r < 2147483648) {d : Nat} (hd : 2 ≤ d)  {Q : IS → Prop} {σ : IS}  (h : w_Reader_needSpace L  Q σ) : OkI BF L d 2 b_Reader_needSpace 1 0 0 [] [some (.inr 2)] σ (qv Q) := by
  unfold w_Reader_needSpace at h
  obtain ⟨d, rfl⟩ : ∃ e, d = e + 1 := ⟨d - 1, by omega⟩
  refine k_sb (lv' := [some (.inr 2)]) (sb_s sb_nil) ?_
  refine k_aload_n d_Reader_needSpace_0 rfl ?_
  refine k_cvi [] d_Reader_needSpace_1 ml_2_74 rfl rfl ob_2 rfl (s_Reader_skipSpace hL (by omega)  h) (fun v2 σ1 h => ?_)
  refine k_join (S := Unit) (pc' := 12) (st' := fun s5 => []) (lv' := fun s5 => [none]) (fun s5 σ6 h => ?_) (fun J3 hJ4 h => ?_) h
  · exact k_ret d_Reader_needSpace_12 h
  · refine k_ifne d_Reader_needSpace_4 rfl (fun c7 => ?_) (fun c7 => ?_)
    · have h := ineg c7 h
      exact k_sb (sb_n sb_nil) (hJ4 () _ h)
    · have h := ipos c7 h
      refine k_aload_n d_Reader_needSpace_7 rfl ?_
      refine k_iconst d_Reader_needSpace_8 cI_5 ?_
      refine k_cvv [.inl 5] d_Reader_needSpace_9 ml_2_66 rfl rfl ob_2 rfl (s_Reader_fail hL (by omega)  h) (fun σ8 h => ?_)
      exact k_sb (sb_n sb_nil) (hJ4 () _ h)
theorem d_Reader_peek_0 : decode b_Reader_peek 0 = .ok (.aload_n 0, 1) := by decide +kernel
theorem d_Reader_peek_1 : decode b_Reader_peek 1 = .ok (.getfield 26, 3) := by decide +kernel
theorem d_Reader_peek_4 : decode b_Reader_peek 4 = .ok (.aload_n 0, 1) := by decide +kernel
theorem d_Reader_peek_5 : decode b_Reader_peek 5 = .ok (.getfield 32, 3) := by decide +kernel
theorem d_Reader_peek_8 : decode b_Reader_peek 8 = .ok (.if_icmp .ge 15, 3) := by decide +kernel
theorem d_Reader_peek_11 : decode b_Reader_peek 11 = .ok (.aload_n 0, 1) := by decide +kernel
theorem d_Reader_peek_12 : decode b_Reader_peek 12 = .ok (.getfield 21, 3) := by decide +kernel
theorem d_Reader_peek_15 : decode b_Reader_peek 15 = .ok (.aload_n 0, 1) := by decide +kernel
theorem d_Reader_peek_16 : decode b_Reader_peek 16 = .ok (.getfield 26, 3) := by decide +kernel
theorem d_Reader_peek_19 : decode b_Reader_peek 19 = .ok (.iaload, 1) := by decide +kernel
theorem d_Reader_peek_20 : decode b_Reader_peek 20 = .ok (.goto 4, 3) := by decide +kernel
theorem d_Reader_peek_23 : decode b_Reader_peek 23 = .ok (.iconst (-1), 1) := by decide +kernel
theorem d_Reader_peek_24 : decode b_Reader_peek 24 = .ok (.ireturn, 1) := by decide +kernel
/-- Reader_peek -/
def w_Reader_peek (L : Nat → Nat)  (Q : Int → IS → Prop) (σ : IS) : Prop := (((σ.1 2 2) < (σ.1 2 3) → inL L 101 (σ.1 2 2))) ∧ Q (if (σ.1 2 2) < (σ.1 2 3) then (σ.2 101 (Int.toNat (σ.1 2 2))) else ((-1) : Int)) σ
set_option maxHeartbeats 4000000 in
set_option maxRecDepth 20000 in
theorem s_Reader_peek {L : Nat → Nat} (hL : ∀ r, L r < 2147483648) {d : Nat} (hd : 0 ≤ d)  {Q : Int → IS → Prop} {σ : IS}  (h : w_Reader_peek L  Q σ) : OkI BF L d 2 b_Reader_peek 1 1 0 [] [some (.inr 2)] σ (qi Q) := by
  unfold w_Reader_peek at h
  refine k_sb (lv' := [some (.inr 2)]) (sb_s sb_nil) ?_
  refine k_aload_n d_Reader_peek_0 rfl ?_
  refine k_getI (x := (σ.1 2 2)) d_Reader_peek_1 fl_2_26 ob_2 rfl rfl ?_
  refine k_aload_n d_Reader_peek_4 rfl ?_
  refine k_getI (x := (σ.1 2 3)) d_Reader_peek_5 fl_2_32 ob_2 rfl rfl ?_
  obtain ⟨pt3, h⟩ := h
  have hV2 : OkI BF L d 2 b_Reader_peek 1 1 24 [.inl (if (σ.1 2 2) < (σ.1 2 3) then (σ.2 101 (Int.toNat (σ.1 2 2))) else ((-1) : Int))] [some (.inr 2)] σ (qi Q) := by
    exact k_iret d_Reader_peek_24 (Or.inl rfl) h
  have pa4 := pt3
  refine k_icge d_Reader_peek_8 rfl (fun c5 => ?_) (fun c5 => ?_)
  · have hV7 := k_eqI (if_neg c5) hV2
    refine k_iconst d_Reader_peek_23 cI_m1 ?_
    exact hV7
  · have pa4 := pa4 c5
    have hV6 := k_eqI (if_pos c5) hV2
    have p1 := pa4
    refine k_aload_n d_Reader_peek_11 rfl ?_
    refine k_getR d_Reader_peek_12 fl_2_21 ob_2 rfl ?_
    refine k_aload_n d_Reader_peek_15 rfl ?_
    refine k_getI (x := (σ.1 2 2)) d_Reader_peek_16 fl_2_26 ob_2 rfl rfl ?_
    refine k_ild (x := (σ.2 101 (Int.toNat (σ.1 2 2)))) d_Reader_peek_19 rI_101 p1 rfl ?_
    refine k_goto d_Reader_peek_20 rfl ?_
    exact hV6
theorem d_Reader_atQuote_0 : decode b_Reader_atQuote 0 = .ok (.aload_n 0, 1) := by decide +kernel
theorem d_Reader_atQuote_1 : decode b_Reader_atQuote 1 = .ok (.invokevirtual 152, 3) := by decide +kernel
theorem d_Reader_atQuote_4 : decode b_Reader_atQuote 4 = .ok (.istore_n 1, 1) := by decide +kernel
theorem d_Reader_atQuote_5 : decode b_Reader_atQuote 5 = .ok (.iload_n 1, 1) := by decide +kernel
theorem d_Reader_atQuote_6 : decode b_Reader_atQuote 6 = .ok (.bipush 34, 2) := by decide +kernel
theorem d_Reader_atQuote_8 : decode b_Reader_atQuote 8 = .ok (.if_icmp .eq 9, 3) := by decide +kernel
theorem d_Reader_atQuote_11 : decode b_Reader_atQuote 11 = .ok (.iload_n 1, 1) := by decide +kernel
theorem d_Reader_atQuote_12 : decode b_Reader_atQuote 12 = .ok (.bipush 39, 2) := by decide +kernel
theorem d_Reader_atQuote_14 : decode b_Reader_atQuote 14 = .ok (.if_icmp .ne 7, 3) := by decide +kernel
theorem d_Reader_atQuote_17 : decode b_Reader_atQuote 17 = .ok (.iconst 1, 1) := by decide +kernel
theorem d_Reader_atQuote_18 : decode b_Reader_atQuote 18 = .ok (.goto 4, 3) := by decide +kernel
theorem d_Reader_atQuote_21 : decode b_Reader_atQuote 21 = .ok (.iconst 0, 1) := by decide +kernel
theorem d_Reader_atQuote_22 : decode b_Reader_atQuote 22 = .ok (.ireturn, 1) := by decide +kernel
/-- Reader_atQuote -/
def w_Reader_atQuote (L : Nat → Nat)  (Q : Int → IS → Prop) (σ : IS) : Prop := w_Reader_peek L  (fun v2 σ1 => Q (if v2 = 34 then (1 : Int) else (if v2 = 39 then (1 : Int) else (0 : Int))) σ1) σ
set_option maxHeartbeats 4000000 in
set_option maxRecDepth 20000 in
theorem s_Reader_atQuote {L : Nat → Nat} (hL : ∀ r, L r < 2147483648) {d : Nat} (hd : 1 ≤ d)  {Q : Int → IS → Prop} {σ : IS}  (h : w_Reader_atQuote L  Q σ) : OkI BF L d 2 b_Reader_atQuote 2 2 0 [] [some (.inr 2)] σ (qi Q) := by
  unfold w_Reader_atQuote at h
  obtain ⟨d, rfl⟩ : ∃ e, d = e + 1 := ⟨d - 1, by omega⟩
  refine k_sb (lv' := [some (.inr 2), none]) (sb_s (sb_e sb_nil)) ?_
  refine k_aload_n d_Reader_atQuote_0 rfl ?_
  refine k_cvi [] d_Reader_atQuote_1 ml_2_152 rfl rfl ob_2 rfl (s_Reader_peek hL (by omega)  h) (fun v2 σ1 h => ?_)
  refine k_istore_n (lv' := [some (.inr 2), some (.inl v2)]) d_Reader_atQuote_4 rfl rfl ?_
  refine k_iload_n d_Reader_atQuote_5 rfl ?_
  refine k_bipush d_Reader_atQuote_6 cB_34 ?_
  have hV3 : OkI BF L (d + 1) 2 b_Reader_atQuote 2 2 22 [.inl (if v2 = 34 then (1 : Int) else (if v2 = 39 then (1 : Int) else (0 : Int)))] [some (.inr 2), some (.inl v2)] σ1 (qi Q) := by
    exact k_iret d_Reader_atQuote_22 (Or.inr ⟨rfl, it01 (Or.inr rfl) (it01 (Or.inr rfl) (Or.inl rfl))⟩) h
  refine k_iceq d_Reader_atQuote_8 rfl (fun c4 => ?_) (fun c4 => ?_)
  · have hV5 := k_eqI (if_pos c4) hV3
    refine k_iconst d_Reader_atQuote_17 cI_1 ?_
    refine k_goto d_Reader_atQuote_18 rfl ?_
    exact hV5
  · have hV6 := k_eqI (if_neg c4) hV3
    refine k_iload_n d_Reader_atQuote_11 rfl ?_
    refine k_bipush d_Reader_atQuote_12 cB_39 ?_
    refine k_icne d_Reader_atQuote_14 rfl (fun c7 => ?_) (fun c7 => ?_)
    · have hV9 := k_eqI (if_neg c7) hV6
      refine k_iconst d_Reader_atQuote_21 cI_0 ?_
      exact hV9
    · have hV8 := k_eqI (if_pos c7) hV6
      refine k_iconst d_Reader_atQuote_17 cI_1 ?_
      refine k_goto d_Reader_atQuote_18 rfl ?_
      exact hV8
theorem d_Content_readQuoteOf_0 : decode b_Content_readQuoteOf 0 = .ok (.aload_n 0, 1) := by decide +kernel
theorem d_Content_readQuoteOf_1 : decode b_Content_readQuoteOf 1 = .ok (.getfield 15, 3) := by decide +kernel
theorem d_Content_readQuoteOf_4 : decode b_Content_readQuoteOf 4 = .ok (.aload_n 1, 1) := by decide +kernel
theorem d_Content_readQuoteOf_5 : decode b_Content_readQuoteOf 5 = .ok (.invokevirtual 119, 3) := by decide +kernel
theorem d_Content_readQuoteOf_8 : decode b_Content_readQuoteOf 8 = .ok (.aload_n 0, 1) := by decide +kernel
theorem d_Content_readQuoteOf_9 : decode b_Content_readQuoteOf 9 = .ok (.getfield 15, 3) := by decide +kernel
theorem d_Content_readQuoteOf_12 : decode b_Content_readQuoteOf 12 = .ok (.invokevirtual 140, 3) := by decide +kernel
theorem d_Content_readQuoteOf_15 : decode b_Content_readQuoteOf 15 = .ok (.pop, 1) := by decide +kernel
theorem d_Content_readQuoteOf_16 : decode b_Content_readQuoteOf 16 = .ok (.aload_n 0, 1) := by decide +kernel
theorem d_Content_readQuoteOf_17 : decode b_Content_readQuoteOf 17 = .ok (.getfield 15, 3) := by decide +kernel
theorem d_Content_readQuoteOf_20 : decode b_Content_readQuoteOf 20 = .ok (.ldc 175, 2) := by decide +kernel
theorem d_Content_readQuoteOf_22 : decode b_Content_readQuoteOf 22 = .ok (.invokevirtual 119, 3) := by decide +kernel
theorem d_Content_readQuoteOf_25 : decode b_Content_readQuoteOf 25 = .ok (.aload_n 0, 1) := by decide +kernel
theorem d_Content_readQuoteOf_26 : decode b_Content_readQuoteOf 26 = .ok (.getfield 15, 3) := by decide +kernel
theorem d_Content_readQuoteOf_29 : decode b_Content_readQuoteOf 29 = .ok (.invokevirtual 140, 3) := by decide +kernel
theorem d_Content_readQuoteOf_32 : decode b_Content_readQuoteOf 32 = .ok (.pop, 1) := by decide +kernel
theorem d_Content_readQuoteOf_33 : decode b_Content_readQuoteOf 33 = .ok (.aload_n 0, 1) := by decide +kernel
theorem d_Content_readQuoteOf_34 : decode b_Content_readQuoteOf 34 = .ok (.getfield 15, 3) := by decide +kernel
theorem d_Content_readQuoteOf_37 : decode b_Content_readQuoteOf 37 = .ok (.invokevirtual 145, 3) := by decide +kernel
theorem d_Content_readQuoteOf_40 : decode b_Content_readQuoteOf 40 = .ok (.istore_n 2, 1) := by decide +kernel
theorem d_Content_readQuoteOf_41 : decode b_Content_readQuoteOf 41 = .ok (.aload_n 0, 1) := by decide +kernel
theorem d_Content_readQuoteOf_42 : decode b_Content_readQuoteOf 42 = .ok (.getfield 15, 3) := by decide +kernel
theorem d_Content_readQuoteOf_45 : decode b_Content_readQuoteOf 45 = .ok (.invokevirtual 177, 3) := by decide +kernel
theorem d_Content_readQuoteOf_48 : decode b_Content_readQuoteOf 48 = .ok (.ifCond .ne 11, 3) := by decide +kernel
theorem d_Content_readQuoteOf_51 : decode b_Content_readQuoteOf 51 = .ok (.aload_n 0, 1) := by decide +kernel
theorem d_Content_readQuoteOf_52 : decode b_Content_readQuoteOf 52 = .ok (.getfield 15, 3) := by decide +kernel
theorem d_Content_readQuoteOf_55 : decode b_Content_readQuoteOf 55 = .ok (.iconst 5, 1) := by decide +kernel
theorem d_Content_readQuoteOf_56 : decode b_Content_readQuoteOf 56 = .ok (.invokevirtual 108, 3) := by decide +kernel
theorem d_Content_readQuoteOf_59 : decode b_Content_readQuoteOf 59 = .ok (.aload_n 0, 1) := by decide +kernel
theorem d_Content_readQuoteOf_60 : decode b_Content_readQuoteOf 60 = .ok (.getfield 15, 3) := by decide +kernel
theorem d_Content_readQuoteOf_63 : decode b_Content_readQuoteOf 63 = .ok (.dup, 1) := by decide +kernel
theorem d_Content_readQuoteOf_64 : decode b_Content_readQuoteOf 64 = .ok (.getfield 47, 3) := by decide +kernel
theorem d_Content_readQuoteOf_67 : decode b_Content_readQuoteOf 67 = .ok (.iconst 1, 1) := by decide +kernel
theorem d_Content_readQuoteOf_68 : decode b_Content_readQuoteOf 68 = .ok (.iadd, 1) := by decide +kernel
theorem d_Content_readQuoteOf_69 : decode b_Content_readQuoteOf 69 = .ok (.putfield 47, 3) := by decide +kernel
theorem d_Content_readQuoteOf_72 : decode b_Content_readQuoteOf 72 = .ok (.iload_n 2, 1) := by decide +kernel
theorem d_Content_readQuoteOf_73 : decode b_Content_readQuoteOf 73 = .ok (.ireturn, 1) := by decide +kernel
/-- Content_readQuoteOf -/
def w_Content_readQuoteOf (L : Nat → Nat) (a1 : Nat) (Q : Int → IS → Prop) (σ : IS) : Prop := w_Reader_need L a1 (fun σ1 => w_Reader_skipSpace L  (fun v4 σ3 => w_Reader_need L 1012 (fun σ5 => w_Reader_skipSpace L  (fun v8 σ7 => w_Reader_peek L  (fun v10 σ9 => w_Reader_atQuote L  (fun v12 σ11 => WJ (fun (s15 : Unit) (σ16 : IS) => inR ((σ16.1 2 2) + 1) ∧ Q v10 (pf σ16 2 2 ((σ16.1 2 2) + 1))) (fun J13 => if v12 = 0 then w_Reader_fail L 5 (fun σ19 => J13 () σ19) σ11 else J13 () σ11)) σ9) σ7) σ5) σ3) σ1) σ
set_option maxHeartbeats 4000000 in
set_option maxRecDepth 20000 in
theorem s_Content_readQuoteOf {L : Nat → Nat} (hL : ∀ r, L r < 2147483648) {d : Nat} (hd : 2 ≤ d) {a1 : Nat} {Q : Int → IS → Prop} {σ : IS} (ha1 : isT a1) (h : w_Content_readQuoteOf L a1 Q σ) : OkI BF L d 7 b_Content_readQuoteOf 3 1 0 [] [some (.inr 7), some (.inr a1)] σ (qi Q) := by
  unfold w_Content_readQuoteOf at h
  obtain ⟨d, rfl⟩ : ∃ e, d = e + 1 := ⟨d - 1, by omega⟩
  refine k_sb (lv' := [some (.inr 7), some (.inr a1), none]) (sb_s (sb_s (sb_e sb_nil))) ?_
  refine k_aload_n d_Content_readQuoteOf_0 rfl ?_
  refine k_getR d_Content_readQuoteOf_1 fl_7_15 ob_7 rfl ?_
  refine k_aload_n d_Content_readQuoteOf_4 rfl ?_
  refine k_cvv [.inr a1] d_Content_readQuoteOf_5 ml_7_119 rfl rfl ob_2 rfl (s_Reader_need hL (by omega) ha1 h) (fun σ1 h => ?_)
  refine k_aload_n d_Content_readQuoteOf_8 rfl ?_
  refine k_getR d_Content_readQuoteOf_9 fl_7_15 ob_7 rfl ?_
  refine k_cvi [] d_Content_readQuoteOf_12 ml_7_140 rfl rfl ob_2 rfl (s_Reader_skipSpace hL (by omega)  h) (fun v4 σ3 h => ?_)
  refine k_pop d_Content_readQuoteOf_15 ?_
  refine k_aload_n d_Content_readQuoteOf_16 rfl ?_
  refine k_getR d_Content_readQuoteOf_17 fl_7_15 ob_7 rfl ?_
  refine k_ldc d_Content_readQuoteOf_20 ks_7_175 rfl ?_
  refine k_cvv [.inr 1012] d_Content_readQuoteOf_22 ml_7_119 rfl rfl ob_2 rfl (s_Reader_need hL (by omega) it_1012 h) (fun σ5 h => ?_)
  refine k_aload_n d_Content_readQuoteOf_25 rfl ?_
  refine k_getR d_Content_readQuoteOf_26 fl_7_15 ob_7 rfl ?_
  refine k_cvi [] d_Content_readQuoteOf_29 ml_7_140 rfl rfl ob_2 rfl (s_Reader_skipSpace hL (by omega)  h) (fun v8 σ7 h => ?_)
  refine k_pop d_Content_readQuoteOf_32 ?_
  refine k_aload_n d_Content_readQuoteOf_33 rfl ?_
  refine k_getR d_Content_readQuoteOf_34 fl_7_15 ob_7 rfl ?_
  refine k_cvi [] d_Content_readQuoteOf_37 ml_7_145 rfl rfl ob_2 rfl (s_Reader_peek hL (by omega)  h) (fun v10 σ9 h => ?_)
  refine k_istore_n (lv' := [some (.inr 7), some (.inr a1), some (.inl v10)]) d_Content_readQuoteOf_40 rfl rfl ?_
  refine k_aload_n d_Content_readQuoteOf_41 rfl ?_
  refine k_getR d_Content_readQuoteOf_42 fl_7_15 ob_7 rfl ?_
  refine k_cvi [] d_Content_readQuoteOf_45 ml_7_177 rfl rfl ob_2 rfl (s_Reader_atQuote hL (by omega)  h) (fun v12 σ11 h => ?_)
  refine k_join (S := Unit) (pc' := 59) (st' := fun s15 => []) (lv' := fun s15 => [some (.inr 7), none, some (.inl v10)]) (fun s15 σ16 h => ?_) (fun J13 hJ14 h => ?_) h
  · refine k_aload_n d_Content_readQuoteOf_59 rfl ?_
    refine k_getR d_Content_readQuoteOf_60 fl_7_15 ob_7 rfl ?_
    refine k_dup d_Content_readQuoteOf_63 ?_
    refine k_getI (x := (σ16.1 2 2)) d_Content_readQuoteOf_64 fl_7_47 ob_2 rfl rfl ?_
    refine k_iconst d_Content_readQuoteOf_67 cI_1 ?_
    obtain ⟨p17, h⟩ := h
    refine k_iadd d_Content_readQuoteOf_68 p17 ?_
    refine k_putI d_Content_readQuoteOf_69 fl_7_47 ob_2 rfl ?_
    refine k_iload_n d_Content_readQuoteOf_72 rfl ?_
    exact k_iret d_Content_readQuoteOf_73 (Or.inl rfl) h
  · refine k_ifne d_Content_readQuoteOf_48 rfl (fun c18 => ?_) (fun c18 => ?_)
    · have h := ineg c18 h
      exact k_sb (sb_s (sb_n (sb_s sb_nil))) (hJ14 () _ h)
    · have h := ipos c18 h
      refine k_aload_n d_Content_readQuoteOf_51 rfl ?_
      refine k_getR d_Content_readQuoteOf_52 fl_7_15 ob_7 rfl ?_
      refine k_iconst d_Content_readQuoteOf_55 cI_5 ?_
      refine k_cvv [.inl 5] d_Content_readQuoteOf_56 ml_7_108 rfl rfl ob_2 rfl (s_Reader_fail hL (by omega)  h) (fun σ19 h => ?_)
      exact k_sb (sb_s (sb_n (sb_s sb_nil))) (hJ14 () _ h)
theorem d_Reader_isDigit_0 : decode b_Reader_isDigit 0 = .ok (.iload_n 0, 1) := by decide +kernel
theorem d_Reader_isDigit_1 : decode b_Reader_isDigit 1 = .ok (.bipush 48, 2) := by decide +kernel
theorem d_Reader_isDigit_3 : decode b_Reader_isDigit 3 = .ok (.if_icmp .lt 13, 3) := by decide +kernel
theorem d_Reader_isDigit_6 : decode b_Reader_isDigit 6 = .ok (.iload_n 0, 1) := by decide +kernel
theorem d_Reader_isDigit_7 : decode b_Reader_isDigit 7 = .ok (.bipush 57, 2) := by decide +kernel
theorem d_Reader_isDigit_9 : decode b_Reader_isDigit 9 = .ok (.if_icmp .gt 7, 3) := by decide +kernel
theorem d_Reader_isDigit_12 : decode b_Reader_isDigit 12 = .ok (.iconst 1, 1) := by decide +kernel
theorem d_Reader_isDigit_13 : decode b_Reader_isDigit 13 = .ok (.goto 4, 3) := by decide +kernel
theorem d_Reader_isDigit_16 : decode b_Reader_isDigit 16 = .ok (.iconst 0, 1) := by decide +kernel
theorem d_Reader_isDigit_17 : decode b_Reader_isDigit 17 = .ok (.ireturn, 1) := by decide +kernel
/-- Reader_isDigit -/
def w_Reader_isDigit (L : Nat → Nat) (a0 : Int) (Q : Int → IS → Prop) (σ : IS) : Prop := Q (if a0 < 48 then (0 : Int) else (if 57 < a0 then (0 : Int) else (1 : Int))) σ
set_option maxHeartbeats 4000000 in
set_option maxRecDepth 20000 in
theorem s_Reader_isDigit {L : Nat → Nat} (hL : ∀ r, L r < 2147483648) {d : Nat} (hd : 0 ≤ d) {a0 : Int} {Q : Int → IS → Prop} {σ : IS}  (h : w_Reader_isDigit L a0 Q σ) : OkI BF L d 2 b_Reader_isDigit 1 2 0 [] [some (.inl a0)] σ (qi Q) := by
  unfold w_Reader_isDigit at h
  refine k_sb (lv' := [some (.inl a0)]) (sb_s sb_nil) ?_
  refine k_iload_n d_Reader_isDigit_0 rfl ?_
  refine k_bipush d_Reader_isDigit_1 cB_48 ?_
  have hV1 : OkI BF L d 2 b_Reader_isDigit 1 2 17 [.inl (if a0 < 48 then (0 : Int) else (if 57 < a0 then (0 : Int) else (1 : Int)))] [some (.inl a0)] σ (qi Q) := by
    exact k_iret d_Reader_isDigit_17 (Or.inr ⟨rfl, it01 (Or.inl rfl) (it01 (Or.inl rfl) (Or.inr rfl))⟩) h
  refine k_iclt d_Reader_isDigit_3 rfl (fun c2 => ?_) (fun c2 => ?_)
  · have hV3 := k_eqI (if_pos c2) hV1
    refine k_iconst d_Reader_isDigit_16 cI_0 ?_
    exact hV3
  · have hV4 := k_eqI (if_neg c2) hV1
    refine k_iload_n d_Reader_isDigit_6 rfl ?_
    refine k_bipush d_Reader_isDigit_7 cB_57 ?_
    refine k_icgt d_Reader_isDigit_9 rfl (fun c5 => ?_) (fun c5 => ?_)
    · have hV6 := k_eqI (if_pos c5) hV4
      refine k_iconst d_Reader_isDigit_16 cI_0 ?_
      exact hV6
    · have hV7 := k_eqI (if_neg c5) hV4
      refine k_iconst d_Reader_isDigit_12 cI_1 ?_
      refine k_goto d_Reader_isDigit_13 rfl ?_
      exact hV7
theorem d_Reader_isLetter_0 : decode b_Reader_isLetter 0 = .ok (.iload_n 0, 1) := by decide +kernel
theorem d_Reader_isLetter_1 : decode b_Reader_isLetter 1 = .ok (.bipush 97, 2) := by decide +kernel
theorem d_Reader_isLetter_3 : decode b_Reader_isLetter 3 = .ok (.if_icmp .lt 9, 3) := by decide +kernel
theorem d_Reader_isLetter_6 : decode b_Reader_isLetter 6 = .ok (.iload_n 0, 1) := by decide +kernel
theorem d_Reader_isLetter_7 : decode b_Reader_isLetter 7 = .ok (.bipush 122, 2) := by decide +kernel
theorem d_Reader_isLetter_9 : decode b_Reader_isLetter 9 = .ok (.if_icmp .le 15, 3) := by decide +kernel
theorem d_Reader_isLetter_12 : decode b_Reader_isLetter 12 = .ok (.iload_n 0, 1) := by decide +kernel
theorem d_Reader_isLetter_13 : decode b_Reader_isLetter 13 = .ok (.bipush 65, 2) := by decide +kernel
theorem d_Reader_isLetter_15 : decode b_Reader_isLetter 15 = .ok (.if_icmp .lt 13, 3) := by decide +kernel
theorem d_Reader_isLetter_18 : decode b_Reader_isLetter 18 = .ok (.iload_n 0, 1) := by decide +kernel
theorem d_Reader_isLetter_19 : decode b_Reader_isLetter 19 = .ok (.bipush 90, 2) := by decide +kernel
theorem d_Reader_isLetter_21 : decode b_Reader_isLetter 21 = .ok (.if_icmp .gt 7, 3) := by decide +kernel
theorem d_Reader_isLetter_24 : decode b_Reader_isLetter 24 = .ok (.iconst 1, 1) := by decide +kernel
theorem d_Reader_isLetter_25 : decode b_Reader_isLetter 25 = .ok (.goto 4, 3) := by decide +kernel
theorem d_Reader_isLetter_28 : decode b_Reader_isLetter 28 = .ok (.iconst 0, 1) := by decide +kernel
theorem d_Reader_isLetter_29 : decode b_Reader_isLetter 29 = .ok (.ireturn, 1) := by decide +kernel
/-- Reader_isLetter -/
def w_Reader_isLetter (L : Nat → Nat) (a0 : Int) (Q : Int → IS → Prop) (σ : IS) : Prop := Q (if a0 < 97 then (if a0 < 65 then (0 : Int) else (if 90 < a0 then (0 : Int) else (1 : Int))) else (if 122 < a0 then (if a0 < 65 then (0 : Int) else (if 90 < a0 then (0 : Int) else (1 : Int))) else (1 : Int))) σ
set_option maxHeartbeats 4000000 in
set_option maxRecDepth 20000 in
theorem s_Reader_isLetter {L : Nat → Nat} (hL : ∀ r, L r < 2147483648) {d : Nat} (hd : 0 ≤ d) {a0 : Int} {Q : Int → IS → Prop} {σ : IS}  (h : w_Reader_isLetter L a0 Q σ) : OkI BF L d 2 b_Reader_isLetter 1 2 0 [] [some (.inl a0)] σ (qi Q) := by
  unfold w_Reader_isLetter at h
  refine k_sb (lv' := [some (.inl a0)]) (sb_s sb_nil) ?_
  refine k_iload_n d_Reader_isLetter_0 rfl ?_
  refine k_bipush d_Reader_isLetter_1 cB_97 ?_
  have hV1 : OkI BF L d 2 b_Reader_isLetter 1 2 29 [.inl (if a0 < 97 then (if a0 < 65 then (0 : Int) else (if 90 < a0 then (0 : Int) else (1 : Int))) else (if 122 < a0 then (if a0 < 65 then (0 : Int) else (if 90 < a0 then (0 : Int) else (1 : Int))) else (1 : Int)))] [some (.inl a0)] σ (qi Q) := by
    exact k_iret d_Reader_isLetter_29 (Or.inr ⟨rfl, it01 (it01 (Or.inl rfl) (it01 (Or.inl rfl) (Or.inr rfl))) (it01 (it01 (Or.inl rfl) (it01 (Or.inl rfl) (Or.inr rfl))) (Or.inr rfl))⟩) h
  refine k_iclt d_Reader_isLetter_3 rfl (fun c2 => ?_) (fun c2 => ?_)
  · have hV3 := k_eqI (if_pos c2) hV1
    refine k_iload_n d_Reader_isLetter_12 rfl ?_
    refine k_bipush d_Reader_isLetter_13 cB_65 ?_
    refine k_iclt d_Reader_isLetter_15 rfl (fun c4 => ?_) (fun c4 => ?_)
    · have hV5 := k_eqI (if_pos c4) hV3
      refine k_iconst d_Reader_isLetter_28 cI_0 ?_
      exact hV5
    · have hV6 := k_eqI (if_neg c4) hV3
      refine k_iload_n d_Reader_isLetter_18 rfl ?_
      refine k_bipush d_Reader_isLetter_19 cB_90 ?_
      refine k_icgt d_Reader_isLetter_21 rfl (fun c7 => ?_) (fun c7 => ?_)
      · have hV8 := k_eqI (if_pos c7) hV6
        refine k_iconst d_Reader_isLetter_28 cI_0 ?_
        exact hV8
      · have hV9 := k_eqI (if_neg c7) hV6
        refine k_iconst d_Reader_isLetter_24 cI_1 ?_
        refine k_goto d_Reader_isLetter_25 rfl ?_
        exact hV9
  · have hV10 := k_eqI (if_neg c2) hV1
    refine k_iload_n d_Reader_isLetter_6 rfl ?_
    refine k_bipush d_Reader_isLetter_7 cB_122 ?_
    refine k_icle d_Reader_isLetter_9 rfl (fun c11 => ?_) (fun c11 => ?_)
    · have hV19 := k_eqI (if_neg c11) hV10
      refine k_iconst d_Reader_isLetter_24 cI_1 ?_
      refine k_goto d_Reader_isLetter_25 rfl ?_
      exact hV19
    · have hV12 := k_eqI (if_pos c11) hV10
      refine k_iload_n d_Reader_isLetter_12 rfl ?_
      refine k_bipush d_Reader_isLetter_13 cB_65 ?_
      refine k_iclt d_Reader_isLetter_15 rfl (fun c13 => ?_) (fun c13 => ?_)
      · have hV14 := k_eqI (if_pos c13) hV12
        refine k_iconst d_Reader_isLetter_28 cI_0 ?_
        exact hV14
      · have hV15 := k_eqI (if_neg c13) hV12
        refine k_iload_n d_Reader_isLetter_18 rfl ?_
        refine k_bipush d_Reader_isLetter_19 cB_90 ?_
        refine k_icgt d_Reader_isLetter_21 rfl (fun c16 => ?_) (fun c16 => ?_)
        · have hV17 := k_eqI (if_pos c16) hV15
          refine k_iconst d_Reader_isLetter_28 cI_0 ?_
          exact hV17
        · have hV18 := k_eqI (if_neg c16) hV15
          refine k_iconst d_Reader_isLetter_24 cI_1 ?_
          refine k_goto d_Reader_isLetter_25 rfl ?_
          exact hV18
theorem d_Content_readLetters_0 : decode b_Content_readLetters 0 = .ok (.aload_n 0, 1) := by decide +kernel
theorem d_Content_readLetters_1 : decode b_Content_readLetters 1 = .ok (.getfield 15, 3) := by decide +kernel
theorem d_Content_readLetters_4 : decode b_Content_readLetters 4 = .ok (.getfield 47, 3) := by decide +kernel
theorem d_Content_readLetters_7 : decode b_Content_readLetters 7 = .ok (.istore_n 2, 1) := by decide +kernel
theorem d_Content_readLetters_8 : decode b_Content_readLetters 8 = .ok (.iload_n 2, 1) := by decide +kernel
theorem d_Content_readLetters_9 : decode b_Content_readLetters 9 = .ok (.istore_n 3, 1) := by decide +kernel
theorem d_Content_readLetters_10 : decode b_Content_readLetters 10 = .ok (.iload_n 3, 1) := by decide +kernel
theorem d_Content_readLetters_11 : decode b_Content_readLetters 11 = .ok (.aload_n 0, 1) := by decide +kernel
theorem d_Content_readLetters_12 : decode b_Content_readLetters 12 = .ok (.getfield 15, 3) := by decide +kernel
theorem d_Content_readLetters_15 : decode b_Content_readLetters 15 = .ok (.getfield 43, 3) := by decide +kernel
theorem d_Content_readLetters_18 : decode b_Content_readLetters 18 = .ok (.if_icmp .ge 77, 3) := by decide +kernel
theorem d_Content_readLetters_21 : decode b_Content_readLetters 21 = .ok (.aload_n 0, 1) := by decide +kernel
theorem d_Content_readLetters_22 : decode b_Content_readLetters 22 = .ok (.getfield 9, 3) := by decide +kernel
theorem d_Content_readLetters_25 : decode b_Content_readLetters 25 = .ok (.getfield 50, 3) := by decide +kernel
theorem d_Content_readLetters_28 : decode b_Content_readLetters 28 = .ok (.iload_n 3, 1) := by decide +kernel
theorem d_Content_readLetters_29 : decode b_Content_readLetters 29 = .ok (.iaload, 1) := by decide +kernel
theorem d_Content_readLetters_30 : decode b_Content_readLetters 30 = .ok (.istore 4, 2) := by decide +kernel
theorem d_Content_readLetters_32 : decode b_Content_readLetters 32 = .ok (.iload 4, 2) := by decide +kernel
theorem d_Content_readLetters_34 : decode b_Content_readLetters 34 = .ok (.invokestatic 180, 3) := by decide +kernel
theorem d_Content_readLetters_37 : decode b_Content_readLetters 37 = .ok (.ifCond .ne 39, 3) := by decide +kernel
theorem d_Content_readLetters_40 : decode b_Content_readLetters 40 = .ok (.iload_n 1, 1) := by decide +kernel
theorem d_Content_readLetters_41 : decode b_Content_readLetters 41 = .ok (.ifCond .eq 54, 3) := by decide +kernel
theorem d_Content_readLetters_44 : decode b_Content_readLetters 44 = .ok (.iload 4, 2) := by decide +kernel
theorem d_Content_readLetters_46 : decode b_Content_readLetters 46 = .ok (.invokestatic 148, 3) := by decide +kernel
theorem d_Content_readLetters_49 : decode b_Content_readLetters 49 = .ok (.ifCond .ne 27, 3) := by decide +kernel
theorem d_Content_readLetters_52 : decode b_Content_readLetters 52 = .ok (.iload 4, 2) := by decide +kernel
theorem d_Content_readLetters_54 : decode b_Content_readLetters 54 = .ok (.bipush 46, 2) := by decide +kernel
theorem d_Content_readLetters_56 : decode b_Content_readLetters 56 = .ok (.if_icmp .eq 20, 3) := by decide +kernel
theorem d_Content_readLetters_59 : decode b_Content_readLetters 59 = .ok (.iload 4, 2) := by decide +kernel
theorem d_Content_readLetters_61 : decode b_Content_readLetters 61 = .ok (.bipush 95, 2) := by decide +kernel
theorem d_Content_readLetters_63 : decode b_Content_readLetters 63 = .ok (.if_icmp .eq 13, 3) := by decide +kernel
theorem d_Content_readLetters_66 : decode b_Content_readLetters 66 = .ok (.iload 4, 2) := by decide +kernel
theorem d_Content_readLetters_68 : decode b_Content_readLetters 68 = .ok (.bipush 45, 2) := by decide +kernel
theorem d_Content_readLetters_70 : decode b_Content_readLetters 70 = .ok (.if_icmp .eq 6, 3) := by decide +kernel
theorem d_Content_readLetters_73 : decode b_Content_readLetters 73 = .ok (.goto 22, 3) := by decide +kernel
theorem d_Content_readLetters_76 : decode b_Content_readLetters 76 = .ok (.aload_n 0, 1) := by decide +kernel
theorem d_Content_readLetters_77 : decode b_Content_readLetters 77 = .ok (.getfield 15, 3) := by decide +kernel
theorem d_Content_readLetters_80 : decode b_Content_readLetters 80 = .ok (.dup, 1) := by decide +kernel
theorem d_Content_readLetters_81 : decode b_Content_readLetters 81 = .ok (.getfield 47, 3) := by decide +kernel
theorem d_Content_readLetters_84 : decode b_Content_readLetters 84 = .ok (.iconst 1, 1) := by decide +kernel
theorem d_Content_readLetters_85 : decode b_Content_readLetters 85 = .ok (.iadd, 1) := by decide +kernel
theorem d_Content_readLetters_86 : decode b_Content_readLetters 86 = .ok (.putfield 47, 3) := by decide +kernel
theorem d_Content_readLetters_89 : decode b_Content_readLetters 89 = .ok (.iinc 3 1, 3) := by decide +kernel
theorem d_Content_readLetters_92 : decode b_Content_readLetters 92 = .ok (.goto (-82), 3) := by decide +kernel
theorem d_Content_readLetters_95 : decode b_Content_readLetters 95 = .ok (.aload_n 0, 1) := by decide +kernel
theorem d_Content_readLetters_96 : decode b_Content_readLetters 96 = .ok (.getfield 15, 3) := by decide +kernel
theorem d_Content_readLetters_99 : decode b_Content_readLetters 99 = .ok (.getfield 47, 3) := by decide +kernel
theorem d_Content_readLetters_102 : decode b_Content_readLetters 102 = .ok (.iload_n 2, 1) := by decide +kernel
theorem d_Content_readLetters_103 : decode b_Content_readLetters 103 = .ok (.if_icmp .ne 11, 3) := by decide +kernel
theorem d_Content_readLetters_106 : decode b_Content_readLetters 106 = .ok (.aload_n 0, 1) := by decide +kernel
theorem d_Content_readLetters_107 : decode b_Content_readLetters 107 = .ok (.getfield 15, 3) := by decide +kernel
theorem d_Content_readLetters_110 : decode b_Content_readLetters 110 = .ok (.iconst 5, 1) := by decide +kernel
theorem d_Content_readLetters_111 : decode b_Content_readLetters 111 = .ok (.invokevirtual 108, 3) := by decide +kernel
theorem d_Content_readLetters_114 : decode b_Content_readLetters 114 = .ok (.return_, 1) := by decide +kernel
/-- Content_readLetters -/
def w_Content_readLetters (L : Nat → Nat) (a1 : Int) (Q : IS → Prop) (σ : IS) : Prop := WL (fun (K1 : Int → IS → Prop) (s3 : Int) (σ4 : IS) => WJ (fun (s7 : Unit) (σ8 : IS) => WJ (fun (s11 : Unit) (σ12 : IS) => Q σ12) (fun J9 => if (σ8.1 2 2) = (σ.1 2 2) then w_Reader_fail L 5 (fun σ14 => J9 () σ14) σ8 else J9 () σ8)) (fun J5 => if s3 < (σ4.1 2 3) then inL L 101 s3 ∧ w_Reader_isDigit L (σ4.2 101 (Int.toNat s3)) (fun v18 σ17 => WJ (fun (s21 : Unit) (σ22 : IS) => inR ((σ22.1 2 2) + 1) ∧ inR (s3 + 1) ∧ K1 (s3 + 1) (pf σ22 2 2 ((σ22.1 2 2) + 1))) (fun J19 => if v18 = 0 then if a1 = 0 then J5 () σ17 else w_Reader_isLetter L (σ4.2 101 (Int.toNat s3)) (fun v28 σ27 => if v28 = 0 ∧ (¬ (σ4.2 101 (Int.toNat s3)) = 46 ∧ (¬ (σ4.2 101 (Int.toNat s3)) = 95 ∧ (¬ (σ4.2 101 (Int.toNat s3)) = 45))) then J5 () σ27 else J19 () σ27) σ17 else J19 () σ17)) σ4 else J5 () σ4)) (σ.1 2 2) σ
set_option maxHeartbeats 4000000 in
set_option maxRecDepth 20000 in
theorem s_Content_readLetters {L : Nat → Nat} (hL : ∀ r, L r < 2147483648) {d : Nat} (hd : 1 ≤ d) {a1 : Int} {Q : IS → Prop} {σ : IS}  (h : w_Content_readLetters L a1 Q σ) : OkI BF L d 7 b_Content_readLetters 5 0 0 [] [some (.inr 7), some (.inl a1)] σ (qv Q) := by
  unfold w_Content_readLetters at h
  obtain ⟨d, rfl⟩ : ∃ e, d = e + 1 := ⟨d - 1, by omega⟩
  refine k_sb (lv' := [some (.inr 7), some (.inl a1), none, none, none]) (sb_s (sb_s (sb_e (sb_e (sb_e sb_nil))))) ?_
  refine k_aload_n d_Content_readLetters_0 rfl ?_
  refine k_getR d_Content_readLetters_1 fl_7_15 ob_7 rfl ?_
  refine k_getI (x := (σ.1 2 2)) d_Content_readLetters_4 fl_7_47 ob_2 rfl rfl ?_
  refine k_istore_n (lv' := [some (.inr 7), some (.inl a1), some (.inl (σ.1 2 2)), none, none]) d_Content_readLetters_7 rfl rfl ?_
  refine k_iload_n d_Content_readLetters_8 rfl ?_
  refine k_istore_n (lv' := [some (.inr 7), some (.inl a1), some (.inl (σ.1 2 2)), some (.inl (σ.1 2 2)), none]) d_Content_readLetters_9 rfl rfl ?_
  refine k_sb (lv' := [some (.inr 7), some (.inl a1), some (.inl (σ.1 2 2)), some (.inl (σ.1 2 2)), none]) (sb_s (sb_s (sb_s (sb_s (sb_s sb_nil))))) ?_
  refine k_loop (S := Int) (st := fun _ => []) (lv := fun s3 => [some (.inr 7), some (.inl a1), some (.inl (σ.1 2 2)), some (.inl s3), none]) (fun K1 hK2 s3 σ4 h => ?_) (σ.1 2 2) _ h
  refine k_iload_n d_Content_readLetters_10 rfl ?_
  refine k_aload_n d_Content_readLetters_11 rfl ?_
  refine k_getR d_Content_readLetters_12 fl_7_15 ob_7 rfl ?_
  refine k_getI (x := (σ4.1 2 3)) d_Content_readLetters_15 fl_7_43 ob_2 rfl rfl ?_
  refine k_join (S := Unit) (pc' := 95) (st' := fun s7 => []) (lv' := fun s7 => [some (.inr 7), none, some (.inl (σ.1 2 2)), none, none]) (fun s7 σ8 h => ?_) (fun J5 hJ6 h => ?_) h
  · refine k_aload_n d_Content_readLetters_95 rfl ?_
    refine k_getR d_Content_readLetters_96 fl_7_15 ob_7 rfl ?_
    refine k_getI (x := (σ8.1 2 2)) d_Content_readLetters_99 fl_7_47 ob_2 rfl rfl ?_
    refine k_iload_n d_Content_readLetters_102 rfl ?_
    refine k_join (S := Unit) (pc' := 114) (st' := fun s11 => []) (lv' := fun s11 => [none, none, none, none, none]) (fun s11 σ12 h => ?_) (fun J9 hJ10 h => ?_) h
    · exact k_ret d_Content_readLetters_114 h
    · refine k_icne d_Content_readLetters_103 rfl (fun c13 => ?_) (fun c13 => ?_)
      · have h := ineg c13 h
        exact k_sb (sb_n (sb_s (sb_n (sb_s (sb_s sb_nil))))) (hJ10 () _ h)
      · have h := ipos c13 h
        refine k_aload_n d_Content_readLetters_106 rfl ?_
        refine k_getR d_Content_readLetters_107 fl_7_15 ob_7 rfl ?_
        refine k_iconst d_Content_readLetters_110 cI_5 ?_
        refine k_cvv [.inl 5] d_Content_readLetters_111 ml_7_108 rfl rfl ob_2 rfl (s_Reader_fail hL (by omega)  h) (fun σ14 h => ?_)
        exact k_sb (sb_n (sb_s (sb_n (sb_s (sb_s sb_nil))))) (hJ10 () _ h)
  · refine k_icge d_Content_readLetters_18 rfl (fun c16 => ?_) (fun c16 => ?_)
    · have h := ineg c16 h
      exact k_sb (sb_s (sb_n (sb_s (sb_n (sb_s sb_nil))))) (hJ6 () _ h)
    · have h := ipos c16 h
      refine k_aload_n d_Content_readLetters_21 rfl ?_
      refine k_getR d_Content_readLetters_22 fl_7_9 ob_7 rfl ?_
      refine k_getR d_Content_readLetters_25 fl_7_50 ob_1 rfl ?_
      refine k_iload_n d_Content_readLetters_28 rfl ?_
      obtain ⟨p36, h⟩ := h
      refine k_ild (x := (σ4.2 101 (Int.toNat s3))) d_Content_readLetters_29 rI_101 p36 rfl ?_
      refine k_istore (lv' := [some (.inr 7), some (.inl a1), some (.inl (σ.1 2 2)), some (.inl s3), some (.inl (σ4.2 101 (Int.toNat s3)))]) d_Content_readLetters_30 rfl rfl ?_
      refine k_iload d_Content_readLetters_32 rfl ?_
      refine k_csi [.inl (σ4.2 101 (Int.toNat s3))] d_Content_readLetters_34 ml_7_180 (Or.inl rfl) rfl rfl rfl (s_Reader_isDigit hL (by omega)  h) (fun v18 σ17 h => ?_)
      refine k_join (S := Unit) (pc' := 76) (st' := fun s21 => []) (lv' := fun s21 => [some (.inr 7), some (.inl a1), some (.inl (σ.1 2 2)), some (.inl s3), none]) (fun s21 σ22 h => ?_) (fun J19 hJ20 h => ?_) h
      · refine k_aload_n d_Content_readLetters_76 rfl ?_
        refine k_getR d_Content_readLetters_77 fl_7_15 ob_7 rfl ?_
        refine k_dup d_Content_readLetters_80 ?_
        refine k_getI (x := (σ22.1 2 2)) d_Content_readLetters_81 fl_7_47 ob_2 rfl rfl ?_
        refine k_iconst d_Content_readLetters_84 cI_1 ?_
        obtain ⟨p24, h⟩ := h
        refine k_iadd d_Content_readLetters_85 p24 ?_
        refine k_putI d_Content_readLetters_86 fl_7_47 ob_2 rfl ?_
        obtain ⟨p23, h⟩ := h
        refine k_iinc (lv' := [some (.inr 7), some (.inl a1), some (.inl (σ.1 2 2)), some (.inl (s3 + 1)), none]) d_Content_readLetters_89 cI_1 rfl rfl p23 rfl ?_
        refine k_goto d_Content_readLetters_92 rfl ?_
        exact k_sb (sb_s (sb_s (sb_s (sb_s (sb_s sb_nil))))) (hK2 (s3 + 1) _ h)
      · refine k_ifne d_Content_readLetters_37 rfl (fun c25 => ?_) (fun c25 => ?_)
        · have h := ineg c25 h
          exact k_sb (sb_s (sb_s (sb_s (sb_s (sb_n sb_nil))))) (hJ20 () _ h)
        · have h := ipos c25 h
          refine k_iload_n d_Content_readLetters_40 rfl ?_
          refine k_ifeq d_Content_readLetters_41 rfl (fun c26 => ?_) (fun c26 => ?_)
          · have h := ipos c26 h
            exact k_sb (sb_s (sb_n (sb_s (sb_n (sb_n sb_nil))))) (hJ6 () _ h)
          · have h := ineg c26 h
            refine k_iload d_Content_readLetters_44 rfl ?_
            refine k_csi [.inl (σ4.2 101 (Int.toNat s3))] d_Content_readLetters_46 ml_7_148 (Or.inl rfl) rfl rfl rfl (s_Reader_isLetter hL (by omega)  h) (fun v28 σ27 h => ?_)
            have hX29 : (v28 = 0 ∧ (¬ (σ4.2 101 (Int.toNat s3)) = 46 ∧ (¬ (σ4.2 101 (Int.toNat s3)) = 95 ∧ (¬ (σ4.2 101 (Int.toNat s3)) = 45)))) → OkI BF L (d + 1) 7 b_Content_readLetters 5 0 73 [] [some (.inr 7), some (.inl a1), some (.inl (σ.1 2 2)), some (.inl s3), some (.inl (σ4.2 101 (Int.toNat s3)))] σ27 (qv Q) := fun e31 => by
              have h := ipos e31 h
              refine k_goto d_Content_readLetters_73 rfl ?_
              exact k_sb (sb_s (sb_n (sb_s (sb_n (sb_n sb_nil))))) (hJ6 () _ h)
            have hY30 : ¬ (v28 = 0 ∧ (¬ (σ4.2 101 (Int.toNat s3)) = 46 ∧ (¬ (σ4.2 101 (Int.toNat s3)) = 95 ∧ (¬ (σ4.2 101 (Int.toNat s3)) = 45)))) → OkI BF L (d + 1) 7 b_Content_readLetters 5 0 76 [] [some (.inr 7), some (.inl a1), some (.inl (σ.1 2 2)), some (.inl s3), some (.inl (σ4.2 101 (Int.toNat s3)))] σ27 (qv Q) := fun e31 => by
              have h := ineg e31 h
              exact k_sb (sb_s (sb_s (sb_s (sb_s (sb_n sb_nil))))) (hJ20 () _ h)
            refine k_ifne d_Content_readLetters_49 rfl (fun c32 => ?_) (fun c32 => ?_)
            · exact hY30 (fun z => c32 z.1)
            · refine k_iload d_Content_readLetters_52 rfl ?_
              refine k_bipush d_Content_readLetters_54 cB_46 ?_
              refine k_iceq d_Content_readLetters_56 rfl (fun c33 => ?_) (fun c33 => ?_)
              · exact hY30 (fun z => (fun z => z.1 c33) z.2)
              · refine k_iload d_Content_readLetters_59 rfl ?_
                refine k_bipush d_Content_readLetters_61 cB_95 ?_
                refine k_iceq d_Content_readLetters_63 rfl (fun c34 => ?_) (fun c34 => ?_)
                · exact hY30 (fun z => (fun z => (fun z => z.1 c34) z.2) z.2)
                · refine k_iload d_Content_readLetters_66 rfl ?_
                  refine k_bipush d_Content_readLetters_68 cB_45 ?_
                  refine k_iceq d_Content_readLetters_70 rfl (fun c35 => ?_) (fun c35 => ?_)
                  · exact hY30 (fun z => (fun z => (fun z => (fun z => z c35) z.2) z.2) z.2)
                  · exact hX29 (⟨c32, ⟨c33, ⟨c34, c35⟩⟩⟩)
theorem d_Content_readQuote_0 : decode b_Content_readQuote 0 = .ok (.aload_n 0, 1) := by decide +kernel
theorem d_Content_readQuote_1 : decode b_Content_readQuote 1 = .ok (.getfield 15, 3) := by decide +kernel
theorem d_Content_readQuote_4 : decode b_Content_readQuote 4 = .ok (.invokevirtual 145, 3) := by decide +kernel
theorem d_Content_readQuote_7 : decode b_Content_readQuote 7 = .ok (.iload_n 1, 1) := by decide +kernel
theorem d_Content_readQuote_8 : decode b_Content_readQuote 8 = .ok (.if_icmp .eq 11, 3) := by decide +kernel
theorem d_Content_readQuote_11 : decode b_Content_readQuote 11 = .ok (.aload_n 0, 1) := by decide +kernel
theorem d_Content_readQuote_12 : decode b_Content_readQuote 12 = .ok (.getfield 15, 3) := by decide +kernel
theorem d_Content_readQuote_15 : decode b_Content_readQuote 15 = .ok (.iconst 5, 1) := by decide +kernel
theorem d_Content_readQuote_16 : decode b_Content_readQuote 16 = .ok (.invokevirtual 108, 3) := by decide +kernel
theorem d_Content_readQuote_19 : decode b_Content_readQuote 19 = .ok (.aload_n 0, 1) := by decide +kernel
theorem d_Content_readQuote_20 : decode b_Content_readQuote 20 = .ok (.getfield 15, 3) := by decide +kernel
theorem d_Content_readQuote_23 : decode b_Content_readQuote 23 = .ok (.dup, 1) := by decide +kernel
theorem d_Content_readQuote_24 : decode b_Content_readQuote 24 = .ok (.getfield 47, 3) := by decide +kernel
theorem d_Content_readQuote_27 : decode b_Content_readQuote 27 = .ok (.iconst 1, 1) := by decide +kernel
theorem d_Content_readQuote_28 : decode b_Content_readQuote 28 = .ok (.iadd, 1) := by decide +kernel
theorem d_Content_readQuote_29 : decode b_Content_readQuote 29 = .ok (.putfield 47, 3) := by decide +kernel
theorem d_Content_readQuote_32 : decode b_Content_readQuote 32 = .ok (.return_, 1) := by decide +kernel
/-- Content_readQuote -/
def w_Content_readQuote (L : Nat → Nat) (a1 : Int) (Q : IS → Prop) (σ : IS) : Prop := w_Reader_peek L  (fun v2 σ1 => WJ (fun (s5 : Unit) (σ6 : IS) => inR ((σ6.1 2 2) + 1) ∧ Q (pf σ6 2 2 ((σ6.1 2 2) + 1))) (fun J3 => if v2 = a1 then J3 () σ1 else w_Reader_fail L 5 (fun σ9 => J3 () σ9) σ1)) σ
set_option maxHeartbeats 4000000 in
set_option maxRecDepth 20000 in
theorem s_Content_readQuote {L : Nat → Nat} (hL : ∀ r, L r < 2147483648) {d : Nat} (hd : 1 ≤ d) {a1 : Int} {Q : IS → Prop} {σ : IS}  (h : w_Content_readQuote L a1 Q σ) : OkI BF L d 7 b_Content_readQuote 2 0 0 [] [some (.inr 7), some (.inl a1)] σ (qv Q) := by
  unfold w_Content_readQuote at h
  obtain ⟨d, rfl⟩ : ∃ e, d = e + 1 := ⟨d - 1, by omega⟩
  refine k_sb (lv' := [some (.inr 7), some (.inl a1)]) (sb_s (sb_s sb_nil)) ?_
  refine k_aload_n d_Content_readQuote_0 rfl ?_
  refine k_getR d_Content_readQuote_1 fl_7_15 ob_7 rfl ?_
  refine k_cvi [] d_Content_readQuote_4 ml_7_145 rfl rfl ob_2 rfl (s_Reader_peek hL (by omega)  h) (fun v2 σ1 h => ?_)
  refine k_iload_n d_Content_readQuote_7 rfl ?_
  refine k_join (S := Unit) (pc' := 19) (st' := fun s5 => []) (lv' := fun s5 => [some (.inr 7), none]) (fun s5 σ6 h => ?_) (fun J3 hJ4 h => ?_) h
  · refine k_aload_n d_Content_readQuote_19 rfl ?_
    refine k_getR d_Content_readQuote_20 fl_7_15 ob_7 rfl ?_
    refine k_dup d_Content_readQuote_23 ?_
    refine k_getI (x := (σ6.1 2 2)) d_Content_readQuote_24 fl_7_47 ob_2 rfl rfl ?_
    refine k_iconst d_Content_readQuote_27 cI_1 ?_
    obtain ⟨p7, h⟩ := h
    refine k_iadd d_Content_readQuote_28 p7 ?_
    refine k_putI d_Content_readQuote_29 fl_7_47 ob_2 rfl ?_
    exact k_ret d_Content_readQuote_32 h
  · refine k_iceq d_Content_readQuote_8 rfl (fun c8 => ?_) (fun c8 => ?_)
    · have h := ipos c8 h
      exact k_sb (sb_s (sb_n sb_nil)) (hJ4 () _ h)
    · have h := ineg c8 h
      refine k_aload_n d_Content_readQuote_11 rfl ?_
      refine k_getR d_Content_readQuote_12 fl_7_15 ob_7 rfl ?_
      refine k_iconst d_Content_readQuote_15 cI_5 ?_
      refine k_cvv [.inl 5] d_Content_readQuote_16 ml_7_108 rfl rfl ob_2 rfl (s_Reader_fail hL (by omega)  h) (fun σ9 h => ?_)
      exact k_sb (sb_s (sb_n sb_nil)) (hJ4 () _ h)
theorem d_Reader_skip_0 : decode b_Reader_skip 0 = .ok (.aload_n 0, 1) := by decide +kernel
theorem d_Reader_skip_1 : decode b_Reader_skip 1 = .ok (.aload_n 1, 1) := by decide +kernel
theorem d_Reader_skip_2 : decode b_Reader_skip 2 = .ok (.invokevirtual 62, 3) := by decide +kernel
theorem d_Reader_skip_5 : decode b_Reader_skip 5 = .ok (.istore_n 2, 1) := by decide +kernel
theorem d_Reader_skip_6 : decode b_Reader_skip 6 = .ok (.iload_n 2, 1) := by decide +kernel
theorem d_Reader_skip_7 : decode b_Reader_skip 7 = .ok (.ifCond .eq 16, 3) := by decide +kernel
theorem d_Reader_skip_10 : decode b_Reader_skip 10 = .ok (.aload_n 0, 1) := by decide +kernel
theorem d_Reader_skip_11 : decode b_Reader_skip 11 = .ok (.dup, 1) := by decide +kernel
theorem d_Reader_skip_12 : decode b_Reader_skip 12 = .ok (.getfield 26, 3) := by decide +kernel
theorem d_Reader_skip_15 : decode b_Reader_skip 15 = .ok (.aload_n 1, 1) := by decide +kernel
theorem d_Reader_skip_16 : decode b_Reader_skip 16 = .ok (.invokevirtual 52, 3) := by decide +kernel
theorem d_Reader_skip_19 : decode b_Reader_skip 19 = .ok (.iadd, 1) := by decide +kernel
theorem d_Reader_skip_20 : decode b_Reader_skip 20 = .ok (.putfield 26, 3) := by decide +kernel
theorem d_Reader_skip_23 : decode b_Reader_skip 23 = .ok (.iload_n 2, 1) := by decide +kernel
theorem d_Reader_skip_24 : decode b_Reader_skip 24 = .ok (.ireturn, 1) := by decide +kernel
/-- Reader_skip -/
def w_Reader_skip (L : Nat → Nat) (a1 : Nat) (Q : Int → IS → Prop) (σ : IS) : Prop := w_Reader_at L a1 (fun v2 σ1 => WJ (fun (s5 : Unit) (σ6 : IS) => is01 v2 ∧ Q v2 σ6) (fun J3 => if v2 = 0 then J3 () σ1 else inR ((σ1.1 2 2) + (tN a1)) ∧ J3 () (pf σ1 2 2 ((σ1.1 2 2) + (tN a1))))) σ
set_option maxHeartbeats 4000000 in
set_option maxRecDepth 20000 in
theorem s_Reader_skip {L : Nat → Nat} (hL : ∀ r, L r < 2147483648) {d : Nat} (hd : 1 ≤ d) {a1 : Nat} {Q : Int → IS → Prop} {σ : IS} (ha1 : isT a1) (h : w_Reader_skip L a1 Q σ) : OkI BF L d 2 b_Reader_skip 3 2 0 [] [some (.inr 2), some (.inr a1)] σ (qi Q) := by
  unfold w_Reader_skip at h
  obtain ⟨d, rfl⟩ : ∃ e, d = e + 1 := ⟨d - 1, by omega⟩
  refine k_sb (lv' := [some (.inr 2), some (.inr a1), none]) (sb_s (sb_s (sb_e sb_nil))) ?_
  refine k_aload_n d_Reader_skip_0 rfl ?_
  refine k_aload_n d_Reader_skip_1 rfl ?_
  refine k_cvi [.inr a1] d_Reader_skip_2 ml_2_62 rfl rfl ob_2 rfl (s_Reader_at hL (by omega) ha1 h) (fun v2 σ1 h => ?_)
  refine k_istore_n (lv' := [some (.inr 2), some (.inr a1), some (.inl v2)]) d_Reader_skip_5 rfl rfl ?_
  refine k_iload_n d_Reader_skip_6 rfl ?_
  refine k_join (S := Unit) (pc' := 23) (st' := fun s5 => []) (lv' := fun s5 => [none, none, some (.inl v2)]) (fun s5 σ6 h => ?_) (fun J3 hJ4 h => ?_) h
  · refine k_iload_n d_Reader_skip_23 rfl ?_
    obtain ⟨p7, h⟩ := h
    exact k_iret d_Reader_skip_24 (Or.inr ⟨rfl, p7⟩) h
  · refine k_ifeq d_Reader_skip_7 rfl (fun c8 => ?_) (fun c8 => ?_)
    · have h := ipos c8 h
      exact k_sb (sb_n (sb_n (sb_s sb_nil))) (hJ4 () _ h)
    · have h := ineg c8 h
      refine k_aload_n d_Reader_skip_10 rfl ?_
      refine k_dup d_Reader_skip_11 ?_
      refine k_getI (x := (σ1.1 2 2)) d_Reader_skip_12 fl_2_26 ob_2 rfl rfl ?_
      refine k_aload_n d_Reader_skip_15 rfl ?_
      refine k_tlen d_Reader_skip_16 ml_2_52 ha1 rfl ?_
      obtain ⟨p9, h⟩ := h
      refine k_iadd d_Reader_skip_19 p9 ?_
      refine k_putI d_Reader_skip_20 fl_2_26 ob_2 rfl ?_
      exact k_sb (sb_n (sb_n (sb_s sb_nil))) (hJ4 () _ h)
theorem d_Reader_isWrittenAs_0 : decode b_Reader_isWrittenAs 0 = .ok (.iload_n 2, 1) := by decide +kernel
theorem d_Reader_isWrittenAs_1 : decode b_Reader_isWrittenAs 1 = .ok (.aload_n 3, 1) := by decide +kernel
theorem d_Reader_isWrittenAs_2 : decode b_Reader_isWrittenAs 2 = .ok (.invokevirtual 52, 3) := by decide +kernel
theorem d_Reader_isWrittenAs_5 : decode b_Reader_isWrittenAs 5 = .ok (.if_icmp .eq 5, 3) := by decide +kernel
theorem d_Reader_isWrittenAs_8 : decode b_Reader_isWrittenAs 8 = .ok (.iconst 0, 1) := by decide +kernel
theorem d_Reader_isWrittenAs_9 : decode b_Reader_isWrittenAs 9 = .ok (.ireturn, 1) := by decide +kernel
theorem d_Reader_isWrittenAs_10 : decode b_Reader_isWrittenAs 10 = .ok (.iconst 0, 1) := by decide +kernel
theorem d_Reader_isWrittenAs_11 : decode b_Reader_isWrittenAs 11 = .ok (.istore 4, 2) := by decide +kernel
theorem d_Reader_isWrittenAs_13 : decode b_Reader_isWrittenAs 13 = .ok (.iload 4, 2) := by decide +kernel
theorem d_Reader_isWrittenAs_15 : decode b_Reader_isWrittenAs 15 = .ok (.iload_n 2, 1) := by decide +kernel
theorem d_Reader_isWrittenAs_16 : decode b_Reader_isWrittenAs 16 = .ok (.if_icmp .ge 55, 3) := by decide +kernel
theorem d_Reader_isWrittenAs_19 : decode b_Reader_isWrittenAs 19 = .ok (.aload_n 0, 1) := by decide +kernel
theorem d_Reader_isWrittenAs_20 : decode b_Reader_isWrittenAs 20 = .ok (.getfield 21, 3) := by decide +kernel
theorem d_Reader_isWrittenAs_23 : decode b_Reader_isWrittenAs 23 = .ok (.iload_n 1, 1) := by decide +kernel
theorem d_Reader_isWrittenAs_24 : decode b_Reader_isWrittenAs 24 = .ok (.iload 4, 2) := by decide +kernel
theorem d_Reader_isWrittenAs_26 : decode b_Reader_isWrittenAs 26 = .ok (.iadd, 1) := by decide +kernel
theorem d_Reader_isWrittenAs_27 : decode b_Reader_isWrittenAs 27 = .ok (.iaload, 1) := by decide +kernel
theorem d_Reader_isWrittenAs_28 : decode b_Reader_isWrittenAs 28 = .ok (.istore 5, 2) := by decide +kernel
theorem d_Reader_isWrittenAs_30 : decode b_Reader_isWrittenAs 30 = .ok (.iload 5, 2) := by decide +kernel
theorem d_Reader_isWrittenAs_32 : decode b_Reader_isWrittenAs 32 = .ok (.bipush 65, 2) := by decide +kernel
theorem d_Reader_isWrittenAs_34 : decode b_Reader_isWrittenAs 34 = .ok (.if_icmp .lt 18, 3) := by decide +kernel
theorem d_Reader_isWrittenAs_37 : decode b_Reader_isWrittenAs 37 = .ok (.iload 5, 2) := by decide +kernel
theorem d_Reader_isWrittenAs_39 : decode b_Reader_isWrittenAs 39 = .ok (.bipush 90, 2) := by decide +kernel
theorem d_Reader_isWrittenAs_41 : decode b_Reader_isWrittenAs 41 = .ok (.if_icmp .gt 11, 3) := by decide +kernel
theorem d_Reader_isWrittenAs_44 : decode b_Reader_isWrittenAs 44 = .ok (.iload 5, 2) := by decide +kernel
theorem d_Reader_isWrittenAs_46 : decode b_Reader_isWrittenAs 46 = .ok (.bipush 32, 2) := by decide +kernel
theorem d_Reader_isWrittenAs_48 : decode b_Reader_isWrittenAs 48 = .ok (.iadd, 1) := by decide +kernel
theorem d_Reader_isWrittenAs_49 : decode b_Reader_isWrittenAs 49 = .ok (.goto 5, 3) := by decide +kernel
theorem d_Reader_isWrittenAs_52 : decode b_Reader_isWrittenAs 52 = .ok (.iload 5, 2) := by decide +kernel
theorem d_Reader_isWrittenAs_54 : decode b_Reader_isWrittenAs 54 = .ok (.aload_n 3, 1) := by decide +kernel
theorem d_Reader_isWrittenAs_55 : decode b_Reader_isWrittenAs 55 = .ok (.iload 4, 2) := by decide +kernel
theorem d_Reader_isWrittenAs_57 : decode b_Reader_isWrittenAs 57 = .ok (.invokevirtual 58, 3) := by decide +kernel
theorem d_Reader_isWrittenAs_60 : decode b_Reader_isWrittenAs 60 = .ok (.if_icmp .eq 5, 3) := by decide +kernel
theorem d_Reader_isWrittenAs_63 : decode b_Reader_isWrittenAs 63 = .ok (.iconst 0, 1) := by decide +kernel
theorem d_Reader_isWrittenAs_64 : decode b_Reader_isWrittenAs 64 = .ok (.ireturn, 1) := by decide +kernel
theorem d_Reader_isWrittenAs_65 : decode b_Reader_isWrittenAs 65 = .ok (.iinc 4 1, 3) := by decide +kernel
theorem d_Reader_isWrittenAs_68 : decode b_Reader_isWrittenAs 68 = .ok (.goto (-55), 3) := by decide +kernel
theorem d_Reader_isWrittenAs_71 : decode b_Reader_isWrittenAs 71 = .ok (.iconst 1, 1) := by decide +kernel
theorem d_Reader_isWrittenAs_72 : decode b_Reader_isWrittenAs 72 = .ok (.ireturn, 1) := by decide +kernel
/-- Reader_isWrittenAs -/
def w_Reader_isWrittenAs (L : Nat → Nat) (a1 : Int) (a2 : Int) (a3 : Nat) (Q : Int → IS → Prop) (σ : IS) : Prop := if a2 = (tN a3) then WL (fun (K2 : Int → IS → Prop) (s4 : Int) (σ5 : IS) => if s4 < a2 then inR (a1 + s4) ∧ inL L 101 (a1 + s4) ∧ ((¬ (σ5.2 101 (Int.toNat (a1 + s4))) < 65 → (¬ 90 < (σ5.2 101 (Int.toNat (a1 + s4))) → inR ((σ5.2 101 (Int.toNat (a1 + s4))) + 32)))) ∧ ((0 : Int) ≤ s4 ∧ s4 < tN a3) ∧ if (if (σ5.2 101 (Int.toNat (a1 + s4))) < 65 then (σ5.2 101 (Int.toNat (a1 + s4))) else (if 90 < (σ5.2 101 (Int.toNat (a1 + s4))) then (σ5.2 101 (Int.toNat (a1 + s4))) else ((σ5.2 101 (Int.toNat (a1 + s4))) + 32))) = (tC a3 s4) then inR (s4 + 1) ∧ K2 (s4 + 1) σ5 else Q 0 σ5 else Q 1 σ5) 0 σ else Q 0 σ
set_option maxHeartbeats 4000000 in
set_option maxRecDepth 20000 in
theorem s_Reader_isWrittenAs {L : Nat → Nat} (hL : ∀ r, L r < 2147483648) {d : Nat} (hd : 0 ≤ d) {a1 : Int} {a2 : Int} {a3 : Nat} {Q : Int → IS → Prop} {σ : IS} (ha3 : isT a3) (h : w_Reader_isWrittenAs L a1 a2 a3 Q σ) : OkI BF L d 2 b_Reader_isWrittenAs 6 2 0 [] [some (.inr 2), some (.inl a1), some (.inl a2), some (.inr a3)] σ (qi Q) := by
  unfold w_Reader_isWrittenAs at h
  refine k_sb (lv' := [some (.inr 2), some (.inl a1), some (.inl a2), some (.inr a3), none, none]) (sb_s (sb_s (sb_s (sb_s (sb_e (sb_e sb_nil)))))) ?_
  refine k_iload_n d_Reader_isWrittenAs_0 rfl ?_
  refine k_aload_n d_Reader_isWrittenAs_1 rfl ?_
  refine k_tlen d_Reader_isWrittenAs_2 ml_2_52 ha3 rfl ?_
  refine k_iceq d_Reader_isWrittenAs_5 rfl (fun c1 => ?_) (fun c1 => ?_)
  · have h := ipos c1 h
    refine k_iconst d_Reader_isWrittenAs_10 cI_0 ?_
    refine k_istore (lv' := [some (.inr 2), some (.inl a1), some (.inl a2), some (.inr a3), some (.inl 0), none]) d_Reader_isWrittenAs_11 rfl rfl ?_
    refine k_sb (lv' := [some (.inr 2), some (.inl a1), some (.inl a2), some (.inr a3), some (.inl 0), none]) (sb_s (sb_s (sb_s (sb_s (sb_s (sb_s sb_nil)))))) ?_
    refine k_loop (S := Int) (st := fun _ => []) (lv := fun s4 => [some (.inr 2), some (.inl a1), some (.inl a2), some (.inr a3), some (.inl s4), none]) (fun K2 hK3 s4 σ5 h => ?_) 0 _ h
    refine k_iload d_Reader_isWrittenAs_13 rfl ?_
    refine k_iload_n d_Reader_isWrittenAs_15 rfl ?_
    refine k_icge d_Reader_isWrittenAs_16 rfl (fun c6 => ?_) (fun c6 => ?_)
    · have h := ineg c6 h
      refine k_iconst d_Reader_isWrittenAs_71 cI_1 ?_
      exact k_iret d_Reader_isWrittenAs_72 (Or.inr ⟨rfl, Or.inr rfl⟩) h
    · have h := ipos c6 h
      refine k_aload_n d_Reader_isWrittenAs_19 rfl ?_
      refine k_getR d_Reader_isWrittenAs_20 fl_2_21 ob_2 rfl ?_
      refine k_iload_n d_Reader_isWrittenAs_23 rfl ?_
      refine k_iload d_Reader_isWrittenAs_24 rfl ?_
      obtain ⟨p22, h⟩ := h
      refine k_iadd d_Reader_isWrittenAs_26 p22 ?_
      obtain ⟨p21, h⟩ := h
      refine k_ild (x := (σ5.2 101 (Int.toNat (a1 + s4)))) d_Reader_isWrittenAs_27 rI_101 p21 rfl ?_
      refine k_istore (lv' := [some (.inr 2), some (.inl a1), some (.inl a2), some (.inr a3), some (.inl s4), some (.inl (σ5.2 101 (Int.toNat (a1 + s4))))]) d_Reader_isWrittenAs_28 rfl rfl ?_
      refine k_iload d_Reader_isWrittenAs_30 rfl ?_
      refine k_bipush d_Reader_isWrittenAs_32 cB_65 ?_
      obtain ⟨pt12, h⟩ := h
      have hV11 : OkI BF L d 2 b_Reader_isWrittenAs 6 2 54 [.inl (if (σ5.2 101 (Int.toNat (a1 + s4))) < 65 then (σ5.2 101 (Int.toNat (a1 + s4))) else (if 90 < (σ5.2 101 (Int.toNat (a1 + s4))) then (σ5.2 101 (Int.toNat (a1 + s4))) else ((σ5.2 101 (Int.toNat (a1 + s4))) + 32)))] [some (.inr 2), some (.inl a1), some (.inl a2), some (.inr a3), some (.inl s4), some (.inl (σ5.2 101 (Int.toNat (a1 + s4))))] σ5 (qi Q) := by
        refine k_aload_n d_Reader_isWrittenAs_54 rfl ?_
        refine k_iload d_Reader_isWrittenAs_55 rfl ?_
        obtain ⟨p10, h⟩ := h
        refine k_tchr d_Reader_isWrittenAs_57 ml_2_58 ha3 p10 rfl ?_
        refine k_iceq d_Reader_isWrittenAs_60 rfl (fun c8 => ?_) (fun c8 => ?_)
        · have h := ipos c8 h
          obtain ⟨p9, h⟩ := h
          refine k_iinc (lv' := [some (.inr 2), some (.inl a1), some (.inl a2), some (.inr a3), some (.inl (s4 + 1)), some (.inl (σ5.2 101 (Int.toNat (a1 + s4))))]) d_Reader_isWrittenAs_65 cI_1 rfl rfl p9 rfl ?_
          refine k_goto d_Reader_isWrittenAs_68 rfl ?_
          exact k_sb (sb_s (sb_s (sb_s (sb_s (sb_s (sb_n sb_nil)))))) (hK3 (s4 + 1) _ h)
        · have h := ineg c8 h
          refine k_iconst d_Reader_isWrittenAs_63 cI_0 ?_
          exact k_iret d_Reader_isWrittenAs_64 (Or.inr ⟨rfl, Or.inl rfl⟩) h
      have pb13 := pt12
      refine k_iclt d_Reader_isWrittenAs_34 rfl (fun c14 => ?_) (fun c14 => ?_)
      · have hV15 := k_eqI (if_pos c14) hV11
        refine k_iload d_Reader_isWrittenAs_52 rfl ?_
        exact hV15
      · have pb13 := pb13 c14
        have hV16 := k_eqI (if_neg c14) hV11
        have pb17 := pb13
        refine k_iload d_Reader_isWrittenAs_37 rfl ?_
        refine k_bipush d_Reader_isWrittenAs_39 cB_90 ?_
        refine k_icgt d_Reader_isWrittenAs_41 rfl (fun c18 => ?_) (fun c18 => ?_)
        · have hV19 := k_eqI (if_pos c18) hV16
          refine k_iload d_Reader_isWrittenAs_52 rfl ?_
          exact hV19
        · have pb17 := pb17 c18
          have hV20 := k_eqI (if_neg c18) hV16
          have p7 := pb17
          refine k_iload d_Reader_isWrittenAs_44 rfl ?_
          refine k_bipush d_Reader_isWrittenAs_46 cB_32 ?_
          refine k_iadd d_Reader_isWrittenAs_48 p7 ?_
          refine k_goto d_Reader_isWrittenAs_49 rfl ?_
          exact hV20
  · have h := ineg c1 h
    refine k_iconst d_Reader_isWrittenAs_8 cI_0 ?_
    exact k_iret d_Reader_isWrittenAs_9 (Or.inr ⟨rfl, Or.inl rfl⟩) h
