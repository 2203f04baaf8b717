theorem d_Model_read_0 : decode b_Model_read 0 = .ok (.aload_n 0, 1) := by decide +kernel
theorem d_Model_read_1 : decode b_Model_read 1 = .ok (.getfield 15, 3) := by decide +kernel
theorem d_Model_read_4 : decode b_Model_read 4 = .ok (.iload_n 1, 1) := by decide +kernel
theorem d_Model_read_5 : decode b_Model_read 5 = .ok (.putfield 48, 3) := by decide +kernel
theorem d_Model_read_8 : decode b_Model_read 8 = .ok (.aload_n 0, 1) := by decide +kernel
theorem d_Model_read_9 : decode b_Model_read 9 = .ok (.getfield 15, 3) := by decide +kernel
theorem d_Model_read_12 : decode b_Model_read 12 = .ok (.aload_n 0, 1) := by decide +kernel
theorem d_Model_read_13 : decode b_Model_read 13 = .ok (.getfield 11, 3) := by decide +kernel
theorem d_Model_read_16 : decode b_Model_read 16 = .ok (.getfield 54, 3) := by decide +kernel
theorem d_Model_read_19 : decode b_Model_read 19 = .ok (.putfield 59, 3) := by decide +kernel
theorem d_Model_read_22 : decode b_Model_read 22 = .ok (.aload_n 0, 1) := by decide +kernel
theorem d_Model_read_23 : decode b_Model_read 23 = .ok (.iconst 0, 1) := by decide +kernel
theorem d_Model_read_24 : decode b_Model_read 24 = .ok (.putfield 62, 3) := by decide +kernel
theorem d_Model_read_27 : decode b_Model_read 27 = .ok (.aload_n 0, 1) := by decide +kernel
theorem d_Model_read_28 : decode b_Model_read 28 = .ok (.getfield 36, 3) := by decide +kernel
theorem d_Model_read_31 : decode b_Model_read 31 = .ok (.iconst 0, 1) := by decide +kernel
theorem d_Model_read_32 : decode b_Model_read 32 = .ok (.iconst 0, 1) := by decide +kernel
theorem d_Model_read_33 : decode b_Model_read 33 = .ok (.bastore, 1) := by decide +kernel
theorem d_Model_read_34 : decode b_Model_read 34 = .ok (.iconst 0, 1) := by decide +kernel
theorem d_Model_read_35 : decode b_Model_read 35 = .ok (.istore_n 2, 1) := by decide +kernel
theorem d_Model_read_36 : decode b_Model_read 36 = .ok (.iconst 0, 1) := by decide +kernel
theorem d_Model_read_37 : decode b_Model_read 37 = .ok (.istore_n 3, 1) := by decide +kernel
theorem d_Model_read_38 : decode b_Model_read 38 = .ok (.iload_n 3, 1) := by decide +kernel
theorem d_Model_read_39 : decode b_Model_read 39 = .ok (.ldc 65, 2) := by decide +kernel
theorem d_Model_read_41 : decode b_Model_read 41 = .ok (.if_icmp .ge 198, 3) := by decide +kernel
theorem d_Model_read_44 : decode b_Model_read 44 = .ok (.aload_n 0, 1) := by decide +kernel
theorem d_Model_read_45 : decode b_Model_read 45 = .ok (.getfield 36, 3) := by decide +kernel
theorem d_Model_read_48 : decode b_Model_read 48 = .ok (.iconst 0, 1) := by decide +kernel
theorem d_Model_read_49 : decode b_Model_read 49 = .ok (.baload, 1) := by decide +kernel
theorem d_Model_read_50 : decode b_Model_read 50 = .ok (.ifCond .ne 189, 3) := by decide +kernel
theorem d_Model_read_53 : decode b_Model_read 53 = .ok (.aload_n 0, 1) := by decide +kernel
theorem d_Model_read_54 : decode b_Model_read 54 = .ok (.getfield 15, 3) := by decide +kernel
theorem d_Model_read_57 : decode b_Model_read 57 = .ok (.getfield 48, 3) := by decide +kernel
theorem d_Model_read_60 : decode b_Model_read 60 = .ok (.aload_n 0, 1) := by decide +kernel
theorem d_Model_read_61 : decode b_Model_read 61 = .ok (.getfield 15, 3) := by decide +kernel
theorem d_Model_read_64 : decode b_Model_read 64 = .ok (.getfield 59, 3) := by decide +kernel
theorem d_Model_read_67 : decode b_Model_read 67 = .ok (.if_icmp .ge 172, 3) := by decide +kernel
theorem d_Model_read_70 : decode b_Model_read 70 = .ok (.aload_n 0, 1) := by decide +kernel
theorem d_Model_read_71 : decode b_Model_read 71 = .ok (.getfield 15, 3) := by decide +kernel
theorem d_Model_read_74 : decode b_Model_read 74 = .ok (.invokevirtual 66, 3) := by decide +kernel
theorem d_Model_read_77 : decode b_Model_read 77 = .ok (.istore 4, 2) := by decide +kernel
theorem d_Model_read_79 : decode b_Model_read 79 = .ok (.iload 4, 2) := by decide +kernel
theorem d_Model_read_81 : decode b_Model_read 81 = .ok (.bipush 40, 2) := by decide +kernel
theorem d_Model_read_83 : decode b_Model_read 83 = .ok (.if_icmp .ne 35, 3) := by decide +kernel
theorem d_Model_read_86 : decode b_Model_read 86 = .ok (.iload_n 2, 1) := by decide +kernel
theorem d_Model_read_87 : decode b_Model_read 87 = .ok (.bipush 62, 2) := by decide +kernel
theorem d_Model_read_89 : decode b_Model_read 89 = .ok (.if_icmp .ge 29, 3) := by decide +kernel
theorem d_Model_read_92 : decode b_Model_read 92 = .ok (.aload_n 0, 1) := by decide +kernel
theorem d_Model_read_93 : decode b_Model_read 93 = .ok (.getfield 15, 3) := by decide +kernel
theorem d_Model_read_96 : decode b_Model_read 96 = .ok (.dup, 1) := by decide +kernel
theorem d_Model_read_97 : decode b_Model_read 97 = .ok (.getfield 48, 3) := by decide +kernel
theorem d_Model_read_100 : decode b_Model_read 100 = .ok (.iconst 1, 1) := by decide +kernel
theorem d_Model_read_101 : decode b_Model_read 101 = .ok (.iadd, 1) := by decide +kernel
theorem d_Model_read_102 : decode b_Model_read 102 = .ok (.putfield 48, 3) := by decide +kernel
theorem d_Model_read_105 : decode b_Model_read 105 = .ok (.iinc 2 1, 3) := by decide +kernel
theorem d_Model_read_108 : decode b_Model_read 108 = .ok (.aload_n 0, 1) := by decide +kernel
theorem d_Model_read_109 : decode b_Model_read 109 = .ok (.getfield 36, 3) := by decide +kernel
theorem d_Model_read_112 : decode b_Model_read 112 = .ok (.iload_n 2, 1) := by decide +kernel
theorem d_Model_read_113 : decode b_Model_read 113 = .ok (.iconst 0, 1) := by decide +kernel
theorem d_Model_read_114 : decode b_Model_read 114 = .ok (.bastore, 1) := by decide +kernel
theorem d_Model_read_115 : decode b_Model_read 115 = .ok (.goto 118, 3) := by decide +kernel
theorem d_Model_read_118 : decode b_Model_read 118 = .ok (.iload 4, 2) := by decide +kernel
theorem d_Model_read_120 : decode b_Model_read 120 = .ok (.bipush 41, 2) := by decide +kernel
theorem d_Model_read_122 : decode b_Model_read 122 = .ok (.if_icmp .ne 36, 3) := by decide +kernel
theorem d_Model_read_125 : decode b_Model_read 125 = .ok (.iload_n 2, 1) := by decide +kernel
theorem d_Model_read_126 : decode b_Model_read 126 = .ok (.ifCond .le 32, 3) := by decide +kernel
theorem d_Model_read_129 : decode b_Model_read 129 = .ok (.aload_n 0, 1) := by decide +kernel
theorem d_Model_read_130 : decode b_Model_read 130 = .ok (.getfield 15, 3) := by decide +kernel
theorem d_Model_read_133 : decode b_Model_read 133 = .ok (.dup, 1) := by decide +kernel
theorem d_Model_read_134 : decode b_Model_read 134 = .ok (.getfield 48, 3) := by decide +kernel
theorem d_Model_read_137 : decode b_Model_read 137 = .ok (.iconst 1, 1) := by decide +kernel
theorem d_Model_read_138 : decode b_Model_read 138 = .ok (.iadd, 1) := by decide +kernel
theorem d_Model_read_139 : decode b_Model_read 139 = .ok (.putfield 48, 3) := by decide +kernel
theorem d_Model_read_142 : decode b_Model_read 142 = .ok (.aload_n 0, 1) := by decide +kernel
theorem d_Model_read_143 : decode b_Model_read 143 = .ok (.iload_n 2, 1) := by decide +kernel
theorem d_Model_read_144 : decode b_Model_read 144 = .ok (.invokevirtual 70, 3) := by decide +kernel
theorem d_Model_read_147 : decode b_Model_read 147 = .ok (.iinc 2 (-1), 3) := by decide +kernel
theorem d_Model_read_150 : decode b_Model_read 150 = .ok (.aload_n 0, 1) := by decide +kernel
theorem d_Model_read_151 : decode b_Model_read 151 = .ok (.iload_n 2, 1) := by decide +kernel
theorem d_Model_read_152 : decode b_Model_read 152 = .ok (.invokevirtual 74, 3) := by decide +kernel
theorem d_Model_read_155 : decode b_Model_read 155 = .ok (.goto 78, 3) := by decide +kernel
theorem d_Model_read_158 : decode b_Model_read 158 = .ok (.iload 4, 2) := by decide +kernel
theorem d_Model_read_160 : decode b_Model_read 160 = .ok (.bipush 124, 2) := by decide +kernel
theorem d_Model_read_162 : decode b_Model_read 162 = .ok (.if_icmp .eq 18, 3) := by decide +kernel
theorem d_Model_read_165 : decode b_Model_read 165 = .ok (.iload 4, 2) := by decide +kernel
theorem d_Model_read_167 : decode b_Model_read 167 = .ok (.bipush 44, 2) := by decide +kernel
theorem d_Model_read_169 : decode b_Model_read 169 = .ok (.if_icmp .eq 11, 3) := by decide +kernel
theorem d_Model_read_172 : decode b_Model_read 172 = .ok (.iload 4, 2) := by decide +kernel
theorem d_Model_read_174 : decode b_Model_read 174 = .ok (.invokestatic 77, 3) := by decide +kernel
theorem d_Model_read_177 : decode b_Model_read 177 = .ok (.ifCond .eq 44, 3) := by decide +kernel
theorem d_Model_read_180 : decode b_Model_read 180 = .ok (.aload_n 0, 1) := by decide +kernel
theorem d_Model_read_181 : decode b_Model_read 181 = .ok (.getfield 15, 3) := by decide +kernel
theorem d_Model_read_184 : decode b_Model_read 184 = .ok (.dup, 1) := by decide +kernel
theorem d_Model_read_185 : decode b_Model_read 185 = .ok (.getfield 48, 3) := by decide +kernel
theorem d_Model_read_188 : decode b_Model_read 188 = .ok (.iconst 1, 1) := by decide +kernel
theorem d_Model_read_189 : decode b_Model_read 189 = .ok (.iadd, 1) := by decide +kernel
theorem d_Model_read_190 : decode b_Model_read 190 = .ok (.putfield 48, 3) := by decide +kernel
theorem d_Model_read_193 : decode b_Model_read 193 = .ok (.aload_n 0, 1) := by decide +kernel
theorem d_Model_read_194 : decode b_Model_read 194 = .ok (.getfield 39, 3) := by decide +kernel
theorem d_Model_read_197 : decode b_Model_read 197 = .ok (.iload_n 2, 1) := by decide +kernel
theorem d_Model_read_198 : decode b_Model_read 198 = .ok (.iload 4, 2) := by decide +kernel
theorem d_Model_read_200 : decode b_Model_read 200 = .ok (.invokestatic 77, 3) := by decide +kernel
theorem d_Model_read_203 : decode b_Model_read 203 = .ok (.ifCond .eq 12, 3) := by decide +kernel
theorem d_Model_read_206 : decode b_Model_read 206 = .ok (.aload_n 0, 1) := by decide +kernel
theorem d_Model_read_207 : decode b_Model_read 207 = .ok (.getfield 39, 3) := by decide +kernel
theorem d_Model_read_210 : decode b_Model_read 210 = .ok (.iload_n 2, 1) := by decide +kernel
theorem d_Model_read_211 : decode b_Model_read 211 = .ok (.iaload, 1) := by decide +kernel
theorem d_Model_read_212 : decode b_Model_read 212 = .ok (.goto 5, 3) := by decide +kernel
theorem d_Model_read_215 : decode b_Model_read 215 = .ok (.iload 4, 2) := by decide +kernel
theorem d_Model_read_217 : decode b_Model_read 217 = .ok (.iastore, 1) := by decide +kernel
theorem d_Model_read_218 : decode b_Model_read 218 = .ok (.goto 15, 3) := by decide +kernel
theorem d_Model_read_221 : decode b_Model_read 221 = .ok (.aload_n 0, 1) := by decide +kernel
theorem d_Model_read_222 : decode b_Model_read 222 = .ok (.iload_n 2, 1) := by decide +kernel
theorem d_Model_read_223 : decode b_Model_read 223 = .ok (.iconst 1, 1) := by decide +kernel
theorem d_Model_read_224 : decode b_Model_read 224 = .ok (.iadd, 1) := by decide +kernel
theorem d_Model_read_225 : decode b_Model_read 225 = .ok (.invokevirtual 81, 3) := by decide +kernel
theorem d_Model_read_228 : decode b_Model_read 228 = .ok (.aload_n 0, 1) := by decide +kernel
theorem d_Model_read_229 : decode b_Model_read 229 = .ok (.iload_n 2, 1) := by decide +kernel
theorem d_Model_read_230 : decode b_Model_read 230 = .ok (.invokevirtual 74, 3) := by decide +kernel
theorem d_Model_read_233 : decode b_Model_read 233 = .ok (.iinc 3 1, 3) := by decide +kernel
theorem d_Model_read_236 : decode b_Model_read 236 = .ok (.goto (-198), 3) := by decide +kernel
theorem d_Model_read_239 : decode b_Model_read 239 = .ok (.return_, 1) := by decide +kernel
/-- Model_read -/
def w_Model_read (L : Nat → Nat) (a1 : Int) (Q : IS → Prop) (σ : IS) : Prop := inL L 142 0 ∧ WL (fun (K1 : Int × Int → IS → Prop) (s3 : Int × Int) (σ4 : IS) => ((s3.2 < 1000000 → inL L 142 0)) ∧ if s3.2 < 1000000 ∧ ((σ4.2 142 (Int.toNat 0)) = 0 ∧ ((σ4.1 2 2) < (σ4.1 2 3))) then w_Reader_peek L  (fun v7 σ6 => WJ (fun (s10 : Int) (σ11 : IS) => inR (s3.2 + 1) ∧ K1 (s10, (s3.2 + 1)) σ11) (fun J8 => if v7 = 40 ∧ (s3.1 < 62) then inR ((σ6.1 2 2) + 1) ∧ inR (s3.1 + 1) ∧ inL L 142 (s3.1 + 1) ∧ J8 (s3.1 + 1) (pr (pf σ6 2 2 ((σ6.1 2 2) + 1)) 142 (Int.toNat (s3.1 + 1)) 0) else if v7 = 41 ∧ (0 < s3.1) then inR ((σ6.1 2 2) + 1) ∧ w_Model_readHowOften L s3.1 (fun σ16 => inR (s3.1 + (-1)) ∧ w_Model_join L (s3.1 + (-1)) (fun σ18 => J8 (s3.1 + (-1)) σ18) σ16) (pf σ6 2 2 ((σ6.1 2 2) + 1)) else WJ (fun (s24 : Unit) (σ25 : IS) => inR ((σ25.1 2 2) + 1) ∧ w_Reader_isSpace L v7 (fun v27 σ26 => ((¬ v27 = 0 → inL L 143 s3.1)) ∧ inL L 143 s3.1 ∧ J8 s3.1 (pr σ26 143 (Int.toNat s3.1) (if v27 = 0 then v7 else (σ26.2 143 (Int.toNat s3.1))))) (pf σ25 2 2 ((σ25.1 2 2) + 1))) (fun J22 => if ¬ v7 = 124 ∧ (¬ v7 = 44) then w_Reader_isSpace L v7 (fun v38 σ37 => if v38 = 0 then inR (s3.1 + 1) ∧ w_Model_readOccurrence L (s3.1 + 1) (fun σ40 => w_Model_join L s3.1 (fun σ42 => J8 s3.1 σ42) σ40) σ37 else J22 () σ37) σ6 else J22 () σ6))) σ4 else Q σ4) (0, 0) (pr (pf (pf (pf σ 2 2 a1) 2 3 (σ.1 1 3)) 9 3 0) 142 (Int.toNat 0) 0)
set_option maxHeartbeats 4000000 in
set_option maxRecDepth 20000 in
theorem s_Model_read {L : Nat → Nat} (hL : ∀ r, L r < 2147483648) {d : Nat} (hd : 4 ≤ d) {a1 : Int} {Q : IS → Prop} {σ : IS}  (h : w_Model_read L a1 Q σ) : OkI BF L d 9 b_Model_read 5 0 0 [] [some (.inr 9), some (.inl a1)] σ (qv Q) := by
  unfold w_Model_read at h
  obtain ⟨d, rfl⟩ : ∃ e, d = e + 1 := ⟨d - 1, by omega⟩
  refine k_sb (lv' := [some (.inr 9), some (.inl a1), none, none, none]) (sb_s (sb_s (sb_e (sb_e (sb_e sb_nil))))) ?_
  refine k_aload_n d_Model_read_0 rfl ?_
  refine k_getR d_Model_read_1 fl_9_15 ob_9 rfl ?_
  refine k_iload_n d_Model_read_4 rfl ?_
  refine k_putI d_Model_read_5 fl_9_48 ob_2 rfl ?_
  refine k_aload_n d_Model_read_8 rfl ?_
  refine k_getR d_Model_read_9 fl_9_15 ob_9 rfl ?_
  refine k_aload_n d_Model_read_12 rfl ?_
  refine k_getR d_Model_read_13 fl_9_11 ob_9 rfl ?_
  refine k_getI (x := (σ.1 1 3)) d_Model_read_16 fl_9_54 ob_1 rfl rfl ?_
  refine k_putI d_Model_read_19 fl_9_59 ob_2 rfl ?_
  refine k_aload_n d_Model_read_22 rfl ?_
  refine k_iconst d_Model_read_23 cI_0 ?_
  refine k_putI d_Model_read_24 fl_9_62 ob_9 rfl ?_
  refine k_aload_n d_Model_read_27 rfl ?_
  refine k_getR d_Model_read_28 fl_9_36 ob_9 rfl ?_
  refine k_iconst d_Model_read_31 cI_0 ?_
  refine k_iconst d_Model_read_32 cI_0 ?_
  obtain ⟨p68, h⟩ := h
  refine k_zst d_Model_read_33 rz_142 p68 (Or.inl rfl) ?_
  refine k_iconst d_Model_read_34 cI_0 ?_
  refine k_istore_n (lv' := [some (.inr 9), some (.inl a1), some (.inl 0), none, none]) d_Model_read_35 rfl rfl ?_
  refine k_iconst d_Model_read_36 cI_0 ?_
  refine k_istore_n (lv' := [some (.inr 9), some (.inl a1), some (.inl 0), some (.inl 0), none]) d_Model_read_37 rfl rfl ?_
  refine k_sb (lv' := [some (.inr 9), none, some (.inl 0), some (.inl 0), none]) (sb_s (sb_n (sb_s (sb_s (sb_s sb_nil))))) ?_
  refine k_loop (S := Int × Int) (st := fun _ => []) (lv := fun s3 => [some (.inr 9), none, some (.inl s3.1), some (.inl s3.2), none]) (fun K1 hK2 s3 σ4 h => ?_) (0, 0) _ h
  refine k_iload_n d_Model_read_38 rfl ?_
  refine k_ldc d_Model_read_39 ks_9_65 cL_1000000 ?_
  obtain ⟨pt63, h⟩ := h
  have hX60 : (s3.2 < 1000000 ∧ ((σ4.2 142 (Int.toNat 0)) = 0 ∧ ((σ4.1 2 2) < (σ4.1 2 3)))) → OkI BF L (d + 1) 9 b_Model_read 5 0 70 [] [some (.inr 9), none, some (.inl s3.1), some (.inl s3.2), none] σ4 (qv Q) := fun e62 => by
    have h := ipos e62 h
    refine k_aload_n d_Model_read_70 rfl ?_
    refine k_getR d_Model_read_71 fl_9_15 ob_9 rfl ?_
    refine k_cvi [] d_Model_read_74 ml_9_66 rfl rfl ob_2 rfl (s_Reader_peek hL (by omega)  h) (fun v7 σ6 h => ?_)
    refine k_istore (lv' := [some (.inr 9), none, some (.inl s3.1), some (.inl s3.2), some (.inl v7)]) d_Model_read_77 rfl rfl ?_
    refine k_iload d_Model_read_79 rfl ?_
    refine k_bipush d_Model_read_81 cB_40 ?_
    refine k_join (S := Int) (pc' := 233) (st' := fun s10 => []) (lv' := fun s10 => [some (.inr 9), none, some (.inl s10), some (.inl s3.2), none]) (fun s10 σ11 h => ?_) (fun J8 hJ9 h => ?_) h
    · obtain ⟨p12, h⟩ := h
      refine k_iinc (lv' := [some (.inr 9), none, some (.inl s10), some (.inl (s3.2 + 1)), none]) d_Model_read_233 cI_1 rfl rfl p12 rfl ?_
      refine k_goto d_Model_read_236 rfl ?_
      exact k_sb (sb_s (sb_s (sb_s (sb_s (sb_s sb_nil))))) (hK2 (s10, (s3.2 + 1)) _ h)
    · have hX55 : (v7 = 40 ∧ (s3.1 < 62)) → OkI BF L (d + 1) 9 b_Model_read 5 0 92 [] [some (.inr 9), none, some (.inl s3.1), some (.inl s3.2), some (.inl v7)] σ6 (qv Q) := fun e57 => by
        have h := ipos e57 h
        refine k_aload_n d_Model_read_92 rfl ?_
        refine k_getR d_Model_read_93 fl_9_15 ob_9 rfl ?_
        refine k_dup d_Model_read_96 ?_
        refine k_getI (x := (σ6.1 2 2)) d_Model_read_97 fl_9_48 ob_2 rfl rfl ?_
        refine k_iconst d_Model_read_100 cI_1 ?_
        obtain ⟨p15, h⟩ := h
        refine k_iadd d_Model_read_101 p15 ?_
        refine k_putI d_Model_read_102 fl_9_48 ob_2 rfl ?_
        obtain ⟨p14, h⟩ := h
        refine k_iinc (lv' := [some (.inr 9), none, some (.inl (s3.1 + 1)), some (.inl s3.2), some (.inl v7)]) d_Model_read_105 cI_1 rfl rfl p14 rfl ?_
        refine k_aload_n d_Model_read_108 rfl ?_
        refine k_getR d_Model_read_109 fl_9_36 ob_9 rfl ?_
        refine k_iload_n d_Model_read_112 rfl ?_
        refine k_iconst d_Model_read_113 cI_0 ?_
        obtain ⟨p13, h⟩ := h
        refine k_zst d_Model_read_114 rz_142 p13 (Or.inl rfl) ?_
        refine k_goto d_Model_read_115 rfl ?_
        exact k_sb (sb_s (sb_s (sb_s (sb_s (sb_n sb_nil))))) (hJ9 (s3.1 + 1) _ h)
      have hY56 : ¬ (v7 = 40 ∧ (s3.1 < 62)) → OkI BF L (d + 1) 9 b_Model_read 5 0 118 [] [some (.inr 9), none, some (.inl s3.1), some (.inl s3.2), some (.inl v7)] σ6 (qv Q) := fun e57 => by
        have h := ineg e57 h
        refine k_iload d_Model_read_118 rfl ?_
        refine k_bipush d_Model_read_120 cB_41 ?_
        have hX50 : (v7 = 41 ∧ (0 < s3.1)) → OkI BF L (d + 1) 9 b_Model_read 5 0 129 [] [some (.inr 9), none, some (.inl s3.1), some (.inl s3.2), some (.inl v7)] σ6 (qv Q) := fun e52 => by
          have h := ipos e52 h
          refine k_aload_n d_Model_read_129 rfl ?_
          refine k_getR d_Model_read_130 fl_9_15 ob_9 rfl ?_
          refine k_dup d_Model_read_133 ?_
          refine k_getI (x := (σ6.1 2 2)) d_Model_read_134 fl_9_48 ob_2 rfl rfl ?_
          refine k_iconst d_Model_read_137 cI_1 ?_
          obtain ⟨p21, h⟩ := h
          refine k_iadd d_Model_read_138 p21 ?_
          refine k_putI d_Model_read_139 fl_9_48 ob_2 rfl ?_
          refine k_aload_n d_Model_read_142 rfl ?_
          refine k_iload_n d_Model_read_143 rfl ?_
          refine k_cvv [.inl s3.1] d_Model_read_144 ml_9_70 rfl rfl ob_9 rfl (s_Model_readHowOften hL (by omega)  h) (fun σ16 h => ?_)
          obtain ⟨p20, h⟩ := h
          refine k_iinc (lv' := [some (.inr 9), none, some (.inl (s3.1 + (-1))), some (.inl s3.2), some (.inl v7)]) d_Model_read_147 cI_m1 rfl rfl p20 rfl ?_
          refine k_aload_n d_Model_read_150 rfl ?_
          refine k_iload_n d_Model_read_151 rfl ?_
          refine k_cvv [.inl (s3.1 + (-1))] d_Model_read_152 ml_9_74 rfl rfl ob_9 rfl (s_Model_join hL (by omega)  h) (fun σ18 h => ?_)
          refine k_goto d_Model_read_155 rfl ?_
          exact k_sb (sb_s (sb_s (sb_s (sb_s (sb_n sb_nil))))) (hJ9 (s3.1 + (-1)) _ h)
        have hY51 : ¬ (v7 = 41 ∧ (0 < s3.1)) → OkI BF L (d + 1) 9 b_Model_read 5 0 158 [] [some (.inr 9), none, some (.inl s3.1), some (.inl s3.2), some (.inl v7)] σ6 (qv Q) := fun e52 => by
          have h := ineg e52 h
          refine k_iload d_Model_read_158 rfl ?_
          refine k_bipush d_Model_read_160 cB_124 ?_
          refine k_join (S := Unit) (pc' := 180) (st' := fun s24 => []) (lv' := fun s24 => [some (.inr 9), none, some (.inl s3.1), some (.inl s3.2), some (.inl v7)]) (fun s24 σ25 h => ?_) (fun J22 hJ23 h => ?_) h
          · refine k_aload_n d_Model_read_180 rfl ?_
            refine k_getR d_Model_read_181 fl_9_15 ob_9 rfl ?_
            refine k_dup d_Model_read_184 ?_
            refine k_getI (x := (σ25.1 2 2)) d_Model_read_185 fl_9_48 ob_2 rfl rfl ?_
            refine k_iconst d_Model_read_188 cI_1 ?_
            obtain ⟨p36, h⟩ := h
            refine k_iadd d_Model_read_189 p36 ?_
            refine k_putI d_Model_read_190 fl_9_48 ob_2 rfl ?_
            refine k_aload_n d_Model_read_193 rfl ?_
            refine k_getR d_Model_read_194 fl_9_39 ob_9 rfl ?_
            refine k_iload_n d_Model_read_197 rfl ?_
            refine k_iload d_Model_read_198 rfl ?_
            refine k_csi [.inl v7] d_Model_read_200 ml_9_77 (Or.inl rfl) rfl rfl rfl (s_Reader_isSpace hL (by omega)  h) (fun v27 σ26 h => ?_)
            obtain ⟨pt31, h⟩ := h
            have hV30 : OkI BF L (d + 1) 9 b_Model_read 5 0 217 [.inl (if v27 = 0 then v7 else (σ26.2 143 (Int.toNat s3.1))), .inl s3.1, .inr 143] [some (.inr 9), none, some (.inl s3.1), some (.inl s3.2), some (.inl v7)] σ26 (qv Q) := by
              obtain ⟨p29, h⟩ := h
              refine k_ist d_Model_read_217 rI_143 p29 ?_
              refine k_goto d_Model_read_218 rfl ?_
              exact k_sb (sb_s (sb_s (sb_s (sb_s (sb_n sb_nil))))) (hJ9 s3.1 _ h)
            have pb32 := pt31
            refine k_ifeq d_Model_read_203 rfl (fun c33 => ?_) (fun c33 => ?_)
            · have hV34 := k_eqI (if_pos c33) hV30
              refine k_iload d_Model_read_215 rfl ?_
              exact hV34
            · have pb32 := pb32 c33
              have hV35 := k_eqI (if_neg c33) hV30
              have p28 := pb32
              refine k_aload_n d_Model_read_206 rfl ?_
              refine k_getR d_Model_read_207 fl_9_39 ob_9 rfl ?_
              refine k_iload_n d_Model_read_210 rfl ?_
              refine k_ild (x := (σ26.2 143 (Int.toNat s3.1))) d_Model_read_211 rI_143 p28 rfl ?_
              refine k_goto d_Model_read_212 rfl ?_
              exact hV35
          · have hX45 : (¬ v7 = 124 ∧ (¬ v7 = 44)) → OkI BF L (d + 1) 9 b_Model_read 5 0 172 [] [some (.inr 9), none, some (.inl s3.1), some (.inl s3.2), some (.inl v7)] σ6 (qv Q) := fun e47 => by
              have h := ipos e47 h
              refine k_iload d_Model_read_172 rfl ?_
              refine k_csi [.inl v7] d_Model_read_174 ml_9_77 (Or.inl rfl) rfl rfl rfl (s_Reader_isSpace hL (by omega)  h) (fun v38 σ37 h => ?_)
              refine k_ifeq d_Model_read_177 rfl (fun c39 => ?_) (fun c39 => ?_)
              · have h := ipos c39 h
                refine k_aload_n d_Model_read_221 rfl ?_
                refine k_iload_n d_Model_read_222 rfl ?_
                refine k_iconst d_Model_read_223 cI_1 ?_
                obtain ⟨p44, h⟩ := h
                refine k_iadd d_Model_read_224 p44 ?_
                refine k_cvv [.inl (s3.1 + 1)] d_Model_read_225 ml_9_81 rfl rfl ob_9 rfl (s_Model_readOccurrence hL (by omega)  h) (fun σ40 h => ?_)
                refine k_aload_n d_Model_read_228 rfl ?_
                refine k_iload_n d_Model_read_229 rfl ?_
                refine k_cvv [.inl s3.1] d_Model_read_230 ml_9_74 rfl rfl ob_9 rfl (s_Model_join hL (by omega)  h) (fun σ42 h => ?_)
                exact k_sb (sb_s (sb_s (sb_s (sb_s (sb_n sb_nil))))) (hJ9 s3.1 _ h)
              · have h := ineg c39 h
                exact k_sb (sb_s (sb_s (sb_s (sb_s (sb_s sb_nil))))) (hJ23 () _ h)
            have hY46 : ¬ (¬ v7 = 124 ∧ (¬ v7 = 44)) → OkI BF L (d + 1) 9 b_Model_read 5 0 180 [] [some (.inr 9), none, some (.inl s3.1), some (.inl s3.2), some (.inl v7)] σ6 (qv Q) := fun e47 => by
              have h := ineg e47 h
              exact k_sb (sb_s (sb_s (sb_s (sb_s (sb_s sb_nil))))) (hJ23 () _ h)
            refine k_iceq d_Model_read_162 rfl (fun c48 => ?_) (fun c48 => ?_)
            · exact hY46 (fun z => z.1 c48)
            · refine k_iload d_Model_read_165 rfl ?_
              refine k_bipush d_Model_read_167 cB_44 ?_
              refine k_iceq d_Model_read_169 rfl (fun c49 => ?_) (fun c49 => ?_)
              · exact hY46 (fun z => (fun z => z c49) z.2)
              · exact hX45 (⟨c48, c49⟩)
        refine k_icne d_Model_read_122 rfl (fun c53 => ?_) (fun c53 => ?_)
        · exact hY51 (fun z => c53 z.1)
        · refine k_iload_n d_Model_read_125 rfl ?_
          refine k_ifle d_Model_read_126 rfl (fun c54 => ?_) (fun c54 => ?_)
          · exact hY51 (fun z => (c54) z.2)
          · exact hX50 (⟨c53, c54⟩)
      refine k_icne d_Model_read_83 rfl (fun c58 => ?_) (fun c58 => ?_)
      · exact hY56 (fun z => c58 z.1)
      · refine k_iload_n d_Model_read_86 rfl ?_
        refine k_bipush d_Model_read_87 cB_62 ?_
        refine k_icge d_Model_read_89 rfl (fun c59 => ?_) (fun c59 => ?_)
        · exact hY56 (fun z => (c59) z.2)
        · exact hX55 (⟨c58, c59⟩)
  have hY61 : ¬ (s3.2 < 1000000 ∧ ((σ4.2 142 (Int.toNat 0)) = 0 ∧ ((σ4.1 2 2) < (σ4.1 2 3)))) → OkI BF L (d + 1) 9 b_Model_read 5 0 239 [] [some (.inr 9), none, some (.inl s3.1), some (.inl s3.2), none] σ4 (qv Q) := fun e62 => by
    have h := ineg e62 h
    exact k_ret d_Model_read_239 h
  have pa64 := pt63
  refine k_icge d_Model_read_41 rfl (fun c65 => ?_) (fun c65 => ?_)
  · exact hY61 (fun z => c65 z.1)
  · have pa64 := pa64 c65
    have p5 := pa64
    refine k_aload_n d_Model_read_44 rfl ?_
    refine k_getR d_Model_read_45 fl_9_36 ob_9 rfl ?_
    refine k_iconst d_Model_read_48 cI_0 ?_
    refine k_bld (x := (σ4.2 142 (Int.toNat 0))) d_Model_read_49 rB_142 p5 rfl ?_
    refine k_ifne d_Model_read_50 rfl (fun c66 => ?_) (fun c66 => ?_)
    · exact hY61 (fun z => (fun z => c66 z.1) z.2)
    · refine k_aload_n d_Model_read_53 rfl ?_
      refine k_getR d_Model_read_54 fl_9_15 ob_9 rfl ?_
      refine k_getI (x := (σ4.1 2 2)) d_Model_read_57 fl_9_48 ob_2 rfl rfl ?_
      refine k_aload_n d_Model_read_60 rfl ?_
      refine k_getR d_Model_read_61 fl_9_15 ob_9 rfl ?_
      refine k_getI (x := (σ4.1 2 3)) d_Model_read_64 fl_9_59 ob_2 rfl rfl ?_
      refine k_icge d_Model_read_67 rfl (fun c67 => ?_) (fun c67 => ?_)
      · exact hY61 (fun z => (fun z => (c67) z.2) z.2)
      · exact hX60 (⟨c65, ⟨c66, c67⟩⟩)
theorem d_Model_isSingle_0 : decode b_Model_isSingle 0 = .ok (.aload_n 0, 1) := by decide +kernel
theorem d_Model_isSingle_1 : decode b_Model_isSingle 1 = .ok (.getfield 11, 3) := by decide +kernel
theorem d_Model_isSingle_4 : decode b_Model_isSingle 4 = .ok (.invokevirtual 134, 3) := by decide +kernel
theorem d_Model_isSingle_7 : decode b_Model_isSingle 7 = .ok (.istore_n 3, 1) := by decide +kernel
theorem d_Model_isSingle_8 : decode b_Model_isSingle 8 = .ok (.iconst 0, 1) := by decide +kernel
theorem d_Model_isSingle_9 : decode b_Model_isSingle 9 = .ok (.istore 4, 2) := by decide +kernel
theorem d_Model_isSingle_11 : decode b_Model_isSingle 11 = .ok (.iload 4, 2) := by decide +kernel
theorem d_Model_isSingle_13 : decode b_Model_isSingle 13 = .ok (.aload_n 0, 1) := by decide +kernel
theorem d_Model_isSingle_14 : decode b_Model_isSingle 14 = .ok (.getfield 62, 3) := by decide +kernel
theorem d_Model_isSingle_17 : decode b_Model_isSingle 17 = .ok (.if_icmp .ge 56, 3) := by decide +kernel
theorem d_Model_isSingle_20 : decode b_Model_isSingle 20 = .ok (.aload_n 1, 1) := by decide +kernel
theorem d_Model_isSingle_21 : decode b_Model_isSingle 21 = .ok (.iload_n 2, 1) := by decide +kernel
theorem d_Model_isSingle_22 : decode b_Model_isSingle 22 = .ok (.iload 4, 2) := by decide +kernel
theorem d_Model_isSingle_24 : decode b_Model_isSingle 24 = .ok (.invokestatic 122, 3) := by decide +kernel
theorem d_Model_isSingle_27 : decode b_Model_isSingle 27 = .ok (.ifCond .eq 40, 3) := by decide +kernel
theorem d_Model_isSingle_30 : decode b_Model_isSingle 30 = .ok (.aload_n 0, 1) := by decide +kernel
theorem d_Model_isSingle_31 : decode b_Model_isSingle 31 = .ok (.getfield 11, 3) := by decide +kernel
theorem d_Model_isSingle_34 : decode b_Model_isSingle 34 = .ok (.getfield 137, 3) := by decide +kernel
theorem d_Model_isSingle_37 : decode b_Model_isSingle 37 = .ok (.aload_n 0, 1) := by decide +kernel
theorem d_Model_isSingle_38 : decode b_Model_isSingle 38 = .ok (.getfield 19, 3) := by decide +kernel
theorem d_Model_isSingle_41 : decode b_Model_isSingle 41 = .ok (.iload 4, 2) := by decide +kernel
theorem d_Model_isSingle_43 : decode b_Model_isSingle 43 = .ok (.iaload, 1) := by decide +kernel
theorem d_Model_isSingle_44 : decode b_Model_isSingle 44 = .ok (.iaload, 1) := by decide +kernel
theorem d_Model_isSingle_45 : decode b_Model_isSingle 45 = .ok (.iload_n 3, 1) := by decide +kernel
theorem d_Model_isSingle_46 : decode b_Model_isSingle 46 = .ok (.if_icmp .ne 5, 3) := by decide +kernel
theorem d_Model_isSingle_49 : decode b_Model_isSingle 49 = .ok (.iconst 0, 1) := by decide +kernel
theorem d_Model_isSingle_50 : decode b_Model_isSingle 50 = .ok (.ireturn, 1) := by decide +kernel
theorem d_Model_isSingle_51 : decode b_Model_isSingle 51 = .ok (.aload_n 0, 1) := by decide +kernel
theorem d_Model_isSingle_52 : decode b_Model_isSingle 52 = .ok (.getfield 11, 3) := by decide +kernel
theorem d_Model_isSingle_55 : decode b_Model_isSingle 55 = .ok (.getfield 137, 3) := by decide +kernel
theorem d_Model_isSingle_58 : decode b_Model_isSingle 58 = .ok (.aload_n 0, 1) := by decide +kernel
theorem d_Model_isSingle_59 : decode b_Model_isSingle 59 = .ok (.getfield 19, 3) := by decide +kernel
theorem d_Model_isSingle_62 : decode b_Model_isSingle 62 = .ok (.iload 4, 2) := by decide +kernel
theorem d_Model_isSingle_64 : decode b_Model_isSingle 64 = .ok (.iaload, 1) := by decide +kernel
theorem d_Model_isSingle_65 : decode b_Model_isSingle 65 = .ok (.iload_n 3, 1) := by decide +kernel
theorem d_Model_isSingle_66 : decode b_Model_isSingle 66 = .ok (.iastore, 1) := by decide +kernel
theorem d_Model_isSingle_67 : decode b_Model_isSingle 67 = .ok (.iinc 4 1, 3) := by decide +kernel
theorem d_Model_isSingle_70 : decode b_Model_isSingle 70 = .ok (.goto (-59), 3) := by decide +kernel
theorem d_Model_isSingle_73 : decode b_Model_isSingle 73 = .ok (.iconst 1, 1) := by decide +kernel
theorem d_Model_isSingle_74 : decode b_Model_isSingle 74 = .ok (.ireturn, 1) := by decide +kernel
/-- Model_isSingle -/
def w_Model_isSingle (L : Nat → Nat) (a1 : Nat) (a2 : Int) (Q : Int → IS → Prop) (σ : IS) : Prop := w_Store_newMark L  (fun v2 σ1 => WL (fun (K3 : Int → IS → Prop) (s5 : Int) (σ6 : IS) => if s5 < (σ6.1 9 3) then w_Model_has L a1 a2 s5 (fun v9 σ8 => WJ (fun (s12 : Unit) (σ13 : IS) => inR (s5 + 1) ∧ K3 (s5 + 1) σ13) (fun J10 => if v9 = 0 then J10 () σ8 else inL L 137 s5 ∧ inL L 155 (σ8.2 137 (Int.toNat s5)) ∧ if (σ8.2 155 (Int.toNat (σ8.2 137 (Int.toNat s5)))) = v2 then Q 0 σ8 else inL L 137 s5 ∧ inL L 155 (σ8.2 137 (Int.toNat s5)) ∧ J10 () (pr σ8 155 (Int.toNat (σ8.2 137 (Int.toNat s5))) v2))) σ6 else Q 1 σ6) 0 σ1) σ
set_option maxHeartbeats 4000000 in
set_option maxRecDepth 20000 in
theorem s_Model_isSingle {L : Nat → Nat} (hL : ∀ r, L r < 2147483648) {d : Nat} (hd : 1 ≤ d) {a1 : Nat} {a2 : Int} {Q : Int → IS → Prop} {σ : IS} (ha1 : rwI BF a1) (h : w_Model_isSingle L a1 a2 Q σ) : OkI BF L d 9 b_Model_isSingle 5 2 0 [] [some (.inr 9), some (.inr a1), some (.inl a2)] σ (qi Q) := by
  unfold w_Model_isSingle at h
  obtain ⟨d, rfl⟩ : ∃ e, d = e + 1 := ⟨d - 1, by omega⟩
  refine k_sb (lv' := [some (.inr 9), some (.inr a1), some (.inl a2), none, none]) (sb_s (sb_s (sb_s (sb_e (sb_e sb_nil))))) ?_
  refine k_aload_n d_Model_isSingle_0 rfl ?_
  refine k_getR d_Model_isSingle_1 fl_9_11 ob_9 rfl ?_
  refine k_cvi [] d_Model_isSingle_4 ml_9_134 rfl rfl ob_1 rfl (s_Store_newMark hL (by omega)  h) (fun v2 σ1 h => ?_)
  refine k_istore_n (lv' := [some (.inr 9), some (.inr a1), some (.inl a2), some (.inl v2), none]) d_Model_isSingle_7 rfl rfl ?_
  refine k_iconst d_Model_isSingle_8 cI_0 ?_
  refine k_istore (lv' := [some (.inr 9), some (.inr a1), some (.inl a2), some (.inl v2), some (.inl 0)]) d_Model_isSingle_9 rfl rfl ?_
  refine k_sb (lv' := [some (.inr 9), some (.inr a1), some (.inl a2), some (.inl v2), some (.inl 0)]) (sb_s (sb_s (sb_s (sb_s (sb_s sb_nil))))) ?_
  refine k_loop (S := Int) (st := fun _ => []) (lv := fun s5 => [some (.inr 9), some (.inr a1), some (.inl a2), some (.inl v2), some (.inl s5)]) (fun K3 hK4 s5 σ6 h => ?_) 0 _ h
  refine k_iload d_Model_isSingle_11 rfl ?_
  refine k_aload_n d_Model_isSingle_13 rfl ?_
  refine k_getI (x := (σ6.1 9 3)) d_Model_isSingle_14 fl_9_62 ob_9 rfl rfl ?_
  refine k_icge d_Model_isSingle_17 rfl (fun c7 => ?_) (fun c7 => ?_)
  · have h := ineg c7 h
    refine k_iconst d_Model_isSingle_73 cI_1 ?_
    exact k_iret d_Model_isSingle_74 (Or.inr ⟨rfl, Or.inr rfl⟩) h
  · have h := ipos c7 h
    refine k_aload_n d_Model_isSingle_20 rfl ?_
    refine k_iload_n d_Model_isSingle_21 rfl ?_
    refine k_iload d_Model_isSingle_22 rfl ?_
    refine k_csi [.inr a1, .inl a2, .inl s5] d_Model_isSingle_24 ml_9_122 (Or.inl rfl) rfl rfl rfl (s_Model_has hL (by omega) ha1 h) (fun v9 σ8 h => ?_)
    refine k_join (S := Unit) (pc' := 67) (st' := fun s12 => []) (lv' := fun s12 => [some (.inr 9), some (.inr a1), some (.inl a2), some (.inl v2), some (.inl s5)]) (fun s12 σ13 h => ?_) (fun J10 hJ11 h => ?_) h
    · obtain ⟨p14, h⟩ := h
      refine k_iinc (lv' := [some (.inr 9), some (.inr a1), some (.inl a2), some (.inl v2), some (.inl (s5 + 1))]) d_Model_isSingle_67 cI_1 rfl rfl p14 rfl ?_
      refine k_goto d_Model_isSingle_70 rfl ?_
      exact k_sb (sb_s (sb_s (sb_s (sb_s (sb_s sb_nil))))) (hK4 (s5 + 1) _ h)
    · refine k_ifeq d_Model_isSingle_27 rfl (fun c15 => ?_) (fun c15 => ?_)
      · have h := ipos c15 h
        exact k_sb (sb_s (sb_s (sb_s (sb_s (sb_s sb_nil))))) (hJ11 () _ h)
      · have h := ineg c15 h
        refine k_aload_n d_Model_isSingle_30 rfl ?_
        refine k_getR d_Model_isSingle_31 fl_9_11 ob_9 rfl ?_
        refine k_getR d_Model_isSingle_34 fl_9_137 ob_1 rfl ?_
        refine k_aload_n d_Model_isSingle_37 rfl ?_
        refine k_getR d_Model_isSingle_38 fl_9_19 ob_9 rfl ?_
        refine k_iload d_Model_isSingle_41 rfl ?_
        obtain ⟨p20, h⟩ := h
        refine k_ild (x := (σ8.2 137 (Int.toNat s5))) d_Model_isSingle_43 rI_137 p20 rfl ?_
        obtain ⟨p19, h⟩ := h
        refine k_ild (x := (σ8.2 155 (Int.toNat (σ8.2 137 (Int.toNat s5))))) d_Model_isSingle_44 rI_155 p19 rfl ?_
        refine k_iload_n d_Model_isSingle_45 rfl ?_
        refine k_icne d_Model_isSingle_46 rfl (fun c16 => ?_) (fun c16 => ?_)
        · have h := ineg c16 h
          refine k_aload_n d_Model_isSingle_51 rfl ?_
          refine k_getR d_Model_isSingle_52 fl_9_11 ob_9 rfl ?_
          refine k_getR d_Model_isSingle_55 fl_9_137 ob_1 rfl ?_
          refine k_aload_n d_Model_isSingle_58 rfl ?_
          refine k_getR d_Model_isSingle_59 fl_9_19 ob_9 rfl ?_
          refine k_iload d_Model_isSingle_62 rfl ?_
          obtain ⟨p18, h⟩ := h
          refine k_ild (x := (σ8.2 137 (Int.toNat s5))) d_Model_isSingle_64 rI_137 p18 rfl ?_
          refine k_iload_n d_Model_isSingle_65 rfl ?_
          obtain ⟨p17, h⟩ := h
          refine k_ist d_Model_isSingle_66 rI_155 p17 ?_
          exact k_sb (sb_s (sb_s (sb_s (sb_s (sb_s sb_nil))))) (hJ11 () _ h)
        · have h := ipos c16 h
          refine k_iconst d_Model_isSingle_49 cI_0 ?_
          exact k_iret d_Model_isSingle_50 (Or.inr ⟨rfl, Or.inl rfl⟩) h
theorem d_Model_isDeterministic_0 : decode b_Model_isDeterministic 0 = .ok (.aload_n 0, 1) := by decide +kernel
theorem d_Model_isDeterministic_1 : decode b_Model_isDeterministic 1 = .ok (.aload_n 0, 1) := by decide +kernel
theorem d_Model_isDeterministic_2 : decode b_Model_isDeterministic 2 = .ok (.getfield 26, 3) := by decide +kernel
theorem d_Model_isDeterministic_5 : decode b_Model_isDeterministic 5 = .ok (.iconst 0, 1) := by decide +kernel
theorem d_Model_isDeterministic_6 : decode b_Model_isDeterministic 6 = .ok (.invokevirtual 130, 3) := by decide +kernel
theorem d_Model_isDeterministic_9 : decode b_Model_isDeterministic 9 = .ok (.istore_n 1, 1) := by decide +kernel
theorem d_Model_isDeterministic_10 : decode b_Model_isDeterministic 10 = .ok (.iconst 0, 1) := by decide +kernel
theorem d_Model_isDeterministic_11 : decode b_Model_isDeterministic 11 = .ok (.istore_n 2, 1) := by decide +kernel
theorem d_Model_isDeterministic_12 : decode b_Model_isDeterministic 12 = .ok (.iload_n 2, 1) := by decide +kernel
theorem d_Model_isDeterministic_13 : decode b_Model_isDeterministic 13 = .ok (.aload_n 0, 1) := by decide +kernel
theorem d_Model_isDeterministic_14 : decode b_Model_isDeterministic 14 = .ok (.getfield 62, 3) := by decide +kernel
theorem d_Model_isDeterministic_17 : decode b_Model_isDeterministic 17 = .ok (.if_icmp .ge 23, 3) := by decide +kernel
theorem d_Model_isDeterministic_20 : decode b_Model_isDeterministic 20 = .ok (.iload_n 1, 1) := by decide +kernel
theorem d_Model_isDeterministic_21 : decode b_Model_isDeterministic 21 = .ok (.ifCond .eq 19, 3) := by decide +kernel
theorem d_Model_isDeterministic_24 : decode b_Model_isDeterministic 24 = .ok (.aload_n 0, 1) := by decide +kernel
theorem d_Model_isDeterministic_25 : decode b_Model_isDeterministic 25 = .ok (.aload_n 0, 1) := by decide +kernel
theorem d_Model_isDeterministic_26 : decode b_Model_isDeterministic 26 = .ok (.getfield 23, 3) := by decide +kernel
theorem d_Model_isDeterministic_29 : decode b_Model_isDeterministic 29 = .ok (.iload_n 2, 1) := by decide +kernel
theorem d_Model_isDeterministic_30 : decode b_Model_isDeterministic 30 = .ok (.invokevirtual 130, 3) := by decide +kernel
theorem d_Model_isDeterministic_33 : decode b_Model_isDeterministic 33 = .ok (.istore_n 1, 1) := by decide +kernel
theorem d_Model_isDeterministic_34 : decode b_Model_isDeterministic 34 = .ok (.iinc 2 1, 3) := by decide +kernel
theorem d_Model_isDeterministic_37 : decode b_Model_isDeterministic 37 = .ok (.goto (-25), 3) := by decide +kernel
theorem d_Model_isDeterministic_40 : decode b_Model_isDeterministic 40 = .ok (.iload_n 1, 1) := by decide +kernel
theorem d_Model_isDeterministic_41 : decode b_Model_isDeterministic 41 = .ok (.ireturn, 1) := by decide +kernel
/-- Model_isDeterministic -/
def w_Model_isDeterministic (L : Nat → Nat)  (Q : Int → IS → Prop) (σ : IS) : Prop := w_Model_isSingle L 139 0 (fun v2 σ1 => WL (fun (K3 : Int × Int → IS → Prop) (s5 : Int × Int) (σ6 : IS) => if s5.2 < (σ6.1 9 3) ∧ (¬ s5.1 = 0) then w_Model_isSingle L 138 s5.2 (fun v8 σ7 => inR (s5.2 + 1) ∧ K3 (v8, (s5.2 + 1)) σ7) σ6 else is01 s5.1 ∧ Q s5.1 σ6) (v2, 0) σ1) σ
set_option maxHeartbeats 4000000 in
set_option maxRecDepth 20000 in
theorem s_Model_isDeterministic {L : Nat → Nat} (hL : ∀ r, L r < 2147483648) {d : Nat} (hd : 2 ≤ d)  {Q : Int → IS → Prop} {σ : IS}  (h : w_Model_isDeterministic L  Q σ) : OkI BF L d 9 b_Model_isDeterministic 3 2 0 [] [some (.inr 9)] σ (qi Q) := by
  unfold w_Model_isDeterministic at h
  obtain ⟨d, rfl⟩ : ∃ e, d = e + 1 := ⟨d - 1, by omega⟩
  refine k_sb (lv' := [some (.inr 9), none, none]) (sb_s (sb_e (sb_e sb_nil))) ?_
  refine k_aload_n d_Model_isDeterministic_0 rfl ?_
  refine k_aload_n d_Model_isDeterministic_1 rfl ?_
  refine k_getR d_Model_isDeterministic_2 fl_9_26 ob_9 rfl ?_
  refine k_iconst d_Model_isDeterministic_5 cI_0 ?_
  refine k_cvi [.inr 139, .inl 0] d_Model_isDeterministic_6 ml_9_130 rfl rfl ob_9 rfl (s_Model_isSingle hL (by omega) rI_139 h) (fun v2 σ1 h => ?_)
  refine k_istore_n (lv' := [some (.inr 9), some (.inl v2), none]) d_Model_isDeterministic_9 rfl rfl ?_
  refine k_iconst d_Model_isDeterministic_10 cI_0 ?_
  refine k_istore_n (lv' := [some (.inr 9), some (.inl v2), some (.inl 0)]) d_Model_isDeterministic_11 rfl rfl ?_
  refine k_sb (lv' := [some (.inr 9), some (.inl v2), some (.inl 0)]) (sb_s (sb_s (sb_s sb_nil))) ?_
  refine k_loop (S := Int × Int) (st := fun _ => []) (lv := fun s5 => [some (.inr 9), some (.inl s5.1), some (.inl s5.2)]) (fun K3 hK4 s5 σ6 h => ?_) (v2, 0) _ h
  refine k_iload_n d_Model_isDeterministic_12 rfl ?_
  refine k_aload_n d_Model_isDeterministic_13 rfl ?_
  refine k_getI (x := (σ6.1 9 3)) d_Model_isDeterministic_14 fl_9_62 ob_9 rfl rfl ?_
  have hX11 : (s5.2 < (σ6.1 9 3) ∧ (¬ s5.1 = 0)) → OkI BF L (d + 1) 9 b_Model_isDeterministic 3 2 24 [] [some (.inr 9), some (.inl s5.1), some (.inl s5.2)] σ6 (qi Q) := fun e13 => by
    have h := ipos e13 h
    refine k_aload_n d_Model_isDeterministic_24 rfl ?_
    refine k_aload_n d_Model_isDeterministic_25 rfl ?_
    refine k_getR d_Model_isDeterministic_26 fl_9_23 ob_9 rfl ?_
    refine k_iload_n d_Model_isDeterministic_29 rfl ?_
    refine k_cvi [.inr 138, .inl s5.2] d_Model_isDeterministic_30 ml_9_130 rfl rfl ob_9 rfl (s_Model_isSingle hL (by omega) rI_138 h) (fun v8 σ7 h => ?_)
    refine k_istore_n (lv' := [some (.inr 9), some (.inl v8), some (.inl s5.2)]) d_Model_isDeterministic_33 rfl rfl ?_
    obtain ⟨p9, h⟩ := h
    refine k_iinc (lv' := [some (.inr 9), some (.inl v8), some (.inl (s5.2 + 1))]) d_Model_isDeterministic_34 cI_1 rfl rfl p9 rfl ?_
    refine k_goto d_Model_isDeterministic_37 rfl ?_
    exact k_sb (sb_s (sb_s (sb_s sb_nil))) (hK4 (v8, (s5.2 + 1)) _ h)
  have hY12 : ¬ (s5.2 < (σ6.1 9 3) ∧ (¬ s5.1 = 0)) → OkI BF L (d + 1) 9 b_Model_isDeterministic 3 2 40 [] [some (.inr 9), some (.inl s5.1), some (.inl s5.2)] σ6 (qi Q) := fun e13 => by
    have h := ineg e13 h
    refine k_iload_n d_Model_isDeterministic_40 rfl ?_
    obtain ⟨p10, h⟩ := h
    exact k_iret d_Model_isDeterministic_41 (Or.inr ⟨rfl, p10⟩) h
  refine k_icge d_Model_isDeterministic_17 rfl (fun c14 => ?_) (fun c14 => ?_)
  · exact hY12 (fun z => c14 z.1)
  · refine k_iload_n d_Model_isDeterministic_20 rfl ?_
    refine k_ifeq d_Model_isDeterministic_21 rfl (fun c15 => ?_) (fun c15 => ?_)
    · exact hY12 (fun z => (fun z => z c15) z.2)
    · exact hX11 (⟨c14, c15⟩)
theorem d_Model_begin_0 : decode b_Model_begin 0 = .ok (.aload_n 0, 1) := by decide +kernel
theorem d_Model_begin_1 : decode b_Model_begin 1 = .ok (.getfield 26, 3) := by decide +kernel
theorem d_Model_begin_4 : decode b_Model_begin 4 = .ok (.iconst 0, 1) := by decide +kernel
theorem d_Model_begin_5 : decode b_Model_begin 5 = .ok (.aload_n 0, 1) := by decide +kernel
theorem d_Model_begin_6 : decode b_Model_begin 6 = .ok (.getfield 42, 3) := by decide +kernel
theorem d_Model_begin_9 : decode b_Model_begin 9 = .ok (.iconst 0, 1) := by decide +kernel
theorem d_Model_begin_10 : decode b_Model_begin 10 = .ok (.bipush 8, 2) := by decide +kernel
theorem d_Model_begin_12 : decode b_Model_begin 12 = .ok (.invokestatic 102, 3) := by decide +kernel
theorem d_Model_begin_15 : decode b_Model_begin 15 = .ok (.aload_n 0, 1) := by decide +kernel
theorem d_Model_begin_16 : decode b_Model_begin 16 = .ok (.aload_n 0, 1) := by decide +kernel
theorem d_Model_begin_17 : decode b_Model_begin 17 = .ok (.getfield 32, 3) := by decide +kernel
theorem d_Model_begin_20 : decode b_Model_begin 20 = .ok (.iconst 0, 1) := by decide +kernel
theorem d_Model_begin_21 : decode b_Model_begin 21 = .ok (.baload, 1) := by decide +kernel
theorem d_Model_begin_22 : decode b_Model_begin 22 = .ok (.putfield 140, 3) := by decide +kernel
theorem d_Model_begin_25 : decode b_Model_begin 25 = .ok (.return_, 1) := by decide +kernel
/-- Model_begin -/
def w_Model_begin (L : Nat → Nat)  (Q : IS → Prop) (σ : IS) : Prop := ((0 : Int) ≤ (8 : Int) ∧ (0 : Int) ≤ (0 : Int) ∧ (0 : Int) ≤ (0 : Int) ∧ (0 : Int) + (8 : Int) ≤ ((L 139 : Nat) : Int) ∧ (0 : Int) + (8 : Int) ≤ ((L 144 : Nat) : Int)) ∧ inL L 141 0 ∧ is01 ((cp σ 139 (Int.toNat (0 : Int)) 144 (Int.toNat (0 : Int)) (Int.toNat (8 : Int))).2 141 (Int.toNat 0)) ∧ Q (pf (cp σ 139 (Int.toNat (0 : Int)) 144 (Int.toNat (0 : Int)) (Int.toNat (8 : Int))) 9 12 ((cp σ 139 (Int.toNat (0 : Int)) 144 (Int.toNat (0 : Int)) (Int.toNat (8 : Int))).2 141 (Int.toNat 0)))
set_option maxHeartbeats 4000000 in
set_option maxRecDepth 20000 in
theorem s_Model_begin {L : Nat → Nat} (hL : ∀ r, L r < 2147483648) {d : Nat} (hd : 0 ≤ d)  {Q : IS → Prop} {σ : IS}  (h : w_Model_begin L  Q σ) : OkI BF L d 9 b_Model_begin 1 0 0 [] [some (.inr 9)] σ (qv Q) := by
  unfold w_Model_begin at h
  refine k_sb (lv' := [some (.inr 9)]) (sb_s sb_nil) ?_
  refine k_aload_n d_Model_begin_0 rfl ?_
  refine k_getR d_Model_begin_1 fl_9_26 ob_9 rfl ?_
  refine k_iconst d_Model_begin_4 cI_0 ?_
  refine k_aload_n d_Model_begin_5 rfl ?_
  refine k_getR d_Model_begin_6 fl_9_42 ob_9 rfl ?_
  refine k_iconst d_Model_begin_9 cI_0 ?_
  refine k_bipush d_Model_begin_10 cB_8 ?_
  obtain ⟨p3, h⟩ := h
  refine k_cpy d_Model_begin_12 ml_9_102 rI_139.1 rI_144.1 (rI_139.2.trans rI_144.2.symm) (Or.inl rI_139.2) p3 rfl ?_
  refine k_aload_n d_Model_begin_15 rfl ?_
  refine k_aload_n d_Model_begin_16 rfl ?_
  refine k_getR d_Model_begin_17 fl_9_32 ob_9 rfl ?_
  refine k_iconst d_Model_begin_20 cI_0 ?_
  obtain ⟨p2, h⟩ := h
  refine k_bld (x := ((cp σ 139 (Int.toNat (0 : Int)) 144 (Int.toNat (0 : Int)) (Int.toNat (8 : Int))).2 141 (Int.toNat 0))) d_Model_begin_21 rB_141 p2 rfl ?_
  obtain ⟨p1, h⟩ := h
  refine k_putZ d_Model_begin_22 fl_9_140 ob_9 rfl p1 ?_
  exact k_ret d_Model_begin_25 h
theorem d_Model_accept_0 : decode b_Model_accept 0 = .ok (.iconst 0, 1) := by decide +kernel
theorem d_Model_accept_1 : decode b_Model_accept 1 = .ok (.istore_n 2, 1) := by decide +kernel
theorem d_Model_accept_2 : decode b_Model_accept 2 = .ok (.aload_n 0, 1) := by decide +kernel
theorem d_Model_accept_3 : decode b_Model_accept 3 = .ok (.iconst 0, 1) := by decide +kernel
theorem d_Model_accept_4 : decode b_Model_accept 4 = .ok (.putfield 140, 3) := by decide +kernel
theorem d_Model_accept_7 : decode b_Model_accept 7 = .ok (.aload_n 0, 1) := by decide +kernel
theorem d_Model_accept_8 : decode b_Model_accept 8 = .ok (.getfield 45, 3) := by decide +kernel
theorem d_Model_accept_11 : decode b_Model_accept 11 = .ok (.iconst 0, 1) := by decide +kernel
theorem d_Model_accept_12 : decode b_Model_accept 12 = .ok (.invokestatic 144, 3) := by decide +kernel
theorem d_Model_accept_15 : decode b_Model_accept 15 = .ok (.iconst 0, 1) := by decide +kernel
theorem d_Model_accept_16 : decode b_Model_accept 16 = .ok (.istore_n 3, 1) := by decide +kernel
theorem d_Model_accept_17 : decode b_Model_accept 17 = .ok (.iload_n 3, 1) := by decide +kernel
theorem d_Model_accept_18 : decode b_Model_accept 18 = .ok (.aload_n 0, 1) := by decide +kernel
theorem d_Model_accept_19 : decode b_Model_accept 19 = .ok (.getfield 62, 3) := by decide +kernel
theorem d_Model_accept_22 : decode b_Model_accept 22 = .ok (.if_icmp .ge 64, 3) := by decide +kernel
theorem d_Model_accept_25 : decode b_Model_accept 25 = .ok (.aload_n 0, 1) := by decide +kernel
theorem d_Model_accept_26 : decode b_Model_accept 26 = .ok (.getfield 19, 3) := by decide +kernel
theorem d_Model_accept_29 : decode b_Model_accept 29 = .ok (.iload_n 3, 1) := by decide +kernel
theorem d_Model_accept_30 : decode b_Model_accept 30 = .ok (.iaload, 1) := by decide +kernel
theorem d_Model_accept_31 : decode b_Model_accept 31 = .ok (.iload_n 1, 1) := by decide +kernel
theorem d_Model_accept_32 : decode b_Model_accept 32 = .ok (.if_icmp .ne 48, 3) := by decide +kernel
theorem d_Model_accept_35 : decode b_Model_accept 35 = .ok (.aload_n 0, 1) := by decide +kernel
theorem d_Model_accept_36 : decode b_Model_accept 36 = .ok (.getfield 42, 3) := by decide +kernel
theorem d_Model_accept_39 : decode b_Model_accept 39 = .ok (.iconst 0, 1) := by decide +kernel
theorem d_Model_accept_40 : decode b_Model_accept 40 = .ok (.iload_n 3, 1) := by decide +kernel
theorem d_Model_accept_41 : decode b_Model_accept 41 = .ok (.invokestatic 122, 3) := by decide +kernel
theorem d_Model_accept_44 : decode b_Model_accept 44 = .ok (.ifCond .eq 36, 3) := by decide +kernel
theorem d_Model_accept_47 : decode b_Model_accept 47 = .ok (.iconst 1, 1) := by decide +kernel
theorem d_Model_accept_48 : decode b_Model_accept 48 = .ok (.istore_n 2, 1) := by decide +kernel
theorem d_Model_accept_49 : decode b_Model_accept 49 = .ok (.aload_n 0, 1) := by decide +kernel
theorem d_Model_accept_50 : decode b_Model_accept 50 = .ok (.dup, 1) := by decide +kernel
theorem d_Model_accept_51 : decode b_Model_accept 51 = .ok (.getfield 140, 3) := by decide +kernel
theorem d_Model_accept_54 : decode b_Model_accept 54 = .ok (.aload_n 0, 1) := by decide +kernel
theorem d_Model_accept_55 : decode b_Model_accept 55 = .ok (.getfield 29, 3) := by decide +kernel
theorem d_Model_accept_58 : decode b_Model_accept 58 = .ok (.iconst 0, 1) := by decide +kernel
theorem d_Model_accept_59 : decode b_Model_accept 59 = .ok (.iload_n 3, 1) := by decide +kernel
theorem d_Model_accept_60 : decode b_Model_accept 60 = .ok (.invokestatic 122, 3) := by decide +kernel
theorem d_Model_accept_63 : decode b_Model_accept 63 = .ok (.ior, 1) := by decide +kernel
theorem d_Model_accept_64 : decode b_Model_accept 64 = .ok (.putfield 140, 3) := by decide +kernel
theorem d_Model_accept_67 : decode b_Model_accept 67 = .ok (.aload_n 0, 1) := by decide +kernel
theorem d_Model_accept_68 : decode b_Model_accept 68 = .ok (.getfield 45, 3) := by decide +kernel
theorem d_Model_accept_71 : decode b_Model_accept 71 = .ok (.iconst 0, 1) := by decide +kernel
theorem d_Model_accept_72 : decode b_Model_accept 72 = .ok (.aload_n 0, 1) := by decide +kernel
theorem d_Model_accept_73 : decode b_Model_accept 73 = .ok (.getfield 23, 3) := by decide +kernel
theorem d_Model_accept_76 : decode b_Model_accept 76 = .ok (.iload_n 3, 1) := by decide +kernel
theorem d_Model_accept_77 : decode b_Model_accept 77 = .ok (.invokestatic 126, 3) := by decide +kernel
theorem d_Model_accept_80 : decode b_Model_accept 80 = .ok (.iinc 3 1, 3) := by decide +kernel
theorem d_Model_accept_83 : decode b_Model_accept 83 = .ok (.goto (-66), 3) := by decide +kernel
theorem d_Model_accept_86 : decode b_Model_accept 86 = .ok (.aload_n 0, 1) := by decide +kernel
theorem d_Model_accept_87 : decode b_Model_accept 87 = .ok (.getfield 45, 3) := by decide +kernel
theorem d_Model_accept_90 : decode b_Model_accept 90 = .ok (.iconst 0, 1) := by decide +kernel
theorem d_Model_accept_91 : decode b_Model_accept 91 = .ok (.aload_n 0, 1) := by decide +kernel
theorem d_Model_accept_92 : decode b_Model_accept 92 = .ok (.getfield 42, 3) := by decide +kernel
theorem d_Model_accept_95 : decode b_Model_accept 95 = .ok (.iconst 0, 1) := by decide +kernel
theorem d_Model_accept_96 : decode b_Model_accept 96 = .ok (.bipush 8, 2) := by decide +kernel
theorem d_Model_accept_98 : decode b_Model_accept 98 = .ok (.invokestatic 102, 3) := by decide +kernel
theorem d_Model_accept_101 : decode b_Model_accept 101 = .ok (.iload_n 2, 1) := by decide +kernel
theorem d_Model_accept_102 : decode b_Model_accept 102 = .ok (.ireturn, 1) := by decide +kernel
/-- Model_accept -/
def w_Model_accept (L : Nat → Nat) (a1 : Int) (Q : Int → IS → Prop) (σ : IS) : Prop := WL (fun (K1 : Int × Int → IS → Prop) (s3 : Int × Int) (σ4 : IS) => if s3.2 < (σ4.1 9 3) then inL L 137 s3.2 ∧ WJ (fun (s10 : Int) (σ11 : IS) => inR (s3.2 + 1) ∧ K1 (s10, (s3.2 + 1)) σ11) (fun J8 => if (σ4.2 137 (Int.toNat s3.2)) = a1 then w_Model_has L 144 0 s3.2 (fun v15 σ14 => if v15 = 0 then J8 s3.1 σ14 else w_Model_has L 140 0 s3.2 (fun v18 σ17 => is01 (io (σ14.1 9 12) v18) ∧ w_Model_unite L 145 0 138 s3.2 (fun σ19 => J8 1 σ19) (pf σ17 9 12 (io (σ14.1 9 12) v18))) σ14) σ4 else J8 s3.1 σ4) else ((0 : Int) ≤ (8 : Int) ∧ (0 : Int) ≤ (0 : Int) ∧ (0 : Int) ≤ (0 : Int) ∧ (0 : Int) + (8 : Int) ≤ ((L 145 : Nat) : Int) ∧ (0 : Int) + (8 : Int) ≤ ((L 144 : Nat) : Int)) ∧ is01 s3.1 ∧ Q s3.1 (cp σ4 145 (Int.toNat (0 : Int)) 144 (Int.toNat (0 : Int)) (Int.toNat (8 : Int)))) (0, 0) (fa (pf σ 9 12 0) 145 0)
set_option maxHeartbeats 4000000 in
set_option maxRecDepth 20000 in
theorem s_Model_accept {L : Nat → Nat} (hL : ∀ r, L r < 2147483648) {d : Nat} (hd : 1 ≤ d) {a1 : Int} {Q : Int → IS → Prop} {σ : IS}  (h : w_Model_accept L a1 Q σ) : OkI BF L d 9 b_Model_accept 4 2 0 [] [some (.inr 9), some (.inl a1)] σ (qi Q) := by
  unfold w_Model_accept at h
  obtain ⟨d, rfl⟩ : ∃ e, d = e + 1 := ⟨d - 1, by omega⟩
  refine k_sb (lv' := [some (.inr 9), some (.inl a1), none, none]) (sb_s (sb_s (sb_e (sb_e sb_nil)))) ?_
  refine k_iconst d_Model_accept_0 cI_0 ?_
  refine k_istore_n (lv' := [some (.inr 9), some (.inl a1), some (.inl 0), none]) d_Model_accept_1 rfl rfl ?_
  refine k_aload_n d_Model_accept_2 rfl ?_
  refine k_iconst d_Model_accept_3 cI_0 ?_
  refine k_putZ d_Model_accept_4 fl_9_140 ob_9 rfl (Or.inl rfl) ?_
  refine k_aload_n d_Model_accept_7 rfl ?_
  refine k_getR d_Model_accept_8 fl_9_45 ob_9 rfl ?_
  refine k_iconst d_Model_accept_11 cI_0 ?_
  refine k_fill d_Model_accept_12 ml_9_144 rI_145 rfl ?_
  refine k_iconst d_Model_accept_15 cI_0 ?_
  refine k_istore_n (lv' := [some (.inr 9), some (.inl a1), some (.inl 0), some (.inl 0)]) d_Model_accept_16 rfl rfl ?_
  refine k_sb (lv' := [some (.inr 9), some (.inl a1), some (.inl 0), some (.inl 0)]) (sb_s (sb_s (sb_s (sb_s sb_nil)))) ?_
  refine k_loop (S := Int × Int) (st := fun _ => []) (lv := fun s3 => [some (.inr 9), some (.inl a1), some (.inl s3.1), some (.inl s3.2)]) (fun K1 hK2 s3 σ4 h => ?_) (0, 0) _ h
  refine k_iload_n d_Model_accept_17 rfl ?_
  refine k_aload_n d_Model_accept_18 rfl ?_
  refine k_getI (x := (σ4.1 9 3)) d_Model_accept_19 fl_9_62 ob_9 rfl rfl ?_
  refine k_icge d_Model_accept_22 rfl (fun c5 => ?_) (fun c5 => ?_)
  · have h := ineg c5 h
    refine k_aload_n d_Model_accept_86 rfl ?_
    refine k_getR d_Model_accept_87 fl_9_45 ob_9 rfl ?_
    refine k_iconst d_Model_accept_90 cI_0 ?_
    refine k_aload_n d_Model_accept_91 rfl ?_
    refine k_getR d_Model_accept_92 fl_9_42 ob_9 rfl ?_
    refine k_iconst d_Model_accept_95 cI_0 ?_
    refine k_bipush d_Model_accept_96 cB_8 ?_
    obtain ⟨p7, h⟩ := h
    refine k_cpy d_Model_accept_98 ml_9_102 rI_145.1 rI_144.1 (rI_145.2.trans rI_144.2.symm) (Or.inl rI_145.2) p7 rfl ?_
    refine k_iload_n d_Model_accept_101 rfl ?_
    obtain ⟨p6, h⟩ := h
    exact k_iret d_Model_accept_102 (Or.inr ⟨rfl, p6⟩) h
  · have h := ipos c5 h
    refine k_aload_n d_Model_accept_25 rfl ?_
    refine k_getR d_Model_accept_26 fl_9_19 ob_9 rfl ?_
    refine k_iload_n d_Model_accept_29 rfl ?_
    obtain ⟨p22, h⟩ := h
    refine k_ild (x := (σ4.2 137 (Int.toNat s3.2))) d_Model_accept_30 rI_137 p22 rfl ?_
    refine k_iload_n d_Model_accept_31 rfl ?_
    refine k_join (S := Int) (pc' := 80) (st' := fun s10 => []) (lv' := fun s10 => [some (.inr 9), some (.inl a1), some (.inl s10), some (.inl s3.2)]) (fun s10 σ11 h => ?_) (fun J8 hJ9 h => ?_) h
    · obtain ⟨p12, h⟩ := h
      refine k_iinc (lv' := [some (.inr 9), some (.inl a1), some (.inl s10), some (.inl (s3.2 + 1))]) d_Model_accept_80 cI_1 rfl rfl p12 rfl ?_
      refine k_goto d_Model_accept_83 rfl ?_
      exact k_sb (sb_s (sb_s (sb_s (sb_s sb_nil)))) (hK2 (s10, (s3.2 + 1)) _ h)
    · refine k_icne d_Model_accept_32 rfl (fun c13 => ?_) (fun c13 => ?_)
      · have h := ineg c13 h
        exact k_sb (sb_s (sb_s (sb_s (sb_s sb_nil)))) (hJ9 s3.1 _ h)
      · have h := ipos c13 h
        refine k_aload_n d_Model_accept_35 rfl ?_
        refine k_getR d_Model_accept_36 fl_9_42 ob_9 rfl ?_
        refine k_iconst d_Model_accept_39 cI_0 ?_
        refine k_iload_n d_Model_accept_40 rfl ?_
        refine k_csi [.inr 144, .inl 0, .inl s3.2] d_Model_accept_41 ml_9_122 (Or.inl rfl) rfl rfl rfl (s_Model_has hL (by omega) rI_144 h) (fun v15 σ14 h => ?_)
        refine k_ifeq d_Model_accept_44 rfl (fun c16 => ?_) (fun c16 => ?_)
        · have h := ipos c16 h
          exact k_sb (sb_s (sb_s (sb_s (sb_s sb_nil)))) (hJ9 s3.1 _ h)
        · have h := ineg c16 h
          refine k_iconst d_Model_accept_47 cI_1 ?_
          refine k_istore_n (lv' := [some (.inr 9), some (.inl a1), some (.inl 1), some (.inl s3.2)]) d_Model_accept_48 rfl rfl ?_
          refine k_aload_n d_Model_accept_49 rfl ?_
          refine k_dup d_Model_accept_50 ?_
          refine k_getI (x := (σ14.1 9 12)) d_Model_accept_51 fl_9_140 ob_9 rfl rfl ?_
          refine k_aload_n d_Model_accept_54 rfl ?_
          refine k_getR d_Model_accept_55 fl_9_29 ob_9 rfl ?_
          refine k_iconst d_Model_accept_58 cI_0 ?_
          refine k_iload_n d_Model_accept_59 rfl ?_
          refine k_csi [.inr 140, .inl 0, .inl s3.2] d_Model_accept_60 ml_9_122 (Or.inl rfl) rfl rfl rfl (s_Model_has hL (by omega) rI_140 h) (fun v18 σ17 h => ?_)
          refine k_ior d_Model_accept_63 ?_
          obtain ⟨p21, h⟩ := h
          refine k_putZ d_Model_accept_64 fl_9_140 ob_9 rfl p21 ?_
          refine k_aload_n d_Model_accept_67 rfl ?_
          refine k_getR d_Model_accept_68 fl_9_45 ob_9 rfl ?_
          refine k_iconst d_Model_accept_71 cI_0 ?_
          refine k_aload_n d_Model_accept_72 rfl ?_
          refine k_getR d_Model_accept_73 fl_9_23 ob_9 rfl ?_
          refine k_iload_n d_Model_accept_76 rfl ?_
          refine k_csv [.inr 145, .inl 0, .inr 138, .inl s3.2] d_Model_accept_77 ml_9_126 (Or.inl rfl) rfl rfl rfl (s_Model_unite hL (by omega) rI_145 rI_138 h) (fun σ19 h => ?_)
          exact k_sb (sb_s (sb_s (sb_s (sb_s sb_nil)))) (hJ9 1 _ h)
theorem d_Model_isComplete_0 : decode b_Model_isComplete 0 = .ok (.aload_n 0, 1) := by decide +kernel
theorem d_Model_isComplete_1 : decode b_Model_isComplete 1 = .ok (.getfield 140, 3) := by decide +kernel
theorem d_Model_isComplete_4 : decode b_Model_isComplete 4 = .ok (.ireturn, 1) := by decide +kernel
/-- Model_isComplete -/
def w_Model_isComplete (L : Nat → Nat)  (Q : Int → IS → Prop) (σ : IS) : Prop := is01 (σ.1 9 12) ∧ Q (σ.1 9 12) σ
set_option maxHeartbeats 4000000 in
set_option maxRecDepth 20000 in
theorem s_Model_isComplete {L : Nat → Nat} (hL : ∀ r, L r < 2147483648) {d : Nat} (hd : 0 ≤ d)  {Q : Int → IS → Prop} {σ : IS}  (h : w_Model_isComplete L  Q σ) : OkI BF L d 9 b_Model_isComplete 1 2 0 [] [some (.inr 9)] σ (qi Q) := by
  unfold w_Model_isComplete at h
  refine k_sb (lv' := [some (.inr 9)]) (sb_s sb_nil) ?_
  refine k_aload_n d_Model_isComplete_0 rfl ?_
  refine k_getI (x := (σ.1 9 12)) d_Model_isComplete_1 fl_9_140 ob_9 rfl rfl ?_
  obtain ⟨p1, h⟩ := h
  exact k_iret d_Model_isComplete_4 (Or.inr ⟨rfl, p1⟩) h
theorem d_Validator_fits_0 : decode b_Validator_fits 0 = .ok (.aload_n 0, 1) := by decide +kernel
theorem d_Validator_fits_1 : decode b_Validator_fits 1 = .ok (.getfield 31, 3) := by decide +kernel
theorem d_Validator_fits_4 : decode b_Validator_fits 4 = .ok (.getfield 194, 3) := by decide +kernel
theorem d_Validator_fits_7 : decode b_Validator_fits 7 = .ok (.iload_n 1, 1) := by decide +kernel
theorem d_Validator_fits_8 : decode b_Validator_fits 8 = .ok (.iaload, 1) := by decide +kernel
theorem d_Validator_fits_9 : decode b_Validator_fits 9 = .ok (.istore 4, 2) := by decide +kernel
theorem d_Validator_fits_11 : decode b_Validator_fits 11 = .ok (.iload_n 2, 1) := by decide +kernel
theorem d_Validator_fits_12 : decode b_Validator_fits 12 = .ok (.ifCond .ne 14, 3) := by decide +kernel
theorem d_Validator_fits_15 : decode b_Validator_fits 15 = .ok (.iload 4, 2) := by decide +kernel
theorem d_Validator_fits_17 : decode b_Validator_fits 17 = .ok (.ifCond .ne 7, 3) := by decide +kernel
theorem d_Validator_fits_20 : decode b_Validator_fits 20 = .ok (.iconst 1, 1) := by decide +kernel
theorem d_Validator_fits_21 : decode b_Validator_fits 21 = .ok (.goto 4, 3) := by decide +kernel
theorem d_Validator_fits_24 : decode b_Validator_fits 24 = .ok (.iconst 0, 1) := by decide +kernel
theorem d_Validator_fits_25 : decode b_Validator_fits 25 = .ok (.ireturn, 1) := by decide +kernel
theorem d_Validator_fits_26 : decode b_Validator_fits 26 = .ok (.iload_n 2, 1) := by decide +kernel
theorem d_Validator_fits_27 : decode b_Validator_fits 27 = .ok (.iconst 3, 1) := by decide +kernel
theorem d_Validator_fits_28 : decode b_Validator_fits 28 = .ok (.if_icmp .ne 20, 3) := by decide +kernel
theorem d_Validator_fits_31 : decode b_Validator_fits 31 = .ok (.iload 4, 2) := by decide +kernel
theorem d_Validator_fits_33 : decode b_Validator_fits 33 = .ok (.bipush 6, 2) := by decide +kernel
theorem d_Validator_fits_35 : decode b_Validator_fits 35 = .ok (.iand, 1) := by decide +kernel
theorem d_Validator_fits_36 : decode b_Validator_fits 36 = .ok (.ifCond .eq 5, 3) := by decide +kernel
theorem d_Validator_fits_39 : decode b_Validator_fits 39 = .ok (.iconst 0, 1) := by decide +kernel
theorem d_Validator_fits_40 : decode b_Validator_fits 40 = .ok (.ireturn, 1) := by decide +kernel
theorem d_Validator_fits_41 : decode b_Validator_fits 41 = .ok (.aload_n 0, 1) := by decide +kernel
theorem d_Validator_fits_42 : decode b_Validator_fits 42 = .ok (.getfield 35, 3) := by decide +kernel
theorem d_Validator_fits_45 : decode b_Validator_fits 45 = .ok (.invokevirtual 197, 3) := by decide +kernel
theorem d_Validator_fits_48 : decode b_Validator_fits 48 = .ok (.iconst 1, 1) := by decide +kernel
theorem d_Validator_fits_49 : decode b_Validator_fits 49 = .ok (.istore 5, 2) := by decide +kernel
theorem d_Validator_fits_51 : decode b_Validator_fits 51 = .ok (.aload_n 0, 1) := by decide +kernel
theorem d_Validator_fits_52 : decode b_Validator_fits 52 = .ok (.getfield 48, 3) := by decide +kernel
theorem d_Validator_fits_55 : decode b_Validator_fits 55 = .ok (.iload_n 1, 1) := by decide +kernel
theorem d_Validator_fits_56 : decode b_Validator_fits 56 = .ok (.iaload, 1) := by decide +kernel
theorem d_Validator_fits_57 : decode b_Validator_fits 57 = .ok (.istore 6, 2) := by decide +kernel
theorem d_Validator_fits_59 : decode b_Validator_fits 59 = .ok (.iconst 0, 1) := by decide +kernel
theorem d_Validator_fits_60 : decode b_Validator_fits 60 = .ok (.istore 7, 2) := by decide +kernel
theorem d_Validator_fits_62 : decode b_Validator_fits 62 = .ok (.iload 7, 2) := by decide +kernel
theorem d_Validator_fits_64 : decode b_Validator_fits 64 = .ok (.aload_n 0, 1) := by decide +kernel
theorem d_Validator_fits_65 : decode b_Validator_fits 65 = .ok (.getfield 31, 3) := by decide +kernel
theorem d_Validator_fits_68 : decode b_Validator_fits 68 = .ok (.getfield 113, 3) := by decide +kernel
theorem d_Validator_fits_71 : decode b_Validator_fits 71 = .ok (.if_icmp .ge 105, 3) := by decide +kernel
theorem d_Validator_fits_74 : decode b_Validator_fits 74 = .ok (.iload 6, 2) := by decide +kernel
theorem d_Validator_fits_76 : decode b_Validator_fits 76 = .ok (.iconst (-1), 1) := by decide +kernel
theorem d_Validator_fits_77 : decode b_Validator_fits 77 = .ok (.if_icmp .eq 99, 3) := by decide +kernel
theorem d_Validator_fits_80 : decode b_Validator_fits 80 = .ok (.iload 5, 2) := by decide +kernel
theorem d_Validator_fits_82 : decode b_Validator_fits 82 = .ok (.ifCond .eq 94, 3) := by decide +kernel
theorem d_Validator_fits_85 : decode b_Validator_fits 85 = .ok (.aload_n 0, 1) := by decide +kernel
theorem d_Validator_fits_86 : decode b_Validator_fits 86 = .ok (.getfield 31, 3) := by decide +kernel
theorem d_Validator_fits_89 : decode b_Validator_fits 89 = .ok (.getfield 43, 3) := by decide +kernel
theorem d_Validator_fits_92 : decode b_Validator_fits 92 = .ok (.iload 6, 2) := by decide +kernel
theorem d_Validator_fits_94 : decode b_Validator_fits 94 = .ok (.iaload, 1) := by decide +kernel
theorem d_Validator_fits_95 : decode b_Validator_fits 95 = .ok (.istore 8, 2) := by decide +kernel
theorem d_Validator_fits_97 : decode b_Validator_fits 97 = .ok (.iload_n 2, 1) := by decide +kernel
theorem d_Validator_fits_98 : decode b_Validator_fits 98 = .ok (.iconst 3, 1) := by decide +kernel
theorem d_Validator_fits_99 : decode b_Validator_fits 99 = .ok (.if_icmp .ne 15, 3) := by decide +kernel
theorem d_Validator_fits_102 : decode b_Validator_fits 102 = .ok (.aload_n 0, 1) := by decide +kernel
theorem d_Validator_fits_103 : decode b_Validator_fits 103 = .ok (.getfield 35, 3) := by decide +kernel
theorem d_Validator_fits_106 : decode b_Validator_fits 106 = .ok (.iload 8, 2) := by decide +kernel
theorem d_Validator_fits_108 : decode b_Validator_fits 108 = .ok (.invokevirtual 200, 3) := by decide +kernel
theorem d_Validator_fits_111 : decode b_Validator_fits 111 = .ok (.goto 48, 3) := by decide +kernel
theorem d_Validator_fits_114 : decode b_Validator_fits 114 = .ok (.iload_n 2, 1) := by decide +kernel
theorem d_Validator_fits_115 : decode b_Validator_fits 115 = .ok (.iconst 2, 1) := by decide +kernel
theorem d_Validator_fits_116 : decode b_Validator_fits 116 = .ok (.if_icmp .ne 25, 3) := by decide +kernel
theorem d_Validator_fits_119 : decode b_Validator_fits 119 = .ok (.aload_n 0, 1) := by decide +kernel
theorem d_Validator_fits_120 : decode b_Validator_fits 120 = .ok (.getfield 9, 3) := by decide +kernel
theorem d_Validator_fits_123 : decode b_Validator_fits 123 = .ok (.getfield 191, 3) := by decide +kernel
theorem d_Validator_fits_126 : decode b_Validator_fits 126 = .ok (.iload 8, 2) := by decide +kernel
theorem d_Validator_fits_128 : decode b_Validator_fits 128 = .ok (.iaload, 1) := by decide +kernel
theorem d_Validator_fits_129 : decode b_Validator_fits 129 = .ok (.iload_n 3, 1) := by decide +kernel
theorem d_Validator_fits_130 : decode b_Validator_fits 130 = .ok (.if_icmp .ne 7, 3) := by decide +kernel
theorem d_Validator_fits_133 : decode b_Validator_fits 133 = .ok (.iconst 1, 1) := by decide +kernel
theorem d_Validator_fits_134 : decode b_Validator_fits 134 = .ok (.goto 25, 3) := by decide +kernel
theorem d_Validator_fits_137 : decode b_Validator_fits 137 = .ok (.iconst 0, 1) := by decide +kernel
theorem d_Validator_fits_138 : decode b_Validator_fits 138 = .ok (.goto 21, 3) := by decide +kernel
theorem d_Validator_fits_141 : decode b_Validator_fits 141 = .ok (.aload_n 0, 1) := by decide +kernel
theorem d_Validator_fits_142 : decode b_Validator_fits 142 = .ok (.getfield 23, 3) := by decide +kernel
theorem d_Validator_fits_145 : decode b_Validator_fits 145 = .ok (.getfield 125, 3) := by decide +kernel
theorem d_Validator_fits_148 : decode b_Validator_fits 148 = .ok (.iload 8, 2) := by decide +kernel
theorem d_Validator_fits_150 : decode b_Validator_fits 150 = .ok (.iaload, 1) := by decide +kernel
theorem d_Validator_fits_151 : decode b_Validator_fits 151 = .ok (.ifCond .eq 7, 3) := by decide +kernel
theorem d_Validator_fits_154 : decode b_Validator_fits 154 = .ok (.iconst 1, 1) := by decide +kernel
theorem d_Validator_fits_155 : decode b_Validator_fits 155 = .ok (.goto 4, 3) := by decide +kernel
theorem d_Validator_fits_158 : decode b_Validator_fits 158 = .ok (.iconst 0, 1) := by decide +kernel
theorem d_Validator_fits_159 : decode b_Validator_fits 159 = .ok (.istore 5, 2) := by decide +kernel
theorem d_Validator_fits_161 : decode b_Validator_fits 161 = .ok (.aload_n 0, 1) := by decide +kernel
theorem d_Validator_fits_162 : decode b_Validator_fits 162 = .ok (.getfield 51, 3) := by decide +kernel
theorem d_Validator_fits_165 : decode b_Validator_fits 165 = .ok (.iload 6, 2) := by decide +kernel
theorem d_Validator_fits_167 : decode b_Validator_fits 167 = .ok (.iaload, 1) := by decide +kernel
theorem d_Validator_fits_168 : decode b_Validator_fits 168 = .ok (.istore 6, 2) := by decide +kernel
theorem d_Validator_fits_170 : decode b_Validator_fits 170 = .ok (.iinc 7 1, 3) := by decide +kernel
theorem d_Validator_fits_173 : decode b_Validator_fits 173 = .ok (.goto (-111), 3) := by decide +kernel
theorem d_Validator_fits_176 : decode b_Validator_fits 176 = .ok (.iload 5, 2) := by decide +kernel
theorem d_Validator_fits_178 : decode b_Validator_fits 178 = .ok (.ifCond .eq 22, 3) := by decide +kernel
theorem d_Validator_fits_181 : decode b_Validator_fits 181 = .ok (.iload_n 2, 1) := by decide +kernel
theorem d_Validator_fits_182 : decode b_Validator_fits 182 = .ok (.iconst 3, 1) := by decide +kernel
theorem d_Validator_fits_183 : decode b_Validator_fits 183 = .ok (.if_icmp .ne 13, 3) := by decide +kernel
theorem d_Validator_fits_186 : decode b_Validator_fits 186 = .ok (.aload_n 0, 1) := by decide +kernel
theorem d_Validator_fits_187 : decode b_Validator_fits 187 = .ok (.getfield 35, 3) := by decide +kernel
theorem d_Validator_fits_190 : decode b_Validator_fits 190 = .ok (.invokevirtual 204, 3) := by decide +kernel
theorem d_Validator_fits_193 : decode b_Validator_fits 193 = .ok (.ifCond .eq 7, 3) := by decide +kernel
theorem d_Validator_fits_196 : decode b_Validator_fits 196 = .ok (.iconst 1, 1) := by decide +kernel
theorem d_Validator_fits_197 : decode b_Validator_fits 197 = .ok (.goto 4, 3) := by decide +kernel
theorem d_Validator_fits_200 : decode b_Validator_fits 200 = .ok (.iconst 0, 1) := by decide +kernel
theorem d_Validator_fits_201 : decode b_Validator_fits 201 = .ok (.ireturn, 1) := by decide +kernel
/-- Validator_fits -/
def w_Validator_fits (L : Nat → Nat) (a1 : Int) (a2 : Int) (a3 : Int) (Q : Int → IS → Prop) (σ : IS) : Prop := inL L 133 a1 ∧ if a2 = 0 then Q (if (σ.2 133 (Int.toNat a1)) = 0 then (1 : Int) else (0 : Int)) σ else WJ (fun (s4 : Unit) (σ5 : IS) => inL L 150 a1 ∧ WL (fun (K6 : Int × Int × Int → IS → Prop) (s8 : Int × Int × Int) (σ9 : IS) => if s8.2.2 < (σ9.1 6 2) ∧ (¬ s8.2.1 = (-1) ∧ (¬ s8.1 = 0)) then inL L 146 s8.2.1 ∧ WJ (fun (s12 : Int) (σ13 : IS) => inL L 151 s8.2.1 ∧ inR (s8.2.2 + 1) ∧ K6 (s12, (σ13.2 151 (Int.toNat s8.2.1)), (s8.2.2 + 1)) σ13) (fun J10 => if a2 = 3 then w_Model_accept L (σ9.2 146 (Int.toNat s8.2.1)) (fun v33 σ32 => J10 v33 σ32) σ9 else (((a2 = 2 → inL L 155 (σ9.2 146 (Int.toNat s8.2.1))) ∧ (¬ a2 = 2 → inL L 125 (σ9.2 146 (Int.toNat s8.2.1))))) ∧ J10 (if a2 = 2 then (if (σ9.2 155 (Int.toNat (σ9.2 146 (Int.toNat s8.2.1)))) = a3 then (1 : Int) else (0 : Int)) else (if (σ9.2 125 (Int.toNat (σ9.2 146 (Int.toNat s8.2.1)))) = 0 then (0 : Int) else (1 : Int))) σ9) else WJ (fun (s37 : Int) (σ38 : IS) => is01 s37 ∧ Q s37 σ38) (fun J35 => WJ (fun (s42 : Unit) (σ43 : IS) => J35 0 σ43) (fun J40 => if s8.1 = 0 then J40 () σ9 else WJ (fun (s47 : Unit) (σ48 : IS) => J35 1 σ48) (fun J45 => if a2 = 3 then w_Model_isComplete L  (fun v51 σ50 => if v51 = 0 then J40 () σ50 else J45 () σ50) σ9 else J45 () σ9)))) (1, (σ5.2 150 (Int.toNat a1)), 0) σ5) (fun J2 => if a2 = 3 then if (ia (σ.2 133 (Int.toNat a1)) 6) = 0 then w_Model_begin L  (fun σ62 => J2 () σ62) σ else Q 0 σ else J2 () σ)
set_option maxHeartbeats 4000000 in
set_option maxRecDepth 20000 in
theorem s_Validator_fits {L : Nat → Nat} (hL : ∀ r, L r < 2147483648) {d : Nat} (hd : 2 ≤ d) {a1 : Int} {a2 : Int} {a3 : Int} {Q : Int → IS → Prop} {σ : IS}  (h : w_Validator_fits L a1 a2 a3 Q σ) : OkI BF L d 8 b_Validator_fits 9 2 0 [] [some (.inr 8), some (.inl a1), some (.inl a2), some (.inl a3)] σ (qi Q) := by
  unfold w_Validator_fits at h
  obtain ⟨d, rfl⟩ : ∃ e, d = e + 1 := ⟨d - 1, by omega⟩
  refine k_sb (lv' := [some (.inr 8), some (.inl a1), some (.inl a2), some (.inl a3), none, none, none, none, none]) (sb_s (sb_s (sb_s (sb_s (sb_e (sb_e (sb_e (sb_e (sb_e sb_nil))))))))) ?_
  refine k_aload_n d_Validator_fits_0 rfl ?_
  refine k_getR d_Validator_fits_1 fl_8_31 ob_8 rfl ?_
  refine k_getR d_Validator_fits_4 fl_8_194 ob_6 rfl ?_
  refine k_iload_n d_Validator_fits_7 rfl ?_
  obtain ⟨p68, h⟩ := h
  refine k_ild (x := (σ.2 133 (Int.toNat a1))) d_Validator_fits_8 rI_133 p68 rfl ?_
  refine k_istore (lv' := [some (.inr 8), some (.inl a1), some (.inl a2), some (.inl a3), some (.inl (σ.2 133 (Int.toNat a1))), none, none, none, none]) d_Validator_fits_9 rfl rfl ?_
  refine k_iload_n d_Validator_fits_11 rfl ?_
  refine k_ifne d_Validator_fits_12 rfl (fun c1 => ?_) (fun c1 => ?_)
  · have h := ineg c1 h
    refine k_iload_n d_Validator_fits_26 rfl ?_
    refine k_iconst d_Validator_fits_27 cI_3 ?_
    refine k_join (S := Unit) (pc' := 48) (st' := fun s4 => []) (lv' := fun s4 => [some (.inr 8), some (.inl a1), some (.inl a2), some (.inl a3), none, none, none, none, none]) (fun s4 σ5 h => ?_) (fun J2 hJ3 h => ?_) h
    · refine k_iconst d_Validator_fits_48 cI_1 ?_
      refine k_istore (lv' := [some (.inr 8), some (.inl a1), some (.inl a2), some (.inl a3), none, some (.inl 1), none, none, none]) d_Validator_fits_49 rfl rfl ?_
      refine k_aload_n d_Validator_fits_51 rfl ?_
      refine k_getR d_Validator_fits_52 fl_8_48 ob_8 rfl ?_
      refine k_iload_n d_Validator_fits_55 rfl ?_
      obtain ⟨p59, h⟩ := h
      refine k_ild (x := (σ5.2 150 (Int.toNat a1))) d_Validator_fits_56 rI_150 p59 rfl ?_
      refine k_istore (lv' := [some (.inr 8), some (.inl a1), some (.inl a2), some (.inl a3), none, some (.inl 1), some (.inl (σ5.2 150 (Int.toNat a1))), none, none]) d_Validator_fits_57 rfl rfl ?_
      refine k_iconst d_Validator_fits_59 cI_0 ?_
      refine k_istore (lv' := [some (.inr 8), some (.inl a1), some (.inl a2), some (.inl a3), none, some (.inl 1), some (.inl (σ5.2 150 (Int.toNat a1))), some (.inl 0), none]) d_Validator_fits_60 rfl rfl ?_
      refine k_sb (lv' := [some (.inr 8), none, some (.inl a2), some (.inl a3), none, some (.inl 1), some (.inl (σ5.2 150 (Int.toNat a1))), some (.inl 0), none]) (sb_s (sb_n (sb_s (sb_s (sb_s (sb_s (sb_s (sb_s (sb_s sb_nil))))))))) ?_
      refine k_loop (S := Int × Int × Int) (st := fun _ => []) (lv := fun s8 => [some (.inr 8), none, some (.inl a2), some (.inl a3), none, some (.inl s8.1), some (.inl s8.2.1), some (.inl s8.2.2), none]) (fun K6 hK7 s8 σ9 h => ?_) (1, (σ5.2 150 (Int.toNat a1)), 0) _ h
      refine k_iload d_Validator_fits_62 rfl ?_
      refine k_aload_n d_Validator_fits_64 rfl ?_
      refine k_getR d_Validator_fits_65 fl_8_31 ob_8 rfl ?_
      refine k_getI (x := (σ9.1 6 2)) d_Validator_fits_68 fl_8_113 ob_6 rfl rfl ?_
      have hX53 : (s8.2.2 < (σ9.1 6 2) ∧ (¬ s8.2.1 = (-1) ∧ (¬ s8.1 = 0))) → OkI BF L (d + 1) 8 b_Validator_fits 9 2 85 [] [some (.inr 8), none, some (.inl a2), some (.inl a3), none, some (.inl s8.1), some (.inl s8.2.1), some (.inl s8.2.2), none] σ9 (qi Q) := fun e55 => by
        have h := ipos e55 h
        refine k_aload_n d_Validator_fits_85 rfl ?_
        refine k_getR d_Validator_fits_86 fl_8_31 ob_8 rfl ?_
        refine k_getR d_Validator_fits_89 fl_8_43 ob_6 rfl ?_
        refine k_iload d_Validator_fits_92 rfl ?_
        obtain ⟨p34, h⟩ := h
        refine k_ild (x := (σ9.2 146 (Int.toNat s8.2.1))) d_Validator_fits_94 rI_146 p34 rfl ?_
        refine k_istore (lv' := [some (.inr 8), none, some (.inl a2), some (.inl a3), none, some (.inl s8.1), some (.inl s8.2.1), some (.inl s8.2.2), some (.inl (σ9.2 146 (Int.toNat s8.2.1)))]) d_Validator_fits_95 rfl rfl ?_
        refine k_iload_n d_Validator_fits_97 rfl ?_
        refine k_iconst d_Validator_fits_98 cI_3 ?_
        refine k_join (S := Int) (pc' := 159) (st' := fun s12 => [.inl s12]) (lv' := fun s12 => [some (.inr 8), none, some (.inl a2), some (.inl a3), none, none, some (.inl s8.2.1), some (.inl s8.2.2), none]) (fun s12 σ13 h => ?_) (fun J10 hJ11 h => ?_) h
        · refine k_istore (lv' := [some (.inr 8), none, some (.inl a2), some (.inl a3), none, some (.inl s12), some (.inl s8.2.1), some (.inl s8.2.2), none]) d_Validator_fits_159 rfl rfl ?_
          refine k_aload_n d_Validator_fits_161 rfl ?_
          refine k_getR d_Validator_fits_162 fl_8_51 ob_8 rfl ?_
          refine k_iload d_Validator_fits_165 rfl ?_
          obtain ⟨p15, h⟩ := h
          refine k_ild (x := (σ13.2 151 (Int.toNat s8.2.1))) d_Validator_fits_167 rI_151 p15 rfl ?_
          refine k_istore (lv' := [some (.inr 8), none, some (.inl a2), some (.inl a3), none, some (.inl s12), some (.inl (σ13.2 151 (Int.toNat s8.2.1))), some (.inl s8.2.2), none]) d_Validator_fits_168 rfl rfl ?_
          obtain ⟨p14, h⟩ := h
          refine k_iinc (lv' := [some (.inr 8), none, some (.inl a2), some (.inl a3), none, some (.inl s12), some (.inl (σ13.2 151 (Int.toNat s8.2.1))), some (.inl (s8.2.2 + 1)), none]) d_Validator_fits_170 cI_1 rfl rfl p14 rfl ?_
          refine k_goto d_Validator_fits_173 rfl ?_
          exact k_sb (sb_s (sb_s (sb_s (sb_s (sb_s (sb_s (sb_s (sb_s (sb_s sb_nil))))))))) (hK7 (s12, (σ13.2 151 (Int.toNat s8.2.1)), (s8.2.2 + 1)) _ h)
        · refine k_icne d_Validator_fits_99 rfl (fun c16 => ?_) (fun c16 => ?_)
          · have h := ineg c16 h
            refine k_iload_n d_Validator_fits_114 rfl ?_
            refine k_iconst d_Validator_fits_115 cI_2 ?_
            obtain ⟨pt20, h⟩ := h
            have hV19 : OkI BF L (d + 1) 8 b_Validator_fits 9 2 159 [.inl (if a2 = 2 then (if (σ9.2 155 (Int.toNat (σ9.2 146 (Int.toNat s8.2.1)))) = a3 then (1 : Int) else (0 : Int)) else (if (σ9.2 125 (Int.toNat (σ9.2 146 (Int.toNat s8.2.1)))) = 0 then (0 : Int) else (1 : Int)))] [some (.inr 8), none, some (.inl a2), some (.inl a3), none, some (.inl s8.1), some (.inl s8.2.1), some (.inl s8.2.2), some (.inl (σ9.2 146 (Int.toNat s8.2.1)))] σ9 (qi Q) := by
              exact k_sb (sb_s (sb_s (sb_s (sb_s (sb_s (sb_n (sb_s (sb_s (sb_n sb_nil))))))))) (hJ11 (if a2 = 2 then (if (σ9.2 155 (Int.toNat (σ9.2 146 (Int.toNat s8.2.1)))) = a3 then (1 : Int) else (0 : Int)) else (if (σ9.2 125 (Int.toNat (σ9.2 146 (Int.toNat s8.2.1)))) = 0 then (0 : Int) else (1 : Int))) _ h)
            obtain ⟨pa21, pb22⟩ := pt20
            refine k_icne d_Validator_fits_116 rfl (fun c23 => ?_) (fun c23 => ?_)
            · have pb22 := pb22 c23
              have hV28 := k_eqI (if_neg c23) hV19
              have p17 := pb22
              refine k_aload_n d_Validator_fits_141 rfl ?_
              refine k_getR d_Validator_fits_142 fl_8_23 ob_8 rfl ?_
              refine k_getR d_Validator_fits_145 fl_8_125 ob_4 rfl ?_
              refine k_iload d_Validator_fits_148 rfl ?_
              refine k_ild (x := (σ9.2 125 (Int.toNat (σ9.2 146 (Int.toNat s8.2.1))))) d_Validator_fits_150 rI_125 p17 rfl ?_
              refine k_ifeq d_Validator_fits_151 rfl (fun c29 => ?_) (fun c29 => ?_)
              · have hV30 := k_eqI (if_pos c29) hV28
                refine k_iconst d_Validator_fits_158 cI_0 ?_
                exact hV30
              · have hV31 := k_eqI (if_neg c29) hV28
                refine k_iconst d_Validator_fits_154 cI_1 ?_
                refine k_goto d_Validator_fits_155 rfl ?_
                exact hV31
            · have pa21 := pa21 c23
              have hV24 := k_eqI (if_pos c23) hV19
              have p18 := pa21
              refine k_aload_n d_Validator_fits_119 rfl ?_
              refine k_getR d_Validator_fits_120 fl_8_9 ob_8 rfl ?_
              refine k_getR d_Validator_fits_123 fl_8_191 ob_1 rfl ?_
              refine k_iload d_Validator_fits_126 rfl ?_
              refine k_ild (x := (σ9.2 155 (Int.toNat (σ9.2 146 (Int.toNat s8.2.1))))) d_Validator_fits_128 rI_155 p18 rfl ?_
              refine k_iload_n d_Validator_fits_129 rfl ?_
              refine k_icne d_Validator_fits_130 rfl (fun c25 => ?_) (fun c25 => ?_)
              · have hV27 := k_eqI (if_neg c25) hV24
                refine k_iconst d_Validator_fits_137 cI_0 ?_
                refine k_goto d_Validator_fits_138 rfl ?_
                exact hV27
              · have hV26 := k_eqI (if_pos c25) hV24
                refine k_iconst d_Validator_fits_133 cI_1 ?_
                refine k_goto d_Validator_fits_134 rfl ?_
                exact hV26
          · have h := ipos c16 h
            refine k_aload_n d_Validator_fits_102 rfl ?_
            refine k_getR d_Validator_fits_103 fl_8_35 ob_8 rfl ?_
            refine k_iload d_Validator_fits_106 rfl ?_
            refine k_cvi [.inl (σ9.2 146 (Int.toNat s8.2.1))] d_Validator_fits_108 ml_8_200 rfl rfl ob_9 rfl (s_Model_accept hL (by omega)  h) (fun v33 σ32 h => ?_)
            refine k_goto d_Validator_fits_111 rfl ?_
            exact k_sb (sb_s (sb_s (sb_s (sb_s (sb_s (sb_n (sb_s (sb_s (sb_n sb_nil))))))))) (hJ11 v33 _ h)
      have hY54 : ¬ (s8.2.2 < (σ9.1 6 2) ∧ (¬ s8.2.1 = (-1) ∧ (¬ s8.1 = 0))) → OkI BF L (d + 1) 8 b_Validator_fits 9 2 176 [] [some (.inr 8), none, some (.inl a2), some (.inl a3), none, some (.inl s8.1), some (.inl s8.2.1), some (.inl s8.2.2), none] σ9 (qi Q) := fun e55 => by
        have h := ineg e55 h
        refine k_iload d_Validator_fits_176 rfl ?_
        refine k_join (S := Int) (pc' := 201) (st' := fun s37 => [.inl s37]) (lv' := fun s37 => [none, none, none, none, none, none, none, none, none]) (fun s37 σ38 h => ?_) (fun J35 hJ36 h => ?_) h
        · obtain ⟨p39, h⟩ := h
          exact k_iret d_Validator_fits_201 (Or.inr ⟨rfl, p39⟩) h
        · refine k_join (S := Unit) (pc' := 200) (st' := fun s42 => []) (lv' := fun s42 => [none, none, none, none, none, none, none, none, none]) (fun s42 σ43 h => ?_) (fun J40 hJ41 h => ?_) h
          · refine k_iconst d_Validator_fits_200 cI_0 ?_
            exact k_sb (sb_s (sb_s (sb_s (sb_s (sb_s (sb_s (sb_s (sb_s (sb_s sb_nil))))))))) (hJ36 0 _ h)
          · refine k_ifeq d_Validator_fits_178 rfl (fun c44 => ?_) (fun c44 => ?_)
            · have h := ipos c44 h
              exact k_sb (sb_n (sb_s (sb_n (sb_n (sb_s (sb_n (sb_n (sb_n (sb_s sb_nil))))))))) (hJ41 () _ h)
            · have h := ineg c44 h
              refine k_iload_n d_Validator_fits_181 rfl ?_
              refine k_iconst d_Validator_fits_182 cI_3 ?_
              refine k_join (S := Unit) (pc' := 196) (st' := fun s47 => []) (lv' := fun s47 => [none, none, none, none, none, none, none, none, none]) (fun s47 σ48 h => ?_) (fun J45 hJ46 h => ?_) h
              · refine k_iconst d_Validator_fits_196 cI_1 ?_
                refine k_goto d_Validator_fits_197 rfl ?_
                exact k_sb (sb_s (sb_s (sb_s (sb_s (sb_s (sb_s (sb_s (sb_s (sb_s sb_nil))))))))) (hJ36 1 _ h)
              · refine k_icne d_Validator_fits_183 rfl (fun c49 => ?_) (fun c49 => ?_)
                · have h := ineg c49 h
                  exact k_sb (sb_n (sb_s (sb_n (sb_n (sb_s (sb_n (sb_n (sb_n (sb_s sb_nil))))))))) (hJ46 () _ h)
                · have h := ipos c49 h
                  refine k_aload_n d_Validator_fits_186 rfl ?_
                  refine k_getR d_Validator_fits_187 fl_8_35 ob_8 rfl ?_
                  refine k_cvi [] d_Validator_fits_190 ml_8_204 rfl rfl ob_9 rfl (s_Model_isComplete hL (by omega)  h) (fun v51 σ50 h => ?_)
                  refine k_ifeq d_Validator_fits_193 rfl (fun c52 => ?_) (fun c52 => ?_)
                  · have h := ipos c52 h
                    exact k_sb (sb_n (sb_s (sb_n (sb_n (sb_s (sb_n (sb_n (sb_n (sb_s sb_nil))))))))) (hJ41 () _ h)
                  · have h := ineg c52 h
                    exact k_sb (sb_n (sb_s (sb_n (sb_n (sb_s (sb_n (sb_n (sb_n (sb_s sb_nil))))))))) (hJ46 () _ h)
      refine k_icge d_Validator_fits_71 rfl (fun c56 => ?_) (fun c56 => ?_)
      · exact hY54 (fun z => c56 z.1)
      · refine k_iload d_Validator_fits_74 rfl ?_
        refine k_iconst d_Validator_fits_76 cI_m1 ?_
        refine k_iceq d_Validator_fits_77 rfl (fun c57 => ?_) (fun c57 => ?_)
        · exact hY54 (fun z => (fun z => z.1 c57) z.2)
        · refine k_iload d_Validator_fits_80 rfl ?_
          refine k_ifeq d_Validator_fits_82 rfl (fun c58 => ?_) (fun c58 => ?_)
          · exact hY54 (fun z => (fun z => (fun z => z c58) z.2) z.2)
          · exact hX53 (⟨c56, ⟨c57, c58⟩⟩)
    · refine k_icne d_Validator_fits_28 rfl (fun c60 => ?_) (fun c60 => ?_)
      · have h := ineg c60 h
        exact k_sb (sb_s (sb_s (sb_s (sb_s (sb_n (sb_s (sb_s (sb_s (sb_s sb_nil))))))))) (hJ3 () _ h)
      · have h := ipos c60 h
        refine k_iload d_Validator_fits_31 rfl ?_
        refine k_bipush d_Validator_fits_33 cB_6 ?_
        refine k_iand d_Validator_fits_35 ?_
        refine k_ifeq d_Validator_fits_36 rfl (fun c61 => ?_) (fun c61 => ?_)
        · have h := ipos c61 h
          refine k_aload_n d_Validator_fits_41 rfl ?_
          refine k_getR d_Validator_fits_42 fl_8_35 ob_8 rfl ?_
          refine k_cvv [] d_Validator_fits_45 ml_8_197 rfl rfl ob_9 rfl (s_Model_begin hL (by omega)  h) (fun σ62 h => ?_)
          exact k_sb (sb_s (sb_s (sb_s (sb_s (sb_n (sb_s (sb_s (sb_s (sb_s sb_nil))))))))) (hJ3 () _ h)
        · have h := ineg c61 h
          refine k_iconst d_Validator_fits_39 cI_0 ?_
          exact k_iret d_Validator_fits_40 (Or.inr ⟨rfl, Or.inl rfl⟩) h
  · have h := ipos c1 h
    refine k_iload d_Validator_fits_15 rfl ?_
    have hV64 : OkI BF L (d + 1) 8 b_Validator_fits 9 2 25 [.inl (if (σ.2 133 (Int.toNat a1)) = 0 then (1 : Int) else (0 : Int))] [some (.inr 8), some (.inl a1), some (.inl a2), some (.inl a3), some (.inl (σ.2 133 (Int.toNat a1))), none, none, none, none] σ (qi Q) := by
      exact k_iret d_Validator_fits_25 (Or.inr ⟨rfl, it01 (Or.inr rfl) (Or.inl rfl)⟩) h
    refine k_ifne d_Validator_fits_17 rfl (fun c65 => ?_) (fun c65 => ?_)
    · have hV67 := k_eqI (if_neg c65) hV64
      refine k_iconst d_Validator_fits_24 cI_0 ?_
      exact hV67
    · have hV66 := k_eqI (if_pos c65) hV64
      refine k_iconst d_Validator_fits_20 cI_1 ?_
      refine k_goto d_Validator_fits_21 rfl ?_
      exact hV66
theorem d_Validator_countElements_0 : decode b_Validator_countElements 0 = .ok (.iconst 0, 1) := by decide +kernel
theorem d_Validator_countElements_1 : decode b_Validator_countElements 1 = .ok (.istore_n 1, 1) := by decide +kernel
theorem d_Validator_countElements_2 : decode b_Validator_countElements 2 = .ok (.iload_n 1, 1) := by decide +kernel
theorem d_Validator_countElements_3 : decode b_Validator_countElements 3 = .ok (.aload_n 0, 1) := by decide +kernel
theorem d_Validator_countElements_4 : decode b_Validator_countElements 4 = .ok (.getfield 23, 3) := by decide +kernel
theorem d_Validator_countElements_7 : decode b_Validator_countElements 7 = .ok (.getfield 119, 3) := by decide +kernel
theorem d_Validator_countElements_10 : decode b_Validator_countElements 10 = .ok (.if_icmp .ge 227, 3) := by decide +kernel
theorem d_Validator_countElements_13 : decode b_Validator_countElements 13 = .ok (.aload_n 0, 1) := by decide +kernel
theorem d_Validator_countElements_14 : decode b_Validator_countElements 14 = .ok (.getfield 23, 3) := by decide +kernel
theorem d_Validator_countElements_17 : decode b_Validator_countElements 17 = .ok (.getfield 125, 3) := by decide +kernel
theorem d_Validator_countElements_20 : decode b_Validator_countElements 20 = .ok (.aload_n 0, 1) := by decide +kernel
theorem d_Validator_countElements_21 : decode b_Validator_countElements 21 = .ok (.getfield 23, 3) := by decide +kernel
theorem d_Validator_countElements_24 : decode b_Validator_countElements 24 = .ok (.getfield 57, 3) := by decide +kernel
theorem d_Validator_countElements_27 : decode b_Validator_countElements 27 = .ok (.iload_n 1, 1) := by decide +kernel
theorem d_Validator_countElements_28 : decode b_Validator_countElements 28 = .ok (.iaload, 1) := by decide +kernel
theorem d_Validator_countElements_29 : decode b_Validator_countElements 29 = .ok (.iaload, 1) := by decide +kernel
theorem d_Validator_countElements_30 : decode b_Validator_countElements 30 = .ok (.iconst 1, 1) := by decide +kernel
theorem d_Validator_countElements_31 : decode b_Validator_countElements 31 = .ok (.isub, 1) := by decide +kernel
theorem d_Validator_countElements_32 : decode b_Validator_countElements 32 = .ok (.iload_n 1, 1) := by decide +kernel
theorem d_Validator_countElements_33 : decode b_Validator_countElements 33 = .ok (.if_icmp .eq 7, 3) := by decide +kernel
theorem d_Validator_countElements_36 : decode b_Validator_countElements 36 = .ok (.iconst 1, 1) := by decide +kernel
theorem d_Validator_countElements_37 : decode b_Validator_countElements 37 = .ok (.goto 4, 3) := by decide +kernel
theorem d_Validator_countElements_40 : decode b_Validator_countElements 40 = .ok (.iconst 0, 1) := by decide +kernel
theorem d_Validator_countElements_41 : decode b_Validator_countElements 41 = .ok (.istore_n 2, 1) := by decide +kernel
theorem d_Validator_countElements_42 : decode b_Validator_countElements 42 = .ok (.aload_n 0, 1) := by decide +kernel
theorem d_Validator_countElements_43 : decode b_Validator_countElements 43 = .ok (.getfield 39, 3) := by decide +kernel
theorem d_Validator_countElements_46 : decode b_Validator_countElements 46 = .ok (.iconst 2, 1) := by decide +kernel
theorem d_Validator_countElements_47 : decode b_Validator_countElements 47 = .ok (.dup2, 1) := by decide +kernel
theorem d_Validator_countElements_48 : decode b_Validator_countElements 48 = .ok (.iaload, 1) := by decide +kernel
theorem d_Validator_countElements_49 : decode b_Validator_countElements 49 = .ok (.iload_n 2, 1) := by decide +kernel
theorem d_Validator_countElements_50 : decode b_Validator_countElements 50 = .ok (.ifCond .eq 7, 3) := by decide +kernel
theorem d_Validator_countElements_53 : decode b_Validator_countElements 53 = .ok (.iconst 1, 1) := by decide +kernel
theorem d_Validator_countElements_54 : decode b_Validator_countElements 54 = .ok (.goto 4, 3) := by decide +kernel
theorem d_Validator_countElements_57 : decode b_Validator_countElements 57 = .ok (.iconst 0, 1) := by decide +kernel
theorem d_Validator_countElements_58 : decode b_Validator_countElements 58 = .ok (.iadd, 1) := by decide +kernel
theorem d_Validator_countElements_59 : decode b_Validator_countElements 59 = .ok (.iastore, 1) := by decide +kernel
theorem d_Validator_countElements_60 : decode b_Validator_countElements 60 = .ok (.iconst (-1), 1) := by decide +kernel
theorem d_Validator_countElements_61 : decode b_Validator_countElements 61 = .ok (.istore_n 3, 1) := by decide +kernel
theorem d_Validator_countElements_62 : decode b_Validator_countElements 62 = .ok (.aload_n 0, 1) := by decide +kernel
theorem d_Validator_countElements_63 : decode b_Validator_countElements 63 = .ok (.getfield 23, 3) := by decide +kernel
theorem d_Validator_countElements_66 : decode b_Validator_countElements 66 = .ok (.getfield 128, 3) := by decide +kernel
theorem d_Validator_countElements_69 : decode b_Validator_countElements 69 = .ok (.iload_n 1, 1) := by decide +kernel
theorem d_Validator_countElements_70 : decode b_Validator_countElements 70 = .ok (.iaload, 1) := by decide +kernel
theorem d_Validator_countElements_71 : decode b_Validator_countElements 71 = .ok (.iconst 2, 1) := by decide +kernel
theorem d_Validator_countElements_72 : decode b_Validator_countElements 72 = .ok (.if_icmp .ne 20, 3) := by decide +kernel
theorem d_Validator_countElements_75 : decode b_Validator_countElements 75 = .ok (.aload_n 0, 1) := by decide +kernel
theorem d_Validator_countElements_76 : decode b_Validator_countElements 76 = .ok (.aload_n 0, 1) := by decide +kernel
theorem d_Validator_countElements_77 : decode b_Validator_countElements 77 = .ok (.getfield 23, 3) := by decide +kernel
theorem d_Validator_countElements_80 : decode b_Validator_countElements 80 = .ok (.getfield 131, 3) := by decide +kernel
theorem d_Validator_countElements_83 : decode b_Validator_countElements 83 = .ok (.iload_n 1, 1) := by decide +kernel
theorem d_Validator_countElements_84 : decode b_Validator_countElements 84 = .ok (.iaload, 1) := by decide +kernel
theorem d_Validator_countElements_85 : decode b_Validator_countElements 85 = .ok (.invokevirtual 134, 3) := by decide +kernel
theorem d_Validator_countElements_88 : decode b_Validator_countElements 88 = .ok (.istore_n 3, 1) := by decide +kernel
theorem d_Validator_countElements_89 : decode b_Validator_countElements 89 = .ok (.goto 56, 3) := by decide +kernel
theorem d_Validator_countElements_92 : decode b_Validator_countElements 92 = .ok (.aload_n 0, 1) := by decide +kernel
theorem d_Validator_countElements_93 : decode b_Validator_countElements 93 = .ok (.getfield 23, 3) := by decide +kernel
theorem d_Validator_countElements_96 : decode b_Validator_countElements 96 = .ok (.getfield 128, 3) := by decide +kernel
theorem d_Validator_countElements_99 : decode b_Validator_countElements 99 = .ok (.iload_n 1, 1) := by decide +kernel
theorem d_Validator_countElements_100 : decode b_Validator_countElements 100 = .ok (.iaload, 1) := by decide +kernel
theorem d_Validator_countElements_101 : decode b_Validator_countElements 101 = .ok (.iconst 3, 1) := by decide +kernel
theorem d_Validator_countElements_102 : decode b_Validator_countElements 102 = .ok (.if_icmp .ne 43, 3) := by decide +kernel
theorem d_Validator_countElements_105 : decode b_Validator_countElements 105 = .ok (.aload_n 0, 1) := by decide +kernel
theorem d_Validator_countElements_106 : decode b_Validator_countElements 106 = .ok (.getfield 35, 3) := by decide +kernel
theorem d_Validator_countElements_109 : decode b_Validator_countElements 109 = .ok (.aload_n 0, 1) := by decide +kernel
theorem d_Validator_countElements_110 : decode b_Validator_countElements 110 = .ok (.getfield 23, 3) := by decide +kernel
theorem d_Validator_countElements_113 : decode b_Validator_countElements 113 = .ok (.getfield 131, 3) := by decide +kernel
theorem d_Validator_countElements_116 : decode b_Validator_countElements 116 = .ok (.iload_n 1, 1) := by decide +kernel
theorem d_Validator_countElements_117 : decode b_Validator_countElements 117 = .ok (.iaload, 1) := by decide +kernel
theorem d_Validator_countElements_118 : decode b_Validator_countElements 118 = .ok (.invokevirtual 138, 3) := by decide +kernel
theorem d_Validator_countElements_121 : decode b_Validator_countElements 121 = .ok (.aload_n 0, 1) := by decide +kernel
theorem d_Validator_countElements_122 : decode b_Validator_countElements 122 = .ok (.getfield 39, 3) := by decide +kernel
theorem d_Validator_countElements_125 : decode b_Validator_countElements 125 = .ok (.iconst 4, 1) := by decide +kernel
theorem d_Validator_countElements_126 : decode b_Validator_countElements 126 = .ok (.dup2, 1) := by decide +kernel
theorem d_Validator_countElements_127 : decode b_Validator_countElements 127 = .ok (.iaload, 1) := by decide +kernel
theorem d_Validator_countElements_128 : decode b_Validator_countElements 128 = .ok (.aload_n 0, 1) := by decide +kernel
theorem d_Validator_countElements_129 : decode b_Validator_countElements 129 = .ok (.getfield 35, 3) := by decide +kernel
theorem d_Validator_countElements_132 : decode b_Validator_countElements 132 = .ok (.invokevirtual 144, 3) := by decide +kernel
theorem d_Validator_countElements_135 : decode b_Validator_countElements 135 = .ok (.ifCond .eq 7, 3) := by decide +kernel
theorem d_Validator_countElements_138 : decode b_Validator_countElements 138 = .ok (.iconst 0, 1) := by decide +kernel
theorem d_Validator_countElements_139 : decode b_Validator_countElements 139 = .ok (.goto 4, 3) := by decide +kernel
theorem d_Validator_countElements_142 : decode b_Validator_countElements 142 = .ok (.iconst 1, 1) := by decide +kernel
theorem d_Validator_countElements_143 : decode b_Validator_countElements 143 = .ok (.iadd, 1) := by decide +kernel
theorem d_Validator_countElements_144 : decode b_Validator_countElements 144 = .ok (.iastore, 1) := by decide +kernel
theorem d_Validator_countElements_145 : decode b_Validator_countElements 145 = .ok (.iload_n 2, 1) := by decide +kernel
theorem d_Validator_countElements_146 : decode b_Validator_countElements 146 = .ok (.ifCond .eq 7, 3) := by decide +kernel
theorem d_Validator_countElements_149 : decode b_Validator_countElements 149 = .ok (.iconst (-1), 1) := by decide +kernel
theorem d_Validator_countElements_150 : decode b_Validator_countElements 150 = .ok (.goto 9, 3) := by decide +kernel
theorem d_Validator_countElements_153 : decode b_Validator_countElements 153 = .ok (.aload_n 0, 1) := by decide +kernel
theorem d_Validator_countElements_154 : decode b_Validator_countElements 154 = .ok (.getfield 62, 3) := by decide +kernel
theorem d_Validator_countElements_157 : decode b_Validator_countElements 157 = .ok (.iload_n 1, 1) := by decide +kernel
theorem d_Validator_countElements_158 : decode b_Validator_countElements 158 = .ok (.iaload, 1) := by decide +kernel
theorem d_Validator_countElements_159 : decode b_Validator_countElements 159 = .ok (.istore 4, 2) := by decide +kernel
theorem d_Validator_countElements_161 : decode b_Validator_countElements 161 = .ok (.iconst 0, 1) := by decide +kernel
theorem d_Validator_countElements_162 : decode b_Validator_countElements 162 = .ok (.istore 5, 2) := by decide +kernel
theorem d_Validator_countElements_164 : decode b_Validator_countElements 164 = .ok (.iload 5, 2) := by decide +kernel
theorem d_Validator_countElements_166 : decode b_Validator_countElements 166 = .ok (.aload_n 0, 1) := by decide +kernel
theorem d_Validator_countElements_167 : decode b_Validator_countElements 167 = .ok (.getfield 31, 3) := by decide +kernel
theorem d_Validator_countElements_170 : decode b_Validator_countElements 170 = .ok (.getfield 113, 3) := by decide +kernel
theorem d_Validator_countElements_173 : decode b_Validator_countElements 173 = .ok (.if_icmp .ge 58, 3) := by decide +kernel
theorem d_Validator_countElements_176 : decode b_Validator_countElements 176 = .ok (.iload 4, 2) := by decide +kernel
theorem d_Validator_countElements_178 : decode b_Validator_countElements 178 = .ok (.iconst (-1), 1) := by decide +kernel
theorem d_Validator_countElements_179 : decode b_Validator_countElements 179 = .ok (.if_icmp .eq 52, 3) := by decide +kernel
theorem d_Validator_countElements_182 : decode b_Validator_countElements 182 = .ok (.aload_n 0, 1) := by decide +kernel
theorem d_Validator_countElements_183 : decode b_Validator_countElements 183 = .ok (.getfield 39, 3) := by decide +kernel
theorem d_Validator_countElements_186 : decode b_Validator_countElements 186 = .ok (.bipush 6, 2) := by decide +kernel
theorem d_Validator_countElements_188 : decode b_Validator_countElements 188 = .ok (.dup2, 1) := by decide +kernel
theorem d_Validator_countElements_189 : decode b_Validator_countElements 189 = .ok (.iaload, 1) := by decide +kernel
theorem d_Validator_countElements_190 : decode b_Validator_countElements 190 = .ok (.aload_n 0, 1) := by decide +kernel
theorem d_Validator_countElements_191 : decode b_Validator_countElements 191 = .ok (.iload 4, 2) := by decide +kernel
theorem d_Validator_countElements_193 : decode b_Validator_countElements 193 = .ok (.aload_n 0, 1) := by decide +kernel
theorem d_Validator_countElements_194 : decode b_Validator_countElements 194 = .ok (.getfield 23, 3) := by decide +kernel
theorem d_Validator_countElements_197 : decode b_Validator_countElements 197 = .ok (.getfield 128, 3) := by decide +kernel
theorem d_Validator_countElements_200 : decode b_Validator_countElements 200 = .ok (.iload_n 1, 1) := by decide +kernel
theorem d_Validator_countElements_201 : decode b_Validator_countElements 201 = .ok (.iaload, 1) := by decide +kernel
theorem d_Validator_countElements_202 : decode b_Validator_countElements 202 = .ok (.iload_n 3, 1) := by decide +kernel
theorem d_Validator_countElements_203 : decode b_Validator_countElements 203 = .ok (.invokevirtual 148, 3) := by decide +kernel
theorem d_Validator_countElements_206 : decode b_Validator_countElements 206 = .ok (.ifCond .eq 7, 3) := by decide +kernel
theorem d_Validator_countElements_209 : decode b_Validator_countElements 209 = .ok (.iconst 0, 1) := by decide +kernel
theorem d_Validator_countElements_210 : decode b_Validator_countElements 210 = .ok (.goto 4, 3) := by decide +kernel
theorem d_Validator_countElements_213 : decode b_Validator_countElements 213 = .ok (.iconst 1, 1) := by decide +kernel
theorem d_Validator_countElements_214 : decode b_Validator_countElements 214 = .ok (.iadd, 1) := by decide +kernel
theorem d_Validator_countElements_215 : decode b_Validator_countElements 215 = .ok (.iastore, 1) := by decide +kernel
theorem d_Validator_countElements_216 : decode b_Validator_countElements 216 = .ok (.aload_n 0, 1) := by decide +kernel
theorem d_Validator_countElements_217 : decode b_Validator_countElements 217 = .ok (.getfield 54, 3) := by decide +kernel
theorem d_Validator_countElements_220 : decode b_Validator_countElements 220 = .ok (.iload 4, 2) := by decide +kernel
theorem d_Validator_countElements_222 : decode b_Validator_countElements 222 = .ok (.iaload, 1) := by decide +kernel
theorem d_Validator_countElements_223 : decode b_Validator_countElements 223 = .ok (.istore 4, 2) := by decide +kernel
theorem d_Validator_countElements_225 : decode b_Validator_countElements 225 = .ok (.iinc 5 1, 3) := by decide +kernel
theorem d_Validator_countElements_228 : decode b_Validator_countElements 228 = .ok (.goto (-64), 3) := by decide +kernel
theorem d_Validator_countElements_231 : decode b_Validator_countElements 231 = .ok (.iinc 1 1, 3) := by decide +kernel
theorem d_Validator_countElements_234 : decode b_Validator_countElements 234 = .ok (.goto (-232), 3) := by decide +kernel
theorem d_Validator_countElements_237 : decode b_Validator_countElements 237 = .ok (.return_, 1) := by decide +kernel
/-- Validator_countElements -/
def w_Validator_countElements (L : Nat → Nat)  (Q : IS → Prop) (σ : IS) : Prop := WL (fun (K1 : Int → IS → Prop) (s3 : Int) (σ4 : IS) => if s3 < (σ4.1 4 3) then inL L 147 s3 ∧ inL L 125 (σ4.2 147 (Int.toNat s3)) ∧ inR ((σ4.2 125 (Int.toNat (σ4.2 147 (Int.toNat s3)))) - 1) ∧ inL L 149 2 ∧ inR ((σ4.2 149 (Int.toNat 2)) + (if (if ((σ4.2 125 (Int.toNat (σ4.2 147 (Int.toNat s3)))) - 1) = s3 then (0 : Int) else (1 : Int)) = 0 then (0 : Int) else (1 : Int))) ∧ inL L 149 2 ∧ inL L 116 s3 ∧ WJ (fun (s8 : Int) (σ9 : IS) => (((if ((σ4.2 125 (Int.toNat (σ4.2 147 (Int.toNat s3)))) - 1) = s3 then (0 : Int) else (1 : Int)) = 0 → inL L 153 s3)) ∧ LETI (if (if ((σ4.2 125 (Int.toNat (σ4.2 147 (Int.toNat s3)))) - 1) = s3 then (0 : Int) else (1 : Int)) = 0 then (σ9.2 153 (Int.toNat s3)) else ((-1) : Int)) (fun t11 => WL (fun (K13 : Int × Int → IS → Prop) (s15 : Int × Int) (σ16 : IS) => if s15.2 < (σ16.1 6 2) ∧ (¬ s15.1 = (-1)) then inL L 149 6 ∧ inL L 116 s3 ∧ w_Validator_fits L s15.1 (σ16.2 116 (Int.toNat s3)) s8 (fun v18 σ17 => inR ((σ16.2 149 (Int.toNat 6)) + (if v18 = 0 then (1 : Int) else (0 : Int))) ∧ inL L 149 6 ∧ inL L 152 s15.1 ∧ inR (s15.2 + 1) ∧ K13 ((σ17.2 152 (Int.toNat s15.1)), (s15.2 + 1)) (pr σ17 149 (Int.toNat 6) ((σ16.2 149 (Int.toNat 6)) + (if v18 = 0 then (1 : Int) else (0 : Int))))) σ16 else inR (s3 + 1) ∧ K1 (s3 + 1) σ16) (t11, 0) σ9)) (fun J6 => if (σ4.2 116 (Int.toNat s3)) = 2 then inL L 117 s3 ∧ w_Validator_markMixed L (σ4.2 117 (Int.toNat s3)) (fun v57 σ56 => J6 v57 σ56) (pr σ4 149 (Int.toNat 2) ((σ4.2 149 (Int.toNat 2)) + (if (if ((σ4.2 125 (Int.toNat (σ4.2 147 (Int.toNat s3)))) - 1) = s3 then (0 : Int) else (1 : Int)) = 0 then (0 : Int) else (1 : Int)))) else inL L 116 s3 ∧ if (σ4.2 116 (Int.toNat s3)) = 3 then inL L 117 s3 ∧ w_Model_read L (σ4.2 117 (Int.toNat s3)) (fun σ43 => inL L 149 4 ∧ w_Model_isDeterministic L  (fun v46 σ45 => inR ((σ43.2 149 (Int.toNat 4)) + (if v46 = 0 then (1 : Int) else (0 : Int))) ∧ inL L 149 4 ∧ J6 (-1) (pr σ45 149 (Int.toNat 4) ((σ43.2 149 (Int.toNat 4)) + (if v46 = 0 then (1 : Int) else (0 : Int))))) σ43) (pr σ4 149 (Int.toNat 2) ((σ4.2 149 (Int.toNat 2)) + (if (if ((σ4.2 125 (Int.toNat (σ4.2 147 (Int.toNat s3)))) - 1) = s3 then (0 : Int) else (1 : Int)) = 0 then (0 : Int) else (1 : Int)))) else J6 (-1) (pr σ4 149 (Int.toNat 2) ((σ4.2 149 (Int.toNat 2)) + (if (if ((σ4.2 125 (Int.toNat (σ4.2 147 (Int.toNat s3)))) - 1) = s3 then (0 : Int) else (1 : Int)) = 0 then (0 : Int) else (1 : Int))))) else Q σ4) 0 σ
set_option maxHeartbeats 4000000 in
set_option maxRecDepth 20000 in
theorem s_Validator_countElements {L : Nat → Nat} (hL : ∀ r, L r < 2147483648) {d : Nat} (hd : 5 ≤ d)  {Q : IS → Prop} {σ : IS}  (h : w_Validator_countElements L  Q σ) : OkI BF L d 8 b_Validator_countElements 6 0 0 [] [some (.inr 8)] σ (qv Q) := by
  unfold w_Validator_countElements at h
  obtain ⟨d, rfl⟩ : ∃ e, d = e + 1 := ⟨d - 1, by omega⟩
  refine k_sb (lv' := [some (.inr 8), none, none, none, none, none]) (sb_s (sb_e (sb_e (sb_e (sb_e (sb_e sb_nil)))))) ?_
  refine k_iconst d_Validator_countElements_0 cI_0 ?_
  refine k_istore_n (lv' := [some (.inr 8), some (.inl 0), none, none, none, none]) d_Validator_countElements_1 rfl rfl ?_
  refine k_sb (lv' := [some (.inr 8), some (.inl 0), none, none, none, none]) (sb_s (sb_s (sb_s (sb_s (sb_s (sb_s sb_nil)))))) ?_
  refine k_loop (S := Int) (st := fun _ => []) (lv := fun s3 => [some (.inr 8), some (.inl s3), none, none, none, none]) (fun K1 hK2 s3 σ4 h => ?_) 0 _ h
  refine k_iload_n d_Validator_countElements_2 rfl ?_
  refine k_aload_n d_Validator_countElements_3 rfl ?_
  refine k_getR d_Validator_countElements_4 fl_8_23 ob_8 rfl ?_
  refine k_getI (x := (σ4.1 4 3)) d_Validator_countElements_7 fl_8_119 ob_4 rfl rfl ?_
  refine k_icge d_Validator_countElements_10 rfl (fun c5 => ?_) (fun c5 => ?_)
  · have h := ineg c5 h
    exact k_ret d_Validator_countElements_237 h
  · have h := ipos c5 h
    refine k_aload_n d_Validator_countElements_13 rfl ?_
    refine k_getR d_Validator_countElements_14 fl_8_23 ob_8 rfl ?_
    refine k_getR d_Validator_countElements_17 fl_8_125 ob_4 rfl ?_
    refine k_aload_n d_Validator_countElements_20 rfl ?_
    refine k_getR d_Validator_countElements_21 fl_8_23 ob_8 rfl ?_
    refine k_getR d_Validator_countElements_24 fl_8_57 ob_4 rfl ?_
    refine k_iload_n d_Validator_countElements_27 rfl ?_
    obtain ⟨p73, h⟩ := h
    refine k_ild (x := (σ4.2 147 (Int.toNat s3))) d_Validator_countElements_28 rI_147 p73 rfl ?_
    obtain ⟨p72, h⟩ := h
    refine k_ild (x := (σ4.2 125 (Int.toNat (σ4.2 147 (Int.toNat s3))))) d_Validator_countElements_29 rI_125 p72 rfl ?_
    refine k_iconst d_Validator_countElements_30 cI_1 ?_
    obtain ⟨p71, h⟩ := h
    refine k_isub d_Validator_countElements_31 p71 ?_
    refine k_iload_n d_Validator_countElements_32 rfl ?_
    have hV67 : OkI BF L (d + 1) 8 b_Validator_countElements 6 0 41 [.inl (if ((σ4.2 125 (Int.toNat (σ4.2 147 (Int.toNat s3)))) - 1) = s3 then (0 : Int) else (1 : Int))] [some (.inr 8), some (.inl s3), none, none, none, none] σ4 (qv Q) := by
      refine k_istore_n (lv' := [some (.inr 8), some (.inl s3), some (.inl (if ((σ4.2 125 (Int.toNat (σ4.2 147 (Int.toNat s3)))) - 1) = s3 then (0 : Int) else (1 : Int))), none, none, none]) d_Validator_countElements_41 rfl rfl ?_
      refine k_aload_n d_Validator_countElements_42 rfl ?_
      refine k_getR d_Validator_countElements_43 fl_8_39 ob_8 rfl ?_
      refine k_iconst d_Validator_countElements_46 cI_2 ?_
      refine k_dup2 d_Validator_countElements_47 ?_
      obtain ⟨p66, h⟩ := h
      refine k_ild (x := (σ4.2 149 (Int.toNat 2))) d_Validator_countElements_48 rI_149 p66 rfl ?_
      refine k_iload_n d_Validator_countElements_49 rfl ?_
      have hV62 : OkI BF L (d + 1) 8 b_Validator_countElements 6 0 58 [.inl (if (if ((σ4.2 125 (Int.toNat (σ4.2 147 (Int.toNat s3)))) - 1) = s3 then (0 : Int) else (1 : Int)) = 0 then (0 : Int) else (1 : Int)), .inl (σ4.2 149 (Int.toNat 2)), .inl 2, .inr 149] [some (.inr 8), some (.inl s3), some (.inl (if ((σ4.2 125 (Int.toNat (σ4.2 147 (Int.toNat s3)))) - 1) = s3 then (0 : Int) else (1 : Int))), none, none, none] σ4 (qv Q) := by
        obtain ⟨p61, h⟩ := h
        refine k_iadd d_Validator_countElements_58 p61 ?_
        obtain ⟨p60, h⟩ := h
        refine k_ist d_Validator_countElements_59 rI_149 p60 ?_
        refine k_iconst d_Validator_countElements_60 cI_m1 ?_
        refine k_istore_n (lv' := [some (.inr 8), some (.inl s3), some (.inl (if ((σ4.2 125 (Int.toNat (σ4.2 147 (Int.toNat s3)))) - 1) = s3 then (0 : Int) else (1 : Int))), some (.inl (-1)), none, none]) d_Validator_countElements_61 rfl rfl ?_
        refine k_aload_n d_Validator_countElements_62 rfl ?_
        refine k_getR d_Validator_countElements_63 fl_8_23 ob_8 rfl ?_
        refine k_getR d_Validator_countElements_66 fl_8_128 ob_4 rfl ?_
        refine k_iload_n d_Validator_countElements_69 rfl ?_
        obtain ⟨p59, h⟩ := h
        refine k_ild (x := (σ4.2 116 (Int.toNat s3))) d_Validator_countElements_70 rI_116 p59 rfl ?_
        refine k_iconst d_Validator_countElements_71 cI_2 ?_
        refine k_join (S := Int) (pc' := 145) (st' := fun s8 => []) (lv' := fun s8 => [some (.inr 8), some (.inl s3), some (.inl (if ((σ4.2 125 (Int.toNat (σ4.2 147 (Int.toNat s3)))) - 1) = s3 then (0 : Int) else (1 : Int))), some (.inl s8), none, none]) (fun s8 σ9 h => ?_) (fun J6 hJ7 h => ?_) h
        · refine k_iload_n d_Validator_countElements_145 rfl ?_
          obtain ⟨pt36, h⟩ := h
          have hV35 : OkI BF L (d + 1) 8 b_Validator_countElements 6 0 159 [.inl (if (if ((σ4.2 125 (Int.toNat (σ4.2 147 (Int.toNat s3)))) - 1) = s3 then (0 : Int) else (1 : Int)) = 0 then (σ9.2 153 (Int.toNat s3)) else ((-1) : Int))] [some (.inr 8), some (.inl s3), some (.inl (if ((σ4.2 125 (Int.toNat (σ4.2 147 (Int.toNat s3)))) - 1) = s3 then (0 : Int) else (1 : Int))), some (.inl s8), none, none] σ9 (qv Q) := by
            refine k_letI (fun t11 ht12 h => ?_) h
            refine k_istore (lv' := [some (.inr 8), some (.inl s3), some (.inl (if ((σ4.2 125 (Int.toNat (σ4.2 147 (Int.toNat s3)))) - 1) = s3 then (0 : Int) else (1 : Int))), some (.inl s8), some (.inl t11), none]) d_Validator_countElements_159 rfl rfl ?_
            refine k_iconst d_Validator_countElements_161 cI_0 ?_
            refine k_istore (lv' := [some (.inr 8), some (.inl s3), some (.inl (if ((σ4.2 125 (Int.toNat (σ4.2 147 (Int.toNat s3)))) - 1) = s3 then (0 : Int) else (1 : Int))), some (.inl s8), some (.inl t11), some (.inl 0)]) d_Validator_countElements_162 rfl rfl ?_
            refine k_sb (lv' := [some (.inr 8), some (.inl s3), none, some (.inl s8), some (.inl t11), some (.inl 0)]) (sb_s (sb_s (sb_n (sb_s (sb_s (sb_s sb_nil)))))) ?_
            refine k_loop (S := Int × Int) (st := fun _ => []) (lv := fun s15 => [some (.inr 8), some (.inl s3), none, some (.inl s8), some (.inl s15.1), some (.inl s15.2)]) (fun K13 hK14 s15 σ16 h => ?_) (t11, 0) _ h
            refine k_iload d_Validator_countElements_164 rfl ?_
            refine k_aload_n d_Validator_countElements_166 rfl ?_
            refine k_getR d_Validator_countElements_167 fl_8_31 ob_8 rfl ?_
            refine k_getI (x := (σ16.1 6 2)) d_Validator_countElements_170 fl_8_113 ob_6 rfl rfl ?_
            have hX30 : (s15.2 < (σ16.1 6 2) ∧ (¬ s15.1 = (-1))) → OkI BF L (d + 1) 8 b_Validator_countElements 6 0 182 [] [some (.inr 8), some (.inl s3), none, some (.inl s8), some (.inl s15.1), some (.inl s15.2)] σ16 (qv Q) := fun e32 => by
              have h := ipos e32 h
              refine k_aload_n d_Validator_countElements_182 rfl ?_
              refine k_getR d_Validator_countElements_183 fl_8_39 ob_8 rfl ?_
              refine k_bipush d_Validator_countElements_186 cB_6 ?_
              refine k_dup2 d_Validator_countElements_188 ?_
              obtain ⟨p28, h⟩ := h
              refine k_ild (x := (σ16.2 149 (Int.toNat 6))) d_Validator_countElements_189 rI_149 p28 rfl ?_
              refine k_aload_n d_Validator_countElements_190 rfl ?_
              refine k_iload d_Validator_countElements_191 rfl ?_
              refine k_aload_n d_Validator_countElements_193 rfl ?_
              refine k_getR d_Validator_countElements_194 fl_8_23 ob_8 rfl ?_
              refine k_getR d_Validator_countElements_197 fl_8_128 ob_4 rfl ?_
              refine k_iload_n d_Validator_countElements_200 rfl ?_
              obtain ⟨p27, h⟩ := h
              refine k_ild (x := (σ16.2 116 (Int.toNat s3))) d_Validator_countElements_201 rI_116 p27 rfl ?_
              refine k_iload_n d_Validator_countElements_202 rfl ?_
              refine k_cvi [.inl s15.1, .inl (σ16.2 116 (Int.toNat s3)), .inl s8] d_Validator_countElements_203 ml_8_148 rfl rfl ob_8 rfl (s_Validator_fits hL (by omega)  h) (fun v18 σ17 h => ?_)
              have hV23 : OkI BF L (d + 1) 8 b_Validator_countElements 6 0 214 [.inl (if v18 = 0 then (1 : Int) else (0 : Int)), .inl (σ16.2 149 (Int.toNat 6)), .inl 6, .inr 149] [some (.inr 8), some (.inl s3), none, some (.inl s8), some (.inl s15.1), some (.inl s15.2)] σ17 (qv Q) := by
                obtain ⟨p22, h⟩ := h
                refine k_iadd d_Validator_countElements_214 p22 ?_
                obtain ⟨p21, h⟩ := h
                refine k_ist d_Validator_countElements_215 rI_149 p21 ?_
                refine k_aload_n d_Validator_countElements_216 rfl ?_
                refine k_getR d_Validator_countElements_217 fl_8_54 ob_8 rfl ?_
                refine k_iload d_Validator_countElements_220 rfl ?_
                obtain ⟨p20, h⟩ := h
                refine k_ild (x := (σ17.2 152 (Int.toNat s15.1))) d_Validator_countElements_222 rI_152 p20 rfl ?_
                refine k_istore (lv' := [some (.inr 8), some (.inl s3), none, some (.inl s8), some (.inl (σ17.2 152 (Int.toNat s15.1))), some (.inl s15.2)]) d_Validator_countElements_223 rfl rfl ?_
                obtain ⟨p19, h⟩ := h
                refine k_iinc (lv' := [some (.inr 8), some (.inl s3), none, some (.inl s8), some (.inl (σ17.2 152 (Int.toNat s15.1))), some (.inl (s15.2 + 1))]) d_Validator_countElements_225 cI_1 rfl rfl p19 rfl ?_
                refine k_goto d_Validator_countElements_228 rfl ?_
                exact k_sb (sb_s (sb_s (sb_s (sb_s (sb_s (sb_s sb_nil)))))) (hK14 ((σ17.2 152 (Int.toNat s15.1)), (s15.2 + 1)) _ h)
              refine k_ifeq d_Validator_countElements_206 rfl (fun c24 => ?_) (fun c24 => ?_)
              · have hV25 := k_eqI (if_pos c24) hV23
                refine k_iconst d_Validator_countElements_213 cI_1 ?_
                exact hV25
              · have hV26 := k_eqI (if_neg c24) hV23
                refine k_iconst d_Validator_countElements_209 cI_0 ?_
                refine k_goto d_Validator_countElements_210 rfl ?_
                exact hV26
            have hY31 : ¬ (s15.2 < (σ16.1 6 2) ∧ (¬ s15.1 = (-1))) → OkI BF L (d + 1) 8 b_Validator_countElements 6 0 231 [] [some (.inr 8), some (.inl s3), none, some (.inl s8), some (.inl s15.1), some (.inl s15.2)] σ16 (qv Q) := fun e32 => by
              have h := ineg e32 h
              obtain ⟨p29, h⟩ := h
              refine k_iinc (lv' := [some (.inr 8), some (.inl (s3 + 1)), none, some (.inl s8), some (.inl s15.1), some (.inl s15.2)]) d_Validator_countElements_231 cI_1 rfl rfl p29 rfl ?_
              refine k_goto d_Validator_countElements_234 rfl ?_
              exact k_sb (sb_s (sb_s (sb_s (sb_n (sb_n (sb_n sb_nil)))))) (hK2 (s3 + 1) _ h)
            refine k_icge d_Validator_countElements_173 rfl (fun c33 => ?_) (fun c33 => ?_)
            · exact hY31 (fun z => c33 z.1)
            · refine k_iload d_Validator_countElements_176 rfl ?_
              refine k_iconst d_Validator_countElements_178 cI_m1 ?_
              refine k_iceq d_Validator_countElements_179 rfl (fun c34 => ?_) (fun c34 => ?_)
              · exact hY31 (fun z => (fun z => z c34) z.2)
              · exact hX30 (⟨c33, c34⟩)
          have pa37 := pt36
          refine k_ifeq d_Validator_countElements_146 rfl (fun c38 => ?_) (fun c38 => ?_)
          · have pa37 := pa37 c38
            have hV39 := k_eqI (if_pos c38) hV35
            have p10 := pa37
            refine k_aload_n d_Validator_countElements_153 rfl ?_
            refine k_getR d_Validator_countElements_154 fl_8_62 ob_8 rfl ?_
            refine k_iload_n d_Validator_countElements_157 rfl ?_
            refine k_ild (x := (σ9.2 153 (Int.toNat s3))) d_Validator_countElements_158 rI_153 p10 rfl ?_
            exact hV39
          · have hV40 := k_eqI (if_neg c38) hV35
            refine k_iconst d_Validator_countElements_149 cI_m1 ?_
            refine k_goto d_Validator_countElements_150 rfl ?_
            exact hV40
        · refine k_icne d_Validator_countElements_72 rfl (fun c41 => ?_) (fun c41 => ?_)
          · have h := ineg c41 h
            refine k_aload_n d_Validator_countElements_92 rfl ?_
            refine k_getR d_Validator_countElements_93 fl_8_23 ob_8 rfl ?_
            refine k_getR d_Validator_countElements_96 fl_8_128 ob_4 rfl ?_
            refine k_iload_n d_Validator_countElements_99 rfl ?_
            obtain ⟨p55, h⟩ := h
            refine k_ild (x := (σ4.2 116 (Int.toNat s3))) d_Validator_countElements_100 rI_116 p55 rfl ?_
            refine k_iconst d_Validator_countElements_101 cI_3 ?_
            refine k_icne d_Validator_countElements_102 rfl (fun c42 => ?_) (fun c42 => ?_)
            · have h := ineg c42 h
              exact k_sb (sb_s (sb_s (sb_s (sb_s (sb_s (sb_s sb_nil)))))) (hJ7 (-1) _ h)
            · have h := ipos c42 h
              refine k_aload_n d_Validator_countElements_105 rfl ?_
              refine k_getR d_Validator_countElements_106 fl_8_35 ob_8 rfl ?_
              refine k_aload_n d_Validator_countElements_109 rfl ?_
              refine k_getR d_Validator_countElements_110 fl_8_23 ob_8 rfl ?_
              refine k_getR d_Validator_countElements_113 fl_8_131 ob_4 rfl ?_
              refine k_iload_n d_Validator_countElements_116 rfl ?_
              obtain ⟨p54, h⟩ := h
              refine k_ild (x := (σ4.2 117 (Int.toNat s3))) d_Validator_countElements_117 rI_117 p54 rfl ?_
              refine k_cvv [.inl (σ4.2 117 (Int.toNat s3))] d_Validator_countElements_118 ml_8_138 rfl rfl ob_9 rfl (s_Model_read hL (by omega)  h) (fun σ43 h => ?_)
              refine k_aload_n d_Validator_countElements_121 rfl ?_
              refine k_getR d_Validator_countElements_122 fl_8_39 ob_8 rfl ?_
              refine k_iconst d_Validator_countElements_125 cI_4 ?_
              refine k_dup2 d_Validator_countElements_126 ?_
              obtain ⟨p53, h⟩ := h
              refine k_ild (x := (σ43.2 149 (Int.toNat 4))) d_Validator_countElements_127 rI_149 p53 rfl ?_
              refine k_aload_n d_Validator_countElements_128 rfl ?_
              refine k_getR d_Validator_countElements_129 fl_8_35 ob_8 rfl ?_
              refine k_cvi [] d_Validator_countElements_132 ml_8_144 rfl rfl ob_9 rfl (s_Model_isDeterministic hL (by omega)  h) (fun v46 σ45 h => ?_)
              have hV49 : OkI BF L (d + 1) 8 b_Validator_countElements 6 0 143 [.inl (if v46 = 0 then (1 : Int) else (0 : Int)), .inl (σ43.2 149 (Int.toNat 4)), .inl 4, .inr 149] [some (.inr 8), some (.inl s3), some (.inl (if ((σ4.2 125 (Int.toNat (σ4.2 147 (Int.toNat s3)))) - 1) = s3 then (0 : Int) else (1 : Int))), some (.inl (-1)), none, none] σ45 (qv Q) := by
                obtain ⟨p48, h⟩ := h
                refine k_iadd d_Validator_countElements_143 p48 ?_
                obtain ⟨p47, h⟩ := h
                refine k_ist d_Validator_countElements_144 rI_149 p47 ?_
                exact k_sb (sb_s (sb_s (sb_s (sb_s (sb_s (sb_s sb_nil)))))) (hJ7 (-1) _ h)
              refine k_ifeq d_Validator_countElements_135 rfl (fun c50 => ?_) (fun c50 => ?_)
              · have hV51 := k_eqI (if_pos c50) hV49
                refine k_iconst d_Validator_countElements_142 cI_1 ?_
                exact hV51
              · have hV52 := k_eqI (if_neg c50) hV49
                refine k_iconst d_Validator_countElements_138 cI_0 ?_
                refine k_goto d_Validator_countElements_139 rfl ?_
                exact hV52
          · have h := ipos c41 h
            refine k_aload_n d_Validator_countElements_75 rfl ?_
            refine k_aload_n d_Validator_countElements_76 rfl ?_
            refine k_getR d_Validator_countElements_77 fl_8_23 ob_8 rfl ?_
            refine k_getR d_Validator_countElements_80 fl_8_131 ob_4 rfl ?_
            refine k_iload_n d_Validator_countElements_83 rfl ?_
            obtain ⟨p58, h⟩ := h
            refine k_ild (x := (σ4.2 117 (Int.toNat s3))) d_Validator_countElements_84 rI_117 p58 rfl ?_
            refine k_cvi [.inl (σ4.2 117 (Int.toNat s3))] d_Validator_countElements_85 ml_8_134 rfl rfl ob_8 rfl (s_Validator_markMixed hL (by omega)  h) (fun v57 σ56 h => ?_)
            refine k_istore_n (lv' := [some (.inr 8), some (.inl s3), some (.inl (if ((σ4.2 125 (Int.toNat (σ4.2 147 (Int.toNat s3)))) - 1) = s3 then (0 : Int) else (1 : Int))), some (.inl v57), none, none]) d_Validator_countElements_88 rfl rfl ?_
            refine k_goto d_Validator_countElements_89 rfl ?_
            exact k_sb (sb_s (sb_s (sb_s (sb_s (sb_s (sb_s sb_nil)))))) (hJ7 v57 _ h)
      refine k_ifeq d_Validator_countElements_50 rfl (fun c63 => ?_) (fun c63 => ?_)
      · have hV64 := k_eqI (if_pos c63) hV62
        refine k_iconst d_Validator_countElements_57 cI_0 ?_
        exact hV64
      · have hV65 := k_eqI (if_neg c63) hV62
        refine k_iconst d_Validator_countElements_53 cI_1 ?_
        refine k_goto d_Validator_countElements_54 rfl ?_
        exact hV65
    refine k_iceq d_Validator_countElements_33 rfl (fun c68 => ?_) (fun c68 => ?_)
    · have hV69 := k_eqI (if_pos c68) hV67
      refine k_iconst d_Validator_countElements_40 cI_0 ?_
      exact hV69
    · have hV70 := k_eqI (if_neg c68) hV67
      refine k_iconst d_Validator_countElements_36 cI_1 ?_
      refine k_goto d_Validator_countElements_37 rfl ?_
      exact hV70
theorem d_Validator_isMadeOf_0 : decode b_Validator_isMadeOf 0 = .ok (.aload_n 0, 1) := by decide +kernel
theorem d_Validator_isMadeOf_1 : decode b_Validator_isMadeOf 1 = .ok (.getfield 9, 3) := by decide +kernel
theorem d_Validator_isMadeOf_4 : decode b_Validator_isMadeOf 4 = .ok (.getfield 256, 3) := by decide +kernel
theorem d_Validator_isMadeOf_7 : decode b_Validator_isMadeOf 7 = .ok (.iload_n 1, 1) := by decide +kernel
theorem d_Validator_isMadeOf_8 : decode b_Validator_isMadeOf 8 = .ok (.iaload, 1) := by decide +kernel
theorem d_Validator_isMadeOf_9 : decode b_Validator_isMadeOf 9 = .ok (.istore 4, 2) := by decide +kernel
theorem d_Validator_isMadeOf_11 : decode b_Validator_isMadeOf 11 = .ok (.iconst 1, 1) := by decide +kernel
theorem d_Validator_isMadeOf_12 : decode b_Validator_isMadeOf 12 = .ok (.istore 5, 2) := by decide +kernel
theorem d_Validator_isMadeOf_14 : decode b_Validator_isMadeOf 14 = .ok (.iconst 0, 1) := by decide +kernel
theorem d_Validator_isMadeOf_15 : decode b_Validator_isMadeOf 15 = .ok (.istore 6, 2) := by decide +kernel
theorem d_Validator_isMadeOf_17 : decode b_Validator_isMadeOf 17 = .ok (.iload 6, 2) := by decide +kernel
theorem d_Validator_isMadeOf_19 : decode b_Validator_isMadeOf 19 = .ok (.iload 4, 2) := by decide +kernel
theorem d_Validator_isMadeOf_21 : decode b_Validator_isMadeOf 21 = .ok (.if_icmp .ge 73, 3) := by decide +kernel
theorem d_Validator_isMadeOf_24 : decode b_Validator_isMadeOf 24 = .ok (.aload_n 0, 1) := by decide +kernel
theorem d_Validator_isMadeOf_25 : decode b_Validator_isMadeOf 25 = .ok (.getfield 9, 3) := by decide +kernel
theorem d_Validator_isMadeOf_28 : decode b_Validator_isMadeOf 28 = .ok (.iload_n 1, 1) := by decide +kernel
theorem d_Validator_isMadeOf_29 : decode b_Validator_isMadeOf 29 = .ok (.iload 6, 2) := by decide +kernel
theorem d_Validator_isMadeOf_31 : decode b_Validator_isMadeOf 31 = .ok (.invokevirtual 259, 3) := by decide +kernel
theorem d_Validator_isMadeOf_34 : decode b_Validator_isMadeOf 34 = .ok (.istore 7, 2) := by decide +kernel
theorem d_Validator_isMadeOf_36 : decode b_Validator_isMadeOf 36 = .ok (.iload 7, 2) := by decide +kernel
theorem d_Validator_isMadeOf_38 : decode b_Validator_isMadeOf 38 = .ok (.bipush 32, 2) := by decide +kernel
theorem d_Validator_isMadeOf_40 : decode b_Validator_isMadeOf 40 = .ok (.if_icmp .ne 18, 3) := by decide +kernel
theorem d_Validator_isMadeOf_43 : decode b_Validator_isMadeOf 43 = .ok (.iload_n 3, 1) := by decide +kernel
theorem d_Validator_isMadeOf_44 : decode b_Validator_isMadeOf 44 = .ok (.ifCond .eq 14, 3) := by decide +kernel
theorem d_Validator_isMadeOf_47 : decode b_Validator_isMadeOf 47 = .ok (.iload 5, 2) := by decide +kernel
theorem d_Validator_isMadeOf_49 : decode b_Validator_isMadeOf 49 = .ok (.ifCond .ne 9, 3) := by decide +kernel
theorem d_Validator_isMadeOf_52 : decode b_Validator_isMadeOf 52 = .ok (.iconst 1, 1) := by decide +kernel
theorem d_Validator_isMadeOf_53 : decode b_Validator_isMadeOf 53 = .ok (.istore 5, 2) := by decide +kernel
theorem d_Validator_isMadeOf_55 : decode b_Validator_isMadeOf 55 = .ok (.goto 33, 3) := by decide +kernel
theorem d_Validator_isMadeOf_58 : decode b_Validator_isMadeOf 58 = .ok (.iload 7, 2) := by decide +kernel
theorem d_Validator_isMadeOf_60 : decode b_Validator_isMadeOf 60 = .ok (.invokestatic 262, 3) := by decide +kernel
theorem d_Validator_isMadeOf_63 : decode b_Validator_isMadeOf 63 = .ok (.ifCond .eq 20, 3) := by decide +kernel
theorem d_Validator_isMadeOf_66 : decode b_Validator_isMadeOf 66 = .ok (.iload 5, 2) := by decide +kernel
theorem d_Validator_isMadeOf_68 : decode b_Validator_isMadeOf 68 = .ok (.ifCond .eq 17, 3) := by decide +kernel
theorem d_Validator_isMadeOf_71 : decode b_Validator_isMadeOf 71 = .ok (.iload_n 2, 1) := by decide +kernel
theorem d_Validator_isMadeOf_72 : decode b_Validator_isMadeOf 72 = .ok (.ifCond .eq 13, 3) := by decide +kernel
theorem d_Validator_isMadeOf_75 : decode b_Validator_isMadeOf 75 = .ok (.iload 7, 2) := by decide +kernel
theorem d_Validator_isMadeOf_77 : decode b_Validator_isMadeOf 77 = .ok (.invokestatic 265, 3) := by decide +kernel
theorem d_Validator_isMadeOf_80 : decode b_Validator_isMadeOf 80 = .ok (.ifCond .eq 5, 3) := by decide +kernel
theorem d_Validator_isMadeOf_83 : decode b_Validator_isMadeOf 83 = .ok (.iconst 0, 1) := by decide +kernel
theorem d_Validator_isMadeOf_84 : decode b_Validator_isMadeOf 84 = .ok (.ireturn, 1) := by decide +kernel
theorem d_Validator_isMadeOf_85 : decode b_Validator_isMadeOf 85 = .ok (.iconst 0, 1) := by decide +kernel
theorem d_Validator_isMadeOf_86 : decode b_Validator_isMadeOf 86 = .ok (.istore 5, 2) := by decide +kernel
theorem d_Validator_isMadeOf_88 : decode b_Validator_isMadeOf 88 = .ok (.iinc 6 1, 3) := by decide +kernel
theorem d_Validator_isMadeOf_91 : decode b_Validator_isMadeOf 91 = .ok (.goto (-74), 3) := by decide +kernel
theorem d_Validator_isMadeOf_94 : decode b_Validator_isMadeOf 94 = .ok (.iload 5, 2) := by decide +kernel
theorem d_Validator_isMadeOf_96 : decode b_Validator_isMadeOf 96 = .ok (.ifCond .ne 7, 3) := by decide +kernel
theorem d_Validator_isMadeOf_99 : decode b_Validator_isMadeOf 99 = .ok (.iconst 1, 1) := by decide +kernel
theorem d_Validator_isMadeOf_100 : decode b_Validator_isMadeOf 100 = .ok (.goto 4, 3) := by decide +kernel
theorem d_Validator_isMadeOf_103 : decode b_Validator_isMadeOf 103 = .ok (.iconst 0, 1) := by decide +kernel
theorem d_Validator_isMadeOf_104 : decode b_Validator_isMadeOf 104 = .ok (.ireturn, 1) := by decide +kernel
/-- Validator_isMadeOf -/
def w_Validator_isMadeOf (L : Nat → Nat) (a1 : Int) (a2 : Int) (a3 : Int) (Q : Int → IS → Prop) (σ : IS) : Prop := inL L 103 a1 ∧ WL (fun (K1 : Int × Int → IS → Prop) (s3 : Int × Int) (σ4 : IS) => if s3.2 < (σ.2 103 (Int.toNat a1)) then w_Store_letter L a1 s3.2 (fun v11 σ10 => WJ (fun (s14 : Int) (σ15 : IS) => inR (s3.2 + 1) ∧ K1 (s14, (s3.2 + 1)) σ15) (fun J12 => if v11 = 32 ∧ (¬ a3 = 0 ∧ (s3.1 = 0)) then J12 1 σ10 else w_Reader_isNameCharacter L v11 (fun v18 σ17 => WJ (fun (s21 : Unit) (σ22 : IS) => Q 0 σ22) (fun J19 => if v18 = 0 then J19 () σ17 else WJ (fun (s26 : Unit) (σ27 : IS) => J12 0 σ27) (fun J24 => if ¬ s3.1 = 0 ∧ (¬ a2 = 0) then w_Reader_isNoStart L v11 (fun v29 σ28 => if v29 = 0 then J24 () σ28 else J19 () σ28) σ17 else J24 () σ17))) σ10)) σ4 else Q (if s3.1 = 0 then (1 : Int) else (0 : Int)) σ4) (1, 0) σ
set_option maxHeartbeats 4000000 in
set_option maxRecDepth 20000 in
theorem s_Validator_isMadeOf {L : Nat → Nat} (hL : ∀ r, L r < 2147483648) {d : Nat} (hd : 1 ≤ d) {a1 : Int} {a2 : Int} {a3 : Int} {Q : Int → IS → Prop} {σ : IS}  (h : w_Validator_isMadeOf L a1 a2 a3 Q σ) : OkI BF L d 8 b_Validator_isMadeOf 8 2 0 [] [some (.inr 8), some (.inl a1), some (.inl a2), some (.inl a3)] σ (qi Q) := by
  unfold w_Validator_isMadeOf at h
  obtain ⟨d, rfl⟩ : ∃ e, d = e + 1 := ⟨d - 1, by omega⟩
  refine k_sb (lv' := [some (.inr 8), some (.inl a1), some (.inl a2), some (.inl a3), none, none, none, none]) (sb_s (sb_s (sb_s (sb_s (sb_e (sb_e (sb_e (sb_e sb_nil)))))))) ?_
  refine k_aload_n d_Validator_isMadeOf_0 rfl ?_
  refine k_getR d_Validator_isMadeOf_1 fl_8_9 ob_8 rfl ?_
  refine k_getR d_Validator_isMadeOf_4 fl_8_256 ob_1 rfl ?_
  refine k_iload_n d_Validator_isMadeOf_7 rfl ?_
  obtain ⟨p42, h⟩ := h
  refine k_ild (x := (σ.2 103 (Int.toNat a1))) d_Validator_isMadeOf_8 rI_103 p42 rfl ?_
  refine k_istore (lv' := [some (.inr 8), some (.inl a1), some (.inl a2), some (.inl a3), some (.inl (σ.2 103 (Int.toNat a1))), none, none, none]) d_Validator_isMadeOf_9 rfl rfl ?_
  refine k_iconst d_Validator_isMadeOf_11 cI_1 ?_
  refine k_istore (lv' := [some (.inr 8), some (.inl a1), some (.inl a2), some (.inl a3), some (.inl (σ.2 103 (Int.toNat a1))), some (.inl 1), none, none]) d_Validator_isMadeOf_12 rfl rfl ?_
  refine k_iconst d_Validator_isMadeOf_14 cI_0 ?_
  refine k_istore (lv' := [some (.inr 8), some (.inl a1), some (.inl a2), some (.inl a3), some (.inl (σ.2 103 (Int.toNat a1))), some (.inl 1), some (.inl 0), none]) d_Validator_isMadeOf_15 rfl rfl ?_
  refine k_sb (lv' := [some (.inr 8), some (.inl a1), some (.inl a2), some (.inl a3), some (.inl (σ.2 103 (Int.toNat a1))), some (.inl 1), some (.inl 0), none]) (sb_s (sb_s (sb_s (sb_s (sb_s (sb_s (sb_s (sb_s sb_nil)))))))) ?_
  refine k_loop (S := Int × Int) (st := fun _ => []) (lv := fun s3 => [some (.inr 8), some (.inl a1), some (.inl a2), some (.inl a3), some (.inl (σ.2 103 (Int.toNat a1))), some (.inl s3.1), some (.inl s3.2), none]) (fun K1 hK2 s3 σ4 h => ?_) (1, 0) _ h
  refine k_iload d_Validator_isMadeOf_17 rfl ?_
  refine k_iload d_Validator_isMadeOf_19 rfl ?_
  refine k_icge d_Validator_isMadeOf_21 rfl (fun c5 => ?_) (fun c5 => ?_)
  · have h := ineg c5 h
    refine k_iload d_Validator_isMadeOf_94 rfl ?_
    have hV6 : OkI BF L (d + 1) 8 b_Validator_isMadeOf 8 2 104 [.inl (if s3.1 = 0 then (1 : Int) else (0 : Int))] [some (.inr 8), some (.inl a1), some (.inl a2), some (.inl a3), some (.inl (σ.2 103 (Int.toNat a1))), some (.inl s3.1), some (.inl s3.2), none] σ4 (qi Q) := by
      exact k_iret d_Validator_isMadeOf_104 (Or.inr ⟨rfl, it01 (Or.inr rfl) (Or.inl rfl)⟩) h
    refine k_ifne d_Validator_isMadeOf_96 rfl (fun c7 => ?_) (fun c7 => ?_)
    · have hV9 := k_eqI (if_neg c7) hV6
      refine k_iconst d_Validator_isMadeOf_103 cI_0 ?_
      exact hV9
    · have hV8 := k_eqI (if_pos c7) hV6
      refine k_iconst d_Validator_isMadeOf_99 cI_1 ?_
      refine k_goto d_Validator_isMadeOf_100 rfl ?_
      exact hV8
  · have h := ipos c5 h
    refine k_aload_n d_Validator_isMadeOf_24 rfl ?_
    refine k_getR d_Validator_isMadeOf_25 fl_8_9 ob_8 rfl ?_
    refine k_iload_n d_Validator_isMadeOf_28 rfl ?_
    refine k_iload d_Validator_isMadeOf_29 rfl ?_
    refine k_cvi [.inl a1, .inl s3.2] d_Validator_isMadeOf_31 ml_8_259 rfl rfl ob_1 rfl (s_Store_letter hL (by omega)  h) (fun v11 σ10 h => ?_)
    refine k_istore (lv' := [some (.inr 8), some (.inl a1), some (.inl a2), some (.inl a3), some (.inl (σ.2 103 (Int.toNat a1))), some (.inl s3.1), some (.inl s3.2), some (.inl v11)]) d_Validator_isMadeOf_34 rfl rfl ?_
    refine k_iload d_Validator_isMadeOf_36 rfl ?_
    refine k_bipush d_Validator_isMadeOf_38 cB_32 ?_
    refine k_join (S := Int) (pc' := 88) (st' := fun s14 => []) (lv' := fun s14 => [some (.inr 8), some (.inl a1), some (.inl a2), some (.inl a3), some (.inl (σ.2 103 (Int.toNat a1))), some (.inl s14), some (.inl s3.2), none]) (fun s14 σ15 h => ?_) (fun J12 hJ13 h => ?_) h
    · obtain ⟨p16, h⟩ := h
      refine k_iinc (lv' := [some (.inr 8), some (.inl a1), some (.inl a2), some (.inl a3), some (.inl (σ.2 103 (Int.toNat a1))), some (.inl s14), some (.inl (s3.2 + 1)), none]) d_Validator_isMadeOf_88 cI_1 rfl rfl p16 rfl ?_
      refine k_goto d_Validator_isMadeOf_91 rfl ?_
      exact k_sb (sb_s (sb_s (sb_s (sb_s (sb_s (sb_s (sb_s (sb_s sb_nil)))))))) (hK2 (s14, (s3.2 + 1)) _ h)
    · have hX36 : (v11 = 32 ∧ (¬ a3 = 0 ∧ (s3.1 = 0))) → OkI BF L (d + 1) 8 b_Validator_isMadeOf 8 2 52 [] [some (.inr 8), some (.inl a1), some (.inl a2), some (.inl a3), some (.inl (σ.2 103 (Int.toNat a1))), some (.inl s3.1), some (.inl s3.2), some (.inl v11)] σ10 (qi Q) := fun e38 => by
        have h := ipos e38 h
        refine k_iconst d_Validator_isMadeOf_52 cI_1 ?_
        refine k_istore (lv' := [some (.inr 8), some (.inl a1), some (.inl a2), some (.inl a3), some (.inl (σ.2 103 (Int.toNat a1))), some (.inl 1), some (.inl s3.2), some (.inl v11)]) d_Validator_isMadeOf_53 rfl rfl ?_
        refine k_goto d_Validator_isMadeOf_55 rfl ?_
        exact k_sb (sb_s (sb_s (sb_s (sb_s (sb_s (sb_s (sb_s (sb_n sb_nil)))))))) (hJ13 1 _ h)
      have hY37 : ¬ (v11 = 32 ∧ (¬ a3 = 0 ∧ (s3.1 = 0))) → OkI BF L (d + 1) 8 b_Validator_isMadeOf 8 2 58 [] [some (.inr 8), some (.inl a1), some (.inl a2), some (.inl a3), some (.inl (σ.2 103 (Int.toNat a1))), some (.inl s3.1), some (.inl s3.2), some (.inl v11)] σ10 (qi Q) := fun e38 => by
        have h := ineg e38 h
        refine k_iload d_Validator_isMadeOf_58 rfl ?_
        refine k_csi [.inl v11] d_Validator_isMadeOf_60 ml_8_262 (Or.inl rfl) rfl rfl rfl (s_Reader_isNameCharacter hL (by omega)  h) (fun v18 σ17 h => ?_)
        refine k_join (S := Unit) (pc' := 83) (st' := fun s21 => []) (lv' := fun s21 => [none, none, none, none, none, none, none, none]) (fun s21 σ22 h => ?_) (fun J19 hJ20 h => ?_) h
        · refine k_iconst d_Validator_isMadeOf_83 cI_0 ?_
          exact k_iret d_Validator_isMadeOf_84 (Or.inr ⟨rfl, Or.inl rfl⟩) h
        · refine k_ifeq d_Validator_isMadeOf_63 rfl (fun c23 => ?_) (fun c23 => ?_)
          · have h := ipos c23 h
            exact k_sb (sb_n (sb_n (sb_n (sb_n (sb_n (sb_n (sb_n (sb_n sb_nil)))))))) (hJ20 () _ h)
          · have h := ineg c23 h
            refine k_iload d_Validator_isMadeOf_66 rfl ?_
            refine k_join (S := Unit) (pc' := 85) (st' := fun s26 => []) (lv' := fun s26 => [some (.inr 8), some (.inl a1), some (.inl a2), some (.inl a3), some (.inl (σ.2 103 (Int.toNat a1))), none, some (.inl s3.2), none]) (fun s26 σ27 h => ?_) (fun J24 hJ25 h => ?_) h
            · refine k_iconst d_Validator_isMadeOf_85 cI_0 ?_
              refine k_istore (lv' := [some (.inr 8), some (.inl a1), some (.inl a2), some (.inl a3), some (.inl (σ.2 103 (Int.toNat a1))), some (.inl 0), some (.inl s3.2), none]) d_Validator_isMadeOf_86 rfl rfl ?_
              exact k_sb (sb_s (sb_s (sb_s (sb_s (sb_s (sb_s (sb_s (sb_s sb_nil)))))))) (hJ13 0 _ h)
            · have hX31 : (¬ s3.1 = 0 ∧ (¬ a2 = 0)) → OkI BF L (d + 1) 8 b_Validator_isMadeOf 8 2 75 [] [some (.inr 8), some (.inl a1), some (.inl a2), some (.inl a3), some (.inl (σ.2 103 (Int.toNat a1))), some (.inl s3.1), some (.inl s3.2), some (.inl v11)] σ17 (qi Q) := fun e33 => by
                have h := ipos e33 h
                refine k_iload d_Validator_isMadeOf_75 rfl ?_
                refine k_csi [.inl v11] d_Validator_isMadeOf_77 ml_8_265 (Or.inl rfl) rfl rfl rfl (s_Reader_isNoStart hL (by omega)  h) (fun v29 σ28 h => ?_)
                refine k_ifeq d_Validator_isMadeOf_80 rfl (fun c30 => ?_) (fun c30 => ?_)
                · have h := ipos c30 h
                  exact k_sb (sb_s (sb_s (sb_s (sb_s (sb_s (sb_n (sb_s (sb_n sb_nil)))))))) (hJ25 () _ h)
                · have h := ineg c30 h
                  exact k_sb (sb_n (sb_n (sb_n (sb_n (sb_n (sb_n (sb_n (sb_n sb_nil)))))))) (hJ20 () _ h)
              have hY32 : ¬ (¬ s3.1 = 0 ∧ (¬ a2 = 0)) → OkI BF L (d + 1) 8 b_Validator_isMadeOf 8 2 85 [] [some (.inr 8), some (.inl a1), some (.inl a2), some (.inl a3), some (.inl (σ.2 103 (Int.toNat a1))), some (.inl s3.1), some (.inl s3.2), some (.inl v11)] σ17 (qi Q) := fun e33 => by
                have h := ineg e33 h
                exact k_sb (sb_s (sb_s (sb_s (sb_s (sb_s (sb_n (sb_s (sb_n sb_nil)))))))) (hJ25 () _ h)
              refine k_ifeq d_Validator_isMadeOf_68 rfl (fun c34 => ?_) (fun c34 => ?_)
              · exact hY32 (fun z => z.1 c34)
              · refine k_iload_n d_Validator_isMadeOf_71 rfl ?_
                refine k_ifeq d_Validator_isMadeOf_72 rfl (fun c35 => ?_) (fun c35 => ?_)
                · exact hY32 (fun z => (fun z => z c35) z.2)
                · exact hX31 (⟨c34, c35⟩)
      refine k_icne d_Validator_isMadeOf_40 rfl (fun c39 => ?_) (fun c39 => ?_)
      · exact hY37 (fun z => c39 z.1)
      · refine k_iload_n d_Validator_isMadeOf_43 rfl ?_
        refine k_ifeq d_Validator_isMadeOf_44 rfl (fun c40 => ?_) (fun c40 => ?_)
        · exact hY37 (fun z => (fun z => z.1 c40) z.2)
        · refine k_iload d_Validator_isMadeOf_47 rfl ?_
          refine k_ifne d_Validator_isMadeOf_49 rfl (fun c41 => ?_) (fun c41 => ?_)
          · exact hY37 (fun z => (fun z => (c41) z.2) z.2)
          · exact hX36 (⟨c39, ⟨c40, c41⟩⟩)
theorem d_Validator_isListed_0 : decode b_Validator_isListed 0 = .ok (.aload_n 0, 1) := by decide +kernel
theorem d_Validator_isListed_1 : decode b_Validator_isListed 1 = .ok (.getfield 23, 3) := by decide +kernel
theorem d_Validator_isListed_4 : decode b_Validator_isListed 4 = .ok (.getfield 247, 3) := by decide +kernel
theorem d_Validator_isListed_7 : decode b_Validator_isListed 7 = .ok (.iload_n 2, 1) := by decide +kernel
theorem d_Validator_isListed_8 : decode b_Validator_isListed 8 = .ok (.iaload, 1) := by decide +kernel
theorem d_Validator_isListed_9 : decode b_Validator_isListed 9 = .ok (.istore_n 3, 1) := by decide +kernel
theorem d_Validator_isListed_10 : decode b_Validator_isListed 10 = .ok (.iload_n 3, 1) := by decide +kernel
theorem d_Validator_isListed_11 : decode b_Validator_isListed 11 = .ok (.istore 4, 2) := by decide +kernel
theorem d_Validator_isListed_13 : decode b_Validator_isListed 13 = .ok (.iload 4, 2) := by decide +kernel
theorem d_Validator_isListed_15 : decode b_Validator_isListed 15 = .ok (.iload_n 3, 1) := by decide +kernel
theorem d_Validator_isListed_16 : decode b_Validator_isListed 16 = .ok (.aload_n 0, 1) := by decide +kernel
theorem d_Validator_isListed_17 : decode b_Validator_isListed 17 = .ok (.getfield 23, 3) := by decide +kernel
theorem d_Validator_isListed_20 : decode b_Validator_isListed 20 = .ok (.getfield 250, 3) := by decide +kernel
theorem d_Validator_isListed_23 : decode b_Validator_isListed 23 = .ok (.iload_n 2, 1) := by decide +kernel
theorem d_Validator_isListed_24 : decode b_Validator_isListed 24 = .ok (.iaload, 1) := by decide +kernel
theorem d_Validator_isListed_25 : decode b_Validator_isListed 25 = .ok (.iadd, 1) := by decide +kernel
theorem d_Validator_isListed_26 : decode b_Validator_isListed 26 = .ok (.if_icmp .ge 25, 3) := by decide +kernel
theorem d_Validator_isListed_29 : decode b_Validator_isListed 29 = .ok (.aload_n 0, 1) := by decide +kernel
theorem d_Validator_isListed_30 : decode b_Validator_isListed 30 = .ok (.getfield 23, 3) := by decide +kernel
theorem d_Validator_isListed_33 : decode b_Validator_isListed 33 = .ok (.getfield 253, 3) := by decide +kernel
theorem d_Validator_isListed_36 : decode b_Validator_isListed 36 = .ok (.iload 4, 2) := by decide +kernel
theorem d_Validator_isListed_38 : decode b_Validator_isListed 38 = .ok (.iaload, 1) := by decide +kernel
theorem d_Validator_isListed_39 : decode b_Validator_isListed 39 = .ok (.iload_n 1, 1) := by decide +kernel
theorem d_Validator_isListed_40 : decode b_Validator_isListed 40 = .ok (.if_icmp .ne 5, 3) := by decide +kernel
theorem d_Validator_isListed_43 : decode b_Validator_isListed 43 = .ok (.iconst 1, 1) := by decide +kernel
theorem d_Validator_isListed_44 : decode b_Validator_isListed 44 = .ok (.ireturn, 1) := by decide +kernel
theorem d_Validator_isListed_45 : decode b_Validator_isListed 45 = .ok (.iinc 4 1, 3) := by decide +kernel
theorem d_Validator_isListed_48 : decode b_Validator_isListed 48 = .ok (.goto (-35), 3) := by decide +kernel
theorem d_Validator_isListed_51 : decode b_Validator_isListed 51 = .ok (.iconst 0, 1) := by decide +kernel
theorem d_Validator_isListed_52 : decode b_Validator_isListed 52 = .ok (.ireturn, 1) := by decide +kernel
/-- Validator_isListed -/
def w_Validator_isListed (L : Nat → Nat) (a1 : Int) (a2 : Int) (Q : Int → IS → Prop) (σ : IS) : Prop := inL L 121 a2 ∧ WL (fun (K1 : Int → IS → Prop) (s3 : Int) (σ4 : IS) => inL L 122 a2 ∧ inR ((σ.2 121 (Int.toNat a2)) + (σ4.2 122 (Int.toNat a2))) ∧ if s3 < ((σ.2 121 (Int.toNat a2)) + (σ4.2 122 (Int.toNat a2))) then inL L 124 s3 ∧ if (σ4.2 124 (Int.toNat s3)) = a1 then Q 1 σ4 else inR (s3 + 1) ∧ K1 (s3 + 1) σ4 else Q 0 σ4) (σ.2 121 (Int.toNat a2)) σ
set_option maxHeartbeats 4000000 in
set_option maxRecDepth 20000 in
theorem s_Validator_isListed {L : Nat → Nat} (hL : ∀ r, L r < 2147483648) {d : Nat} (hd : 0 ≤ d) {a1 : Int} {a2 : Int} {Q : Int → IS → Prop} {σ : IS}  (h : w_Validator_isListed L a1 a2 Q σ) : OkI BF L d 8 b_Validator_isListed 5 2 0 [] [some (.inr 8), some (.inl a1), some (.inl a2)] σ (qi Q) := by
  unfold w_Validator_isListed at h
  refine k_sb (lv' := [some (.inr 8), some (.inl a1), some (.inl a2), none, none]) (sb_s (sb_s (sb_s (sb_e (sb_e sb_nil))))) ?_
  refine k_aload_n d_Validator_isListed_0 rfl ?_
  refine k_getR d_Validator_isListed_1 fl_8_23 ob_8 rfl ?_
  refine k_getR d_Validator_isListed_4 fl_8_247 ob_4 rfl ?_
  refine k_iload_n d_Validator_isListed_7 rfl ?_
  obtain ⟨p11, h⟩ := h
  refine k_ild (x := (σ.2 121 (Int.toNat a2))) d_Validator_isListed_8 rI_121 p11 rfl ?_
  refine k_istore_n (lv' := [some (.inr 8), some (.inl a1), some (.inl a2), some (.inl (σ.2 121 (Int.toNat a2))), none]) d_Validator_isListed_9 rfl rfl ?_
  refine k_iload_n d_Validator_isListed_10 rfl ?_
  refine k_istore (lv' := [some (.inr 8), some (.inl a1), some (.inl a2), some (.inl (σ.2 121 (Int.toNat a2))), some (.inl (σ.2 121 (Int.toNat a2)))]) d_Validator_isListed_11 rfl rfl ?_
  refine k_sb (lv' := [some (.inr 8), some (.inl a1), some (.inl a2), some (.inl (σ.2 121 (Int.toNat a2))), some (.inl (σ.2 121 (Int.toNat a2)))]) (sb_s (sb_s (sb_s (sb_s (sb_s sb_nil))))) ?_
  refine k_loop (S := Int) (st := fun _ => []) (lv := fun s3 => [some (.inr 8), some (.inl a1), some (.inl a2), some (.inl (σ.2 121 (Int.toNat a2))), some (.inl s3)]) (fun K1 hK2 s3 σ4 h => ?_) (σ.2 121 (Int.toNat a2)) _ h
  refine k_iload d_Validator_isListed_13 rfl ?_
  refine k_iload_n d_Validator_isListed_15 rfl ?_
  refine k_aload_n d_Validator_isListed_16 rfl ?_
  refine k_getR d_Validator_isListed_17 fl_8_23 ob_8 rfl ?_
  refine k_getR d_Validator_isListed_20 fl_8_250 ob_4 rfl ?_
  refine k_iload_n d_Validator_isListed_23 rfl ?_
  obtain ⟨p10, h⟩ := h
  refine k_ild (x := (σ4.2 122 (Int.toNat a2))) d_Validator_isListed_24 rI_122 p10 rfl ?_
  obtain ⟨p9, h⟩ := h
  refine k_iadd d_Validator_isListed_25 p9 ?_
  refine k_icge d_Validator_isListed_26 rfl (fun c5 => ?_) (fun c5 => ?_)
  · have h := ineg c5 h
    refine k_iconst d_Validator_isListed_51 cI_0 ?_
    exact k_iret d_Validator_isListed_52 (Or.inr ⟨rfl, Or.inl rfl⟩) h
  · have h := ipos c5 h
    refine k_aload_n d_Validator_isListed_29 rfl ?_
    refine k_getR d_Validator_isListed_30 fl_8_23 ob_8 rfl ?_
    refine k_getR d_Validator_isListed_33 fl_8_253 ob_4 rfl ?_
    refine k_iload d_Validator_isListed_36 rfl ?_
    obtain ⟨p8, h⟩ := h
    refine k_ild (x := (σ4.2 124 (Int.toNat s3))) d_Validator_isListed_38 rI_124 p8 rfl ?_
    refine k_iload_n d_Validator_isListed_39 rfl ?_
    refine k_icne d_Validator_isListed_40 rfl (fun c6 => ?_) (fun c6 => ?_)
    · have h := ineg c6 h
      obtain ⟨p7, h⟩ := h
      refine k_iinc (lv' := [some (.inr 8), some (.inl a1), some (.inl a2), some (.inl (σ.2 121 (Int.toNat a2))), some (.inl (s3 + 1))]) d_Validator_isListed_45 cI_1 rfl rfl p7 rfl ?_
      refine k_goto d_Validator_isListed_48 rfl ?_
      exact k_sb (sb_s (sb_s (sb_s (sb_s (sb_s sb_nil))))) (hK2 (s3 + 1) _ h)
    · have h := ipos c6 h
      refine k_iconst d_Validator_isListed_43 cI_1 ?_
      exact k_iret d_Validator_isListed_44 (Or.inr ⟨rfl, Or.inr rfl⟩) h
theorem d_Validator_isAsWanted_0 : decode b_Validator_isAsWanted 0 = .ok (.aload_n 0, 1) := by decide +kernel
theorem d_Validator_isAsWanted_1 : decode b_Validator_isAsWanted 1 = .ok (.getfield 23, 3) := by decide +kernel
theorem d_Validator_isAsWanted_4 : decode b_Validator_isAsWanted 4 = .ok (.getfield 237, 3) := by decide +kernel
theorem d_Validator_isAsWanted_7 : decode b_Validator_isAsWanted 7 = .ok (.iload_n 2, 1) := by decide +kernel
theorem d_Validator_isAsWanted_8 : decode b_Validator_isAsWanted 8 = .ok (.iaload, 1) := by decide +kernel
theorem d_Validator_isAsWanted_9 : decode b_Validator_isAsWanted 9 = .ok (.tableswitch 81 10 17 #[47, 49, 49, 57, 49, 57, 65, 73], 47) := by decide +kernel
theorem d_Validator_isAsWanted_56 : decode b_Validator_isAsWanted 56 = .ok (.iconst 1, 1) := by decide +kernel
theorem d_Validator_isAsWanted_57 : decode b_Validator_isAsWanted 57 = .ok (.ireturn, 1) := by decide +kernel
theorem d_Validator_isAsWanted_58 : decode b_Validator_isAsWanted 58 = .ok (.aload_n 0, 1) := by decide +kernel
theorem d_Validator_isAsWanted_59 : decode b_Validator_isAsWanted 59 = .ok (.iload_n 1, 1) := by decide +kernel
theorem d_Validator_isAsWanted_60 : decode b_Validator_isAsWanted 60 = .ok (.iconst 1, 1) := by decide +kernel
theorem d_Validator_isAsWanted_61 : decode b_Validator_isAsWanted 61 = .ok (.iconst 0, 1) := by decide +kernel
theorem d_Validator_isAsWanted_62 : decode b_Validator_isAsWanted 62 = .ok (.invokevirtual 240, 3) := by decide +kernel
theorem d_Validator_isAsWanted_65 : decode b_Validator_isAsWanted 65 = .ok (.ireturn, 1) := by decide +kernel
theorem d_Validator_isAsWanted_66 : decode b_Validator_isAsWanted 66 = .ok (.aload_n 0, 1) := by decide +kernel
theorem d_Validator_isAsWanted_67 : decode b_Validator_isAsWanted 67 = .ok (.iload_n 1, 1) := by decide +kernel
theorem d_Validator_isAsWanted_68 : decode b_Validator_isAsWanted 68 = .ok (.iconst 1, 1) := by decide +kernel
theorem d_Validator_isAsWanted_69 : decode b_Validator_isAsWanted 69 = .ok (.iconst 1, 1) := by decide +kernel
theorem d_Validator_isAsWanted_70 : decode b_Validator_isAsWanted 70 = .ok (.invokevirtual 240, 3) := by decide +kernel
theorem d_Validator_isAsWanted_73 : decode b_Validator_isAsWanted 73 = .ok (.ireturn, 1) := by decide +kernel
theorem d_Validator_isAsWanted_74 : decode b_Validator_isAsWanted 74 = .ok (.aload_n 0, 1) := by decide +kernel
theorem d_Validator_isAsWanted_75 : decode b_Validator_isAsWanted 75 = .ok (.iload_n 1, 1) := by decide +kernel
theorem d_Validator_isAsWanted_76 : decode b_Validator_isAsWanted 76 = .ok (.iconst 0, 1) := by decide +kernel
theorem d_Validator_isAsWanted_77 : decode b_Validator_isAsWanted 77 = .ok (.iconst 0, 1) := by decide +kernel
theorem d_Validator_isAsWanted_78 : decode b_Validator_isAsWanted 78 = .ok (.invokevirtual 240, 3) := by decide +kernel
theorem d_Validator_isAsWanted_81 : decode b_Validator_isAsWanted 81 = .ok (.ireturn, 1) := by decide +kernel
theorem d_Validator_isAsWanted_82 : decode b_Validator_isAsWanted 82 = .ok (.aload_n 0, 1) := by decide +kernel
theorem d_Validator_isAsWanted_83 : decode b_Validator_isAsWanted 83 = .ok (.iload_n 1, 1) := by decide +kernel
theorem d_Validator_isAsWanted_84 : decode b_Validator_isAsWanted 84 = .ok (.iconst 0, 1) := by decide +kernel
theorem d_Validator_isAsWanted_85 : decode b_Validator_isAsWanted 85 = .ok (.iconst 1, 1) := by decide +kernel
theorem d_Validator_isAsWanted_86 : decode b_Validator_isAsWanted 86 = .ok (.invokevirtual 240, 3) := by decide +kernel
theorem d_Validator_isAsWanted_89 : decode b_Validator_isAsWanted 89 = .ok (.ireturn, 1) := by decide +kernel
theorem d_Validator_isAsWanted_90 : decode b_Validator_isAsWanted 90 = .ok (.aload_n 0, 1) := by decide +kernel
theorem d_Validator_isAsWanted_91 : decode b_Validator_isAsWanted 91 = .ok (.iload_n 1, 1) := by decide +kernel
theorem d_Validator_isAsWanted_92 : decode b_Validator_isAsWanted 92 = .ok (.iload_n 2, 1) := by decide +kernel
theorem d_Validator_isAsWanted_93 : decode b_Validator_isAsWanted 93 = .ok (.invokevirtual 244, 3) := by decide +kernel
theorem d_Validator_isAsWanted_96 : decode b_Validator_isAsWanted 96 = .ok (.ireturn, 1) := by decide +kernel
/-- Validator_isAsWanted -/
def w_Validator_isAsWanted (L : Nat → Nat) (a1 : Int) (a2 : Int) (Q : Int → IS → Prop) (σ : IS) : Prop := inL L 118 a2 ∧ if (σ.2 118 (Int.toNat a2)) = 10 then Q 1 σ else if (σ.2 118 (Int.toNat a2)) = 11 then w_Validator_isMadeOf L a1 1 0 (fun v4 σ3 => is01 v4 ∧ Q v4 σ3) σ else if (σ.2 118 (Int.toNat a2)) = 12 then w_Validator_isMadeOf L a1 1 0 (fun v8 σ7 => is01 v8 ∧ Q v8 σ7) σ else if (σ.2 118 (Int.toNat a2)) = 13 then w_Validator_isMadeOf L a1 1 1 (fun v12 σ11 => is01 v12 ∧ Q v12 σ11) σ else if (σ.2 118 (Int.toNat a2)) = 14 then w_Validator_isMadeOf L a1 1 0 (fun v16 σ15 => is01 v16 ∧ Q v16 σ15) σ else if (σ.2 118 (Int.toNat a2)) = 15 then w_Validator_isMadeOf L a1 1 1 (fun v20 σ19 => is01 v20 ∧ Q v20 σ19) σ else if (σ.2 118 (Int.toNat a2)) = 16 then w_Validator_isMadeOf L a1 0 0 (fun v24 σ23 => is01 v24 ∧ Q v24 σ23) σ else if (σ.2 118 (Int.toNat a2)) = 17 then w_Validator_isMadeOf L a1 0 1 (fun v28 σ27 => is01 v28 ∧ Q v28 σ27) σ else w_Validator_isListed L a1 a2 (fun v31 σ30 => is01 v31 ∧ Q v31 σ30) σ
set_option maxHeartbeats 4000000 in
set_option maxRecDepth 20000 in
theorem s_Validator_isAsWanted {L : Nat → Nat} (hL : ∀ r, L r < 2147483648) {d : Nat} (hd : 2 ≤ d) {a1 : Int} {a2 : Int} {Q : Int → IS → Prop} {σ : IS}  (h : w_Validator_isAsWanted L a1 a2 Q σ) : OkI BF L d 8 b_Validator_isAsWanted 3 2 0 [] [some (.inr 8), some (.inl a1), some (.inl a2)] σ (qi Q) := by
  unfold w_Validator_isAsWanted at h
  obtain ⟨d, rfl⟩ : ∃ e, d = e + 1 := ⟨d - 1, by omega⟩
  refine k_sb (lv' := [some (.inr 8), some (.inl a1), some (.inl a2)]) (sb_s (sb_s (sb_s sb_nil))) ?_
  refine k_aload_n d_Validator_isAsWanted_0 rfl ?_
  refine k_getR d_Validator_isAsWanted_1 fl_8_23 ob_8 rfl ?_
  refine k_getR d_Validator_isAsWanted_4 fl_8_237 ob_4 rfl ?_
  refine k_iload_n d_Validator_isAsWanted_7 rfl ?_
  obtain ⟨p33, h⟩ := h
  refine k_ild (x := (σ.2 118 (Int.toNat a2))) d_Validator_isAsWanted_8 rI_118 p33 rfl ?_
  rcases Classical.em ((σ.2 118 (Int.toNat a2)) = 10) with c1 | c1
  · have h := ipos c1 h
    refine k_tsw (t := 56) (k := 10) d_Validator_isAsWanted_9 c1 rfl ?_
    refine k_iconst d_Validator_isAsWanted_56 cI_1 ?_
    exact k_iret d_Validator_isAsWanted_57 (Or.inr ⟨rfl, Or.inr rfl⟩) h
  · have h := ineg c1 h
    rcases Classical.em ((σ.2 118 (Int.toNat a2)) = 11) with c2 | c2
    · have h := ipos c2 h
      refine k_tsw (t := 58) (k := 11) d_Validator_isAsWanted_9 c2 rfl ?_
      refine k_aload_n d_Validator_isAsWanted_58 rfl ?_
      refine k_iload_n d_Validator_isAsWanted_59 rfl ?_
      refine k_iconst d_Validator_isAsWanted_60 cI_1 ?_
      refine k_iconst d_Validator_isAsWanted_61 cI_0 ?_
      refine k_cvi [.inl a1, .inl 1, .inl 0] d_Validator_isAsWanted_62 ml_8_240 rfl rfl ob_8 rfl (s_Validator_isMadeOf hL (by omega)  h) (fun v4 σ3 h => ?_)
      obtain ⟨p5, h⟩ := h
      exact k_iret d_Validator_isAsWanted_65 (Or.inr ⟨rfl, p5⟩) h
    · have h := ineg c2 h
      rcases Classical.em ((σ.2 118 (Int.toNat a2)) = 12) with c6 | c6
      · have h := ipos c6 h
        refine k_tsw (t := 58) (k := 12) d_Validator_isAsWanted_9 c6 rfl ?_
        refine k_aload_n d_Validator_isAsWanted_58 rfl ?_
        refine k_iload_n d_Validator_isAsWanted_59 rfl ?_
        refine k_iconst d_Validator_isAsWanted_60 cI_1 ?_
        refine k_iconst d_Validator_isAsWanted_61 cI_0 ?_
        refine k_cvi [.inl a1, .inl 1, .inl 0] d_Validator_isAsWanted_62 ml_8_240 rfl rfl ob_8 rfl (s_Validator_isMadeOf hL (by omega)  h) (fun v8 σ7 h => ?_)
        obtain ⟨p9, h⟩ := h
        exact k_iret d_Validator_isAsWanted_65 (Or.inr ⟨rfl, p9⟩) h
      · have h := ineg c6 h
        rcases Classical.em ((σ.2 118 (Int.toNat a2)) = 13) with c10 | c10
        · have h := ipos c10 h
          refine k_tsw (t := 66) (k := 13) d_Validator_isAsWanted_9 c10 rfl ?_
          refine k_aload_n d_Validator_isAsWanted_66 rfl ?_
          refine k_iload_n d_Validator_isAsWanted_67 rfl ?_
          refine k_iconst d_Validator_isAsWanted_68 cI_1 ?_
          refine k_iconst d_Validator_isAsWanted_69 cI_1 ?_
          refine k_cvi [.inl a1, .inl 1, .inl 1] d_Validator_isAsWanted_70 ml_8_240 rfl rfl ob_8 rfl (s_Validator_isMadeOf hL (by omega)  h) (fun v12 σ11 h => ?_)
          obtain ⟨p13, h⟩ := h
          exact k_iret d_Validator_isAsWanted_73 (Or.inr ⟨rfl, p13⟩) h
        · have h := ineg c10 h
          rcases Classical.em ((σ.2 118 (Int.toNat a2)) = 14) with c14 | c14
          · have h := ipos c14 h
            refine k_tsw (t := 58) (k := 14) d_Validator_isAsWanted_9 c14 rfl ?_
            refine k_aload_n d_Validator_isAsWanted_58 rfl ?_
            refine k_iload_n d_Validator_isAsWanted_59 rfl ?_
            refine k_iconst d_Validator_isAsWanted_60 cI_1 ?_
            refine k_iconst d_Validator_isAsWanted_61 cI_0 ?_
            refine k_cvi [.inl a1, .inl 1, .inl 0] d_Validator_isAsWanted_62 ml_8_240 rfl rfl ob_8 rfl (s_Validator_isMadeOf hL (by omega)  h) (fun v16 σ15 h => ?_)
            obtain ⟨p17, h⟩ := h
            exact k_iret d_Validator_isAsWanted_65 (Or.inr ⟨rfl, p17⟩) h
          · have h := ineg c14 h
            rcases Classical.em ((σ.2 118 (Int.toNat a2)) = 15) with c18 | c18
            · have h := ipos c18 h
              refine k_tsw (t := 66) (k := 15) d_Validator_isAsWanted_9 c18 rfl ?_
              refine k_aload_n d_Validator_isAsWanted_66 rfl ?_
              refine k_iload_n d_Validator_isAsWanted_67 rfl ?_
              refine k_iconst d_Validator_isAsWanted_68 cI_1 ?_
              refine k_iconst d_Validator_isAsWanted_69 cI_1 ?_
              refine k_cvi [.inl a1, .inl 1, .inl 1] d_Validator_isAsWanted_70 ml_8_240 rfl rfl ob_8 rfl (s_Validator_isMadeOf hL (by omega)  h) (fun v20 σ19 h => ?_)
              obtain ⟨p21, h⟩ := h
              exact k_iret d_Validator_isAsWanted_73 (Or.inr ⟨rfl, p21⟩) h
            · have h := ineg c18 h
              rcases Classical.em ((σ.2 118 (Int.toNat a2)) = 16) with c22 | c22
              · have h := ipos c22 h
                refine k_tsw (t := 74) (k := 16) d_Validator_isAsWanted_9 c22 rfl ?_
                refine k_aload_n d_Validator_isAsWanted_74 rfl ?_
                refine k_iload_n d_Validator_isAsWanted_75 rfl ?_
                refine k_iconst d_Validator_isAsWanted_76 cI_0 ?_
                refine k_iconst d_Validator_isAsWanted_77 cI_0 ?_
                refine k_cvi [.inl a1, .inl 0, .inl 0] d_Validator_isAsWanted_78 ml_8_240 rfl rfl ob_8 rfl (s_Validator_isMadeOf hL (by omega)  h) (fun v24 σ23 h => ?_)
                obtain ⟨p25, h⟩ := h
                exact k_iret d_Validator_isAsWanted_81 (Or.inr ⟨rfl, p25⟩) h
              · have h := ineg c22 h
                rcases Classical.em ((σ.2 118 (Int.toNat a2)) = 17) with c26 | c26
                · have h := ipos c26 h
                  refine k_tsw (t := 82) (k := 17) d_Validator_isAsWanted_9 c26 rfl ?_
                  refine k_aload_n d_Validator_isAsWanted_82 rfl ?_
                  refine k_iload_n d_Validator_isAsWanted_83 rfl ?_
                  refine k_iconst d_Validator_isAsWanted_84 cI_0 ?_
                  refine k_iconst d_Validator_isAsWanted_85 cI_1 ?_
                  refine k_cvi [.inl a1, .inl 0, .inl 1] d_Validator_isAsWanted_86 ml_8_240 rfl rfl ob_8 rfl (s_Validator_isMadeOf hL (by omega)  h) (fun v28 σ27 h => ?_)
                  obtain ⟨p29, h⟩ := h
                  exact k_iret d_Validator_isAsWanted_89 (Or.inr ⟨rfl, p29⟩) h
                · have h := ineg c26 h
                  refine k_tswd (t := 90) d_Validator_isAsWanted_9 (by omega) rfl ?_
                  refine k_aload_n d_Validator_isAsWanted_90 rfl ?_
                  refine k_iload_n d_Validator_isAsWanted_91 rfl ?_
                  refine k_iload_n d_Validator_isAsWanted_92 rfl ?_
                  refine k_cvi [.inl a1, .inl a2] d_Validator_isAsWanted_93 ml_8_244 rfl rfl ob_8 rfl (s_Validator_isListed hL (by omega)  h) (fun v31 σ30 h => ?_)
                  obtain ⟨p32, h⟩ := h
                  exact k_iret d_Validator_isAsWanted_96 (Or.inr ⟨rfl, p32⟩) h
theorem d_Validator_countTags_0 : decode b_Validator_countTags 0 = .ok (.iconst 0, 1) := by decide +kernel
theorem d_Validator_countTags_1 : decode b_Validator_countTags 1 = .ok (.istore_n 1, 1) := by decide +kernel
theorem d_Validator_countTags_2 : decode b_Validator_countTags 2 = .ok (.iload_n 1, 1) := by decide +kernel
theorem d_Validator_countTags_3 : decode b_Validator_countTags 3 = .ok (.aload_n 0, 1) := by decide +kernel
theorem d_Validator_countTags_4 : decode b_Validator_countTags 4 = .ok (.getfield 31, 3) := by decide +kernel
theorem d_Validator_countTags_7 : decode b_Validator_countTags 7 = .ok (.getfield 113, 3) := by decide +kernel
theorem d_Validator_countTags_10 : decode b_Validator_countTags 10 = .ok (.if_icmp .ge 301, 3) := by decide +kernel
theorem d_Validator_countTags_13 : decode b_Validator_countTags 13 = .ok (.aload_n 0, 1) := by decide +kernel
theorem d_Validator_countTags_14 : decode b_Validator_countTags 14 = .ok (.getfield 9, 3) := by decide +kernel
theorem d_Validator_countTags_17 : decode b_Validator_countTags 17 = .ok (.invokevirtual 152, 3) := by decide +kernel
theorem d_Validator_countTags_20 : decode b_Validator_countTags 20 = .ok (.istore_n 2, 1) := by decide +kernel
theorem d_Validator_countTags_21 : decode b_Validator_countTags 21 = .ok (.iconst 0, 1) := by decide +kernel
theorem d_Validator_countTags_22 : decode b_Validator_countTags 22 = .ok (.istore_n 3, 1) := by decide +kernel
theorem d_Validator_countTags_23 : decode b_Validator_countTags 23 = .ok (.iload_n 3, 1) := by decide +kernel
theorem d_Validator_countTags_24 : decode b_Validator_countTags 24 = .ok (.aload_n 0, 1) := by decide +kernel
theorem d_Validator_countTags_25 : decode b_Validator_countTags 25 = .ok (.getfield 31, 3) := by decide +kernel
theorem d_Validator_countTags_28 : decode b_Validator_countTags 28 = .ok (.getfield 207, 3) := by decide +kernel
theorem d_Validator_countTags_31 : decode b_Validator_countTags 31 = .ok (.iload_n 1, 1) := by decide +kernel
theorem d_Validator_countTags_32 : decode b_Validator_countTags 32 = .ok (.iaload, 1) := by decide +kernel
theorem d_Validator_countTags_33 : decode b_Validator_countTags 33 = .ok (.if_icmp .ge 155, 3) := by decide +kernel
theorem d_Validator_countTags_36 : decode b_Validator_countTags 36 = .ok (.aload_n 0, 1) := by decide +kernel
theorem d_Validator_countTags_37 : decode b_Validator_countTags 37 = .ok (.getfield 31, 3) := by decide +kernel
theorem d_Validator_countTags_40 : decode b_Validator_countTags 40 = .ok (.getfield 210, 3) := by decide +kernel
theorem d_Validator_countTags_43 : decode b_Validator_countTags 43 = .ok (.iload_n 1, 1) := by decide +kernel
theorem d_Validator_countTags_44 : decode b_Validator_countTags 44 = .ok (.iaload, 1) := by decide +kernel
theorem d_Validator_countTags_45 : decode b_Validator_countTags 45 = .ok (.iload_n 3, 1) := by decide +kernel
theorem d_Validator_countTags_46 : decode b_Validator_countTags 46 = .ok (.iadd, 1) := by decide +kernel
theorem d_Validator_countTags_47 : decode b_Validator_countTags 47 = .ok (.istore 4, 2) := by decide +kernel
theorem d_Validator_countTags_49 : decode b_Validator_countTags 49 = .ok (.aload_n 0, 1) := by decide +kernel
theorem d_Validator_countTags_50 : decode b_Validator_countTags 50 = .ok (.getfield 31, 3) := by decide +kernel
theorem d_Validator_countTags_53 : decode b_Validator_countTags 53 = .ok (.getfield 213, 3) := by decide +kernel
theorem d_Validator_countTags_56 : decode b_Validator_countTags 56 = .ok (.iload 4, 2) := by decide +kernel
theorem d_Validator_countTags_58 : decode b_Validator_countTags 58 = .ok (.iaload, 1) := by decide +kernel
theorem d_Validator_countTags_59 : decode b_Validator_countTags 59 = .ok (.istore 5, 2) := by decide +kernel
theorem d_Validator_countTags_61 : decode b_Validator_countTags 61 = .ok (.aload_n 0, 1) := by decide +kernel
theorem d_Validator_countTags_62 : decode b_Validator_countTags 62 = .ok (.getfield 31, 3) := by decide +kernel
theorem d_Validator_countTags_65 : decode b_Validator_countTags 65 = .ok (.getfield 216, 3) := by decide +kernel
theorem d_Validator_countTags_68 : decode b_Validator_countTags 68 = .ok (.iload 4, 2) := by decide +kernel
theorem d_Validator_countTags_70 : decode b_Validator_countTags 70 = .ok (.iaload, 1) := by decide +kernel
theorem d_Validator_countTags_71 : decode b_Validator_countTags 71 = .ok (.istore 6, 2) := by decide +kernel
theorem d_Validator_countTags_73 : decode b_Validator_countTags 73 = .ok (.aload_n 0, 1) := by decide +kernel
theorem d_Validator_countTags_74 : decode b_Validator_countTags 74 = .ok (.getfield 9, 3) := by decide +kernel
theorem d_Validator_countTags_77 : decode b_Validator_countTags 77 = .ok (.getfield 191, 3) := by decide +kernel
theorem d_Validator_countTags_80 : decode b_Validator_countTags 80 = .ok (.aload_n 0, 1) := by decide +kernel
theorem d_Validator_countTags_81 : decode b_Validator_countTags 81 = .ok (.getfield 31, 3) := by decide +kernel
theorem d_Validator_countTags_84 : decode b_Validator_countTags 84 = .ok (.getfield 219, 3) := by decide +kernel
theorem d_Validator_countTags_87 : decode b_Validator_countTags 87 = .ok (.iload 4, 2) := by decide +kernel
theorem d_Validator_countTags_89 : decode b_Validator_countTags 89 = .ok (.iaload, 1) := by decide +kernel
theorem d_Validator_countTags_90 : decode b_Validator_countTags 90 = .ok (.iload_n 2, 1) := by decide +kernel
theorem d_Validator_countTags_91 : decode b_Validator_countTags 91 = .ok (.iastore, 1) := by decide +kernel
theorem d_Validator_countTags_92 : decode b_Validator_countTags 92 = .ok (.iload 5, 2) := by decide +kernel
theorem d_Validator_countTags_94 : decode b_Validator_countTags 94 = .ok (.iconst (-1), 1) := by decide +kernel
theorem d_Validator_countTags_95 : decode b_Validator_countTags 95 = .ok (.if_icmp .ne 17, 3) := by decide +kernel
theorem d_Validator_countTags_98 : decode b_Validator_countTags 98 = .ok (.aload_n 0, 1) := by decide +kernel
theorem d_Validator_countTags_99 : decode b_Validator_countTags 99 = .ok (.getfield 39, 3) := by decide +kernel
theorem d_Validator_countTags_102 : decode b_Validator_countTags 102 = .ok (.bipush 7, 2) := by decide +kernel
theorem d_Validator_countTags_104 : decode b_Validator_countTags 104 = .ok (.dup2, 1) := by decide +kernel
theorem d_Validator_countTags_105 : decode b_Validator_countTags 105 = .ok (.iaload, 1) := by decide +kernel
theorem d_Validator_countTags_106 : decode b_Validator_countTags 106 = .ok (.iconst 1, 1) := by decide +kernel
theorem d_Validator_countTags_107 : decode b_Validator_countTags 107 = .ok (.iadd, 1) := by decide +kernel
theorem d_Validator_countTags_108 : decode b_Validator_countTags 108 = .ok (.iastore, 1) := by decide +kernel
theorem d_Validator_countTags_109 : decode b_Validator_countTags 109 = .ok (.goto 73, 3) := by decide +kernel
theorem d_Validator_countTags_112 : decode b_Validator_countTags 112 = .ok (.aload_n 0, 1) := by decide +kernel
theorem d_Validator_countTags_113 : decode b_Validator_countTags 113 = .ok (.getfield 39, 3) := by decide +kernel
theorem d_Validator_countTags_116 : decode b_Validator_countTags 116 = .ok (.bipush 8, 2) := by decide +kernel
theorem d_Validator_countTags_118 : decode b_Validator_countTags 118 = .ok (.dup2, 1) := by decide +kernel
theorem d_Validator_countTags_119 : decode b_Validator_countTags 119 = .ok (.iaload, 1) := by decide +kernel
theorem d_Validator_countTags_120 : decode b_Validator_countTags 120 = .ok (.aload_n 0, 1) := by decide +kernel
theorem d_Validator_countTags_121 : decode b_Validator_countTags 121 = .ok (.iload 6, 2) := by decide +kernel
theorem d_Validator_countTags_123 : decode b_Validator_countTags 123 = .ok (.iload 5, 2) := by decide +kernel
theorem d_Validator_countTags_125 : decode b_Validator_countTags 125 = .ok (.invokevirtual 220, 3) := by decide +kernel
theorem d_Validator_countTags_128 : decode b_Validator_countTags 128 = .ok (.ifCond .eq 7, 3) := by decide +kernel
theorem d_Validator_countTags_131 : decode b_Validator_countTags 131 = .ok (.iconst 0, 1) := by decide +kernel
theorem d_Validator_countTags_132 : decode b_Validator_countTags 132 = .ok (.goto 4, 3) := by decide +kernel
theorem d_Validator_countTags_135 : decode b_Validator_countTags 135 = .ok (.iconst 1, 1) := by decide +kernel
theorem d_Validator_countTags_136 : decode b_Validator_countTags 136 = .ok (.iadd, 1) := by decide +kernel
theorem d_Validator_countTags_137 : decode b_Validator_countTags 137 = .ok (.iastore, 1) := by decide +kernel
theorem d_Validator_countTags_138 : decode b_Validator_countTags 138 = .ok (.aload_n 0, 1) := by decide +kernel
theorem d_Validator_countTags_139 : decode b_Validator_countTags 139 = .ok (.getfield 39, 3) := by decide +kernel
theorem d_Validator_countTags_142 : decode b_Validator_countTags 142 = .ok (.bipush 10, 2) := by decide +kernel
theorem d_Validator_countTags_144 : decode b_Validator_countTags 144 = .ok (.dup2, 1) := by decide +kernel
theorem d_Validator_countTags_145 : decode b_Validator_countTags 145 = .ok (.iaload, 1) := by decide +kernel
theorem d_Validator_countTags_146 : decode b_Validator_countTags 146 = .ok (.aload_n 0, 1) := by decide +kernel
theorem d_Validator_countTags_147 : decode b_Validator_countTags 147 = .ok (.getfield 23, 3) := by decide +kernel
theorem d_Validator_countTags_150 : decode b_Validator_countTags 150 = .ok (.getfield 224, 3) := by decide +kernel
theorem d_Validator_countTags_153 : decode b_Validator_countTags 153 = .ok (.iload 5, 2) := by decide +kernel
theorem d_Validator_countTags_155 : decode b_Validator_countTags 155 = .ok (.iaload, 1) := by decide +kernel
theorem d_Validator_countTags_156 : decode b_Validator_countTags 156 = .ok (.iconst 2, 1) := by decide +kernel
theorem d_Validator_countTags_157 : decode b_Validator_countTags 157 = .ok (.if_icmp .ne 22, 3) := by decide +kernel
theorem d_Validator_countTags_160 : decode b_Validator_countTags 160 = .ok (.aload_n 0, 1) := by decide +kernel
theorem d_Validator_countTags_161 : decode b_Validator_countTags 161 = .ok (.getfield 23, 3) := by decide +kernel
theorem d_Validator_countTags_164 : decode b_Validator_countTags 164 = .ok (.getfield 227, 3) := by decide +kernel
theorem d_Validator_countTags_167 : decode b_Validator_countTags 167 = .ok (.iload 5, 2) := by decide +kernel
theorem d_Validator_countTags_169 : decode b_Validator_countTags 169 = .ok (.iaload, 1) := by decide +kernel
theorem d_Validator_countTags_170 : decode b_Validator_countTags 170 = .ok (.iload 6, 2) := by decide +kernel
theorem d_Validator_countTags_172 : decode b_Validator_countTags 172 = .ok (.if_icmp .eq 7, 3) := by decide +kernel
theorem d_Validator_countTags_175 : decode b_Validator_countTags 175 = .ok (.iconst 1, 1) := by decide +kernel
theorem d_Validator_countTags_176 : decode b_Validator_countTags 176 = .ok (.goto 4, 3) := by decide +kernel
theorem d_Validator_countTags_179 : decode b_Validator_countTags 179 = .ok (.iconst 0, 1) := by decide +kernel
theorem d_Validator_countTags_180 : decode b_Validator_countTags 180 = .ok (.iadd, 1) := by decide +kernel
theorem d_Validator_countTags_181 : decode b_Validator_countTags 181 = .ok (.iastore, 1) := by decide +kernel
theorem d_Validator_countTags_182 : decode b_Validator_countTags 182 = .ok (.iinc 3 1, 3) := by decide +kernel
theorem d_Validator_countTags_185 : decode b_Validator_countTags 185 = .ok (.goto (-162), 3) := by decide +kernel
theorem d_Validator_countTags_188 : decode b_Validator_countTags 188 = .ok (.aload_n 0, 1) := by decide +kernel
theorem d_Validator_countTags_189 : decode b_Validator_countTags 189 = .ok (.getfield 23, 3) := by decide +kernel
theorem d_Validator_countTags_192 : decode b_Validator_countTags 192 = .ok (.getfield 228, 3) := by decide +kernel
theorem d_Validator_countTags_195 : decode b_Validator_countTags 195 = .ok (.aload_n 0, 1) := by decide +kernel
theorem d_Validator_countTags_196 : decode b_Validator_countTags 196 = .ok (.getfield 31, 3) := by decide +kernel
theorem d_Validator_countTags_199 : decode b_Validator_countTags 199 = .ok (.getfield 43, 3) := by decide +kernel
theorem d_Validator_countTags_202 : decode b_Validator_countTags 202 = .ok (.iload_n 1, 1) := by decide +kernel
theorem d_Validator_countTags_203 : decode b_Validator_countTags 203 = .ok (.iaload, 1) := by decide +kernel
theorem d_Validator_countTags_204 : decode b_Validator_countTags 204 = .ok (.iaload, 1) := by decide +kernel
theorem d_Validator_countTags_205 : decode b_Validator_countTags 205 = .ok (.iconst 1, 1) := by decide +kernel
theorem d_Validator_countTags_206 : decode b_Validator_countTags 206 = .ok (.isub, 1) := by decide +kernel
theorem d_Validator_countTags_207 : decode b_Validator_countTags 207 = .ok (.istore_n 3, 1) := by decide +kernel
theorem d_Validator_countTags_208 : decode b_Validator_countTags 208 = .ok (.iconst 0, 1) := by decide +kernel
theorem d_Validator_countTags_209 : decode b_Validator_countTags 209 = .ok (.istore 4, 2) := by decide +kernel
theorem d_Validator_countTags_211 : decode b_Validator_countTags 211 = .ok (.iload 4, 2) := by decide +kernel
theorem d_Validator_countTags_213 : decode b_Validator_countTags 213 = .ok (.aload_n 0, 1) := by decide +kernel
theorem d_Validator_countTags_214 : decode b_Validator_countTags 214 = .ok (.getfield 23, 3) := by decide +kernel
theorem d_Validator_countTags_217 : decode b_Validator_countTags 217 = .ok (.getfield 231, 3) := by decide +kernel
theorem d_Validator_countTags_220 : decode b_Validator_countTags 220 = .ok (.if_icmp .ge 85, 3) := by decide +kernel
theorem d_Validator_countTags_223 : decode b_Validator_countTags 223 = .ok (.iload_n 3, 1) := by decide +kernel
theorem d_Validator_countTags_224 : decode b_Validator_countTags 224 = .ok (.iconst (-1), 1) := by decide +kernel
theorem d_Validator_countTags_225 : decode b_Validator_countTags 225 = .ok (.if_icmp .eq 80, 3) := by decide +kernel
theorem d_Validator_countTags_228 : decode b_Validator_countTags 228 = .ok (.aload_n 0, 1) := by decide +kernel
theorem d_Validator_countTags_229 : decode b_Validator_countTags 229 = .ok (.getfield 23, 3) := by decide +kernel
theorem d_Validator_countTags_232 : decode b_Validator_countTags 232 = .ok (.getfield 224, 3) := by decide +kernel
theorem d_Validator_countTags_235 : decode b_Validator_countTags 235 = .ok (.iload_n 3, 1) := by decide +kernel
theorem d_Validator_countTags_236 : decode b_Validator_countTags 236 = .ok (.iaload, 1) := by decide +kernel
theorem d_Validator_countTags_237 : decode b_Validator_countTags 237 = .ok (.iconst 1, 1) := by decide +kernel
theorem d_Validator_countTags_238 : decode b_Validator_countTags 238 = .ok (.if_icmp .ne 28, 3) := by decide +kernel
theorem d_Validator_countTags_241 : decode b_Validator_countTags 241 = .ok (.aload_n 0, 1) := by decide +kernel
theorem d_Validator_countTags_242 : decode b_Validator_countTags 242 = .ok (.getfield 9, 3) := by decide +kernel
theorem d_Validator_countTags_245 : decode b_Validator_countTags 245 = .ok (.getfield 191, 3) := by decide +kernel
theorem d_Validator_countTags_248 : decode b_Validator_countTags 248 = .ok (.aload_n 0, 1) := by decide +kernel
theorem d_Validator_countTags_249 : decode b_Validator_countTags 249 = .ok (.getfield 23, 3) := by decide +kernel
theorem d_Validator_countTags_252 : decode b_Validator_countTags 252 = .ok (.getfield 65, 3) := by decide +kernel
theorem d_Validator_countTags_255 : decode b_Validator_countTags 255 = .ok (.iload_n 3, 1) := by decide +kernel
theorem d_Validator_countTags_256 : decode b_Validator_countTags 256 = .ok (.iaload, 1) := by decide +kernel
theorem d_Validator_countTags_257 : decode b_Validator_countTags 257 = .ok (.iaload, 1) := by decide +kernel
theorem d_Validator_countTags_258 : decode b_Validator_countTags 258 = .ok (.iload_n 2, 1) := by decide +kernel
theorem d_Validator_countTags_259 : decode b_Validator_countTags 259 = .ok (.if_icmp .eq 7, 3) := by decide +kernel
theorem d_Validator_countTags_262 : decode b_Validator_countTags 262 = .ok (.iconst 1, 1) := by decide +kernel
theorem d_Validator_countTags_263 : decode b_Validator_countTags 263 = .ok (.goto 4, 3) := by decide +kernel
theorem d_Validator_countTags_266 : decode b_Validator_countTags 266 = .ok (.iconst 0, 1) := by decide +kernel
theorem d_Validator_countTags_267 : decode b_Validator_countTags 267 = .ok (.istore 5, 2) := by decide +kernel
theorem d_Validator_countTags_269 : decode b_Validator_countTags 269 = .ok (.aload_n 0, 1) := by decide +kernel
theorem d_Validator_countTags_270 : decode b_Validator_countTags 270 = .ok (.getfield 39, 3) := by decide +kernel
theorem d_Validator_countTags_273 : decode b_Validator_countTags 273 = .ok (.bipush 9, 2) := by decide +kernel
theorem d_Validator_countTags_275 : decode b_Validator_countTags 275 = .ok (.dup2, 1) := by decide +kernel
theorem d_Validator_countTags_276 : decode b_Validator_countTags 276 = .ok (.iaload, 1) := by decide +kernel
theorem d_Validator_countTags_277 : decode b_Validator_countTags 277 = .ok (.iload 5, 2) := by decide +kernel
theorem d_Validator_countTags_279 : decode b_Validator_countTags 279 = .ok (.ifCond .eq 7, 3) := by decide +kernel
theorem d_Validator_countTags_282 : decode b_Validator_countTags 282 = .ok (.iconst 1, 1) := by decide +kernel
theorem d_Validator_countTags_283 : decode b_Validator_countTags 283 = .ok (.goto 4, 3) := by decide +kernel
theorem d_Validator_countTags_286 : decode b_Validator_countTags 286 = .ok (.iconst 0, 1) := by decide +kernel
theorem d_Validator_countTags_287 : decode b_Validator_countTags 287 = .ok (.iadd, 1) := by decide +kernel
theorem d_Validator_countTags_288 : decode b_Validator_countTags 288 = .ok (.iastore, 1) := by decide +kernel
theorem d_Validator_countTags_289 : decode b_Validator_countTags 289 = .ok (.aload_n 0, 1) := by decide +kernel
theorem d_Validator_countTags_290 : decode b_Validator_countTags 290 = .ok (.getfield 23, 3) := by decide +kernel
theorem d_Validator_countTags_293 : decode b_Validator_countTags 293 = .ok (.getfield 234, 3) := by decide +kernel
theorem d_Validator_countTags_296 : decode b_Validator_countTags 296 = .ok (.iload_n 3, 1) := by decide +kernel
theorem d_Validator_countTags_297 : decode b_Validator_countTags 297 = .ok (.iaload, 1) := by decide +kernel
theorem d_Validator_countTags_298 : decode b_Validator_countTags 298 = .ok (.istore_n 3, 1) := by decide +kernel
theorem d_Validator_countTags_299 : decode b_Validator_countTags 299 = .ok (.iinc 4 1, 3) := by decide +kernel
theorem d_Validator_countTags_302 : decode b_Validator_countTags 302 = .ok (.goto (-91), 3) := by decide +kernel
theorem d_Validator_countTags_305 : decode b_Validator_countTags 305 = .ok (.iinc 1 1, 3) := by decide +kernel
theorem d_Validator_countTags_308 : decode b_Validator_countTags 308 = .ok (.goto (-306), 3) := by decide +kernel
theorem d_Validator_countTags_311 : decode b_Validator_countTags 311 = .ok (.return_, 1) := by decide +kernel
/-- Validator_countTags -/
def w_Validator_countTags (L : Nat → Nat)  (Q : IS → Prop) (σ : IS) : Prop := WL (fun (K1 : Int → IS → Prop) (s3 : Int) (σ4 : IS) => if s3 < (σ4.1 6 2) then w_Store_newMark L  (fun v7 σ6 => WL (fun (K8 : Int → IS → Prop) (s10 : Int) (σ11 : IS) => inL L 132 s3 ∧ if s10 < (σ11.2 132 (Int.toNat s3)) then inL L 130 s3 ∧ inR ((σ11.2 130 (Int.toNat s3)) + s10) ∧ inL L 135 ((σ11.2 130 (Int.toNat s3)) + s10) ∧ inL L 134 ((σ11.2 130 (Int.toNat s3)) + s10) ∧ inL L 161 ((σ11.2 130 (Int.toNat s3)) + s10) ∧ inL L 155 (σ11.2 161 (Int.toNat ((σ11.2 130 (Int.toNat s3)) + s10))) ∧ WJ (fun (s51 : Unit) (σ52 : IS) => inR (s10 + 1) ∧ K8 (s10 + 1) σ52) (fun J49 => if (σ11.2 135 (Int.toNat ((σ11.2 130 (Int.toNat s3)) + s10))) = (-1) then inL L 149 7 ∧ inR ((σ11.2 149 (Int.toNat 7)) + 1) ∧ inL L 149 7 ∧ J49 () (pr (pr σ11 155 (Int.toNat (σ11.2 161 (Int.toNat ((σ11.2 130 (Int.toNat s3)) + s10)))) v7) 149 (Int.toNat 7) ((σ11.2 149 (Int.toNat 7)) + 1)) else inL L 149 8 ∧ w_Validator_isAsWanted L (σ11.2 134 (Int.toNat ((σ11.2 130 (Int.toNat s3)) + s10))) (σ11.2 135 (Int.toNat ((σ11.2 130 (Int.toNat s3)) + s10))) (fun v56 σ55 => inR ((σ11.2 149 (Int.toNat 8)) + (if v56 = 0 then (1 : Int) else (0 : Int))) ∧ inL L 149 8 ∧ inL L 149 10 ∧ inL L 119 (σ11.2 135 (Int.toNat ((σ11.2 130 (Int.toNat s3)) + s10))) ∧ (((σ55.2 119 (Int.toNat (σ11.2 135 (Int.toNat ((σ11.2 130 (Int.toNat s3)) + s10))))) = 2 → inL L 120 (σ11.2 135 (Int.toNat ((σ11.2 130 (Int.toNat s3)) + s10))))) ∧ inR (((pr σ55 149 (Int.toNat 8) ((σ11.2 149 (Int.toNat 8)) + (if v56 = 0 then (1 : Int) else (0 : Int)))).2 149 (Int.toNat 10)) + (if (σ55.2 119 (Int.toNat (σ11.2 135 (Int.toNat ((σ11.2 130 (Int.toNat s3)) + s10))))) = 2 then (if (σ55.2 120 (Int.toNat (σ11.2 135 (Int.toNat ((σ11.2 130 (Int.toNat s3)) + s10))))) = (σ11.2 134 (Int.toNat ((σ11.2 130 (Int.toNat s3)) + s10))) then (0 : Int) else (1 : Int)) else (0 : Int))) ∧ inL L 149 10 ∧ J49 () (pr (pr σ55 149 (Int.toNat 8) ((σ11.2 149 (Int.toNat 8)) + (if v56 = 0 then (1 : Int) else (0 : Int)))) 149 (Int.toNat 10) (((pr σ55 149 (Int.toNat 8) ((σ11.2 149 (Int.toNat 8)) + (if v56 = 0 then (1 : Int) else (0 : Int)))).2 149 (Int.toNat 10)) + (if (σ55.2 119 (Int.toNat (σ11.2 135 (Int.toNat ((σ11.2 130 (Int.toNat s3)) + s10))))) = 2 then (if (σ55.2 120 (Int.toNat (σ11.2 135 (Int.toNat ((σ11.2 130 (Int.toNat s3)) + s10))))) = (σ11.2 134 (Int.toNat ((σ11.2 130 (Int.toNat s3)) + s10))) then (0 : Int) else (1 : Int)) else (0 : Int))))) (pr σ11 155 (Int.toNat (σ11.2 161 (Int.toNat ((σ11.2 130 (Int.toNat s3)) + s10)))) v7)) else inL L 146 s3 ∧ inL L 126 (σ11.2 146 (Int.toNat s3)) ∧ inR ((σ11.2 126 (Int.toNat (σ11.2 146 (Int.toNat s3)))) - 1) ∧ WL (fun (K13 : Int × Int → IS → Prop) (s15 : Int × Int) (σ16 : IS) => if s15.2 < (σ16.1 4 12) ∧ (¬ s15.1 = (-1)) then inL L 119 s15.1 ∧ (((σ16.2 119 (Int.toNat s15.1)) = 1 → (inL L 148 s15.1 ∧ inL L 155 (σ16.2 148 (Int.toNat s15.1))))) ∧ LETI (if (σ16.2 119 (Int.toNat s15.1)) = 1 then (if (σ16.2 155 (Int.toNat (σ16.2 148 (Int.toNat s15.1)))) = v7 then (0 : Int) else (1 : Int)) else (0 : Int)) (fun t19 => inL L 149 9 ∧ inR ((σ16.2 149 (Int.toNat 9)) + (if t19 = 0 then (0 : Int) else (1 : Int))) ∧ inL L 149 9 ∧ inL L 123 s15.1 ∧ inR (s15.2 + 1) ∧ K13 ((σ16.2 123 (Int.toNat s15.1)), (s15.2 + 1)) (pr σ16 149 (Int.toNat 9) ((σ16.2 149 (Int.toNat 9)) + (if t19 = 0 then (0 : Int) else (1 : Int))))) else inR (s3 + 1) ∧ K1 (s3 + 1) σ16) (((σ11.2 126 (Int.toNat (σ11.2 146 (Int.toNat s3)))) - 1), 0) σ11) 0 σ6) σ4 else Q σ4) 0 σ
set_option maxHeartbeats 4000000 in
set_option maxRecDepth 20000 in
theorem s_Validator_countTags {L : Nat → Nat} (hL : ∀ r, L r < 2147483648) {d : Nat} (hd : 3 ≤ d)  {Q : IS → Prop} {σ : IS}  (h : w_Validator_countTags L  Q σ) : OkI BF L d 8 b_Validator_countTags 7 0 0 [] [some (.inr 8)] σ (qv Q) := by
  unfold w_Validator_countTags at h
  obtain ⟨d, rfl⟩ : ∃ e, d = e + 1 := ⟨d - 1, by omega⟩
  refine k_sb (lv' := [some (.inr 8), none, none, none, none, none, none]) (sb_s (sb_e (sb_e (sb_e (sb_e (sb_e (sb_e sb_nil))))))) ?_
  refine k_iconst d_Validator_countTags_0 cI_0 ?_
  refine k_istore_n (lv' := [some (.inr 8), some (.inl 0), none, none, none, none, none]) d_Validator_countTags_1 rfl rfl ?_
  refine k_sb (lv' := [some (.inr 8), some (.inl 0), none, none, none, none, none]) (sb_s (sb_s (sb_s (sb_s (sb_s (sb_s (sb_s sb_nil))))))) ?_
  refine k_loop (S := Int) (st := fun _ => []) (lv := fun s3 => [some (.inr 8), some (.inl s3), none, none, none, none, none]) (fun K1 hK2 s3 σ4 h => ?_) 0 _ h
  refine k_iload_n d_Validator_countTags_2 rfl ?_
  refine k_aload_n d_Validator_countTags_3 rfl ?_
  refine k_getR d_Validator_countTags_4 fl_8_31 ob_8 rfl ?_
  refine k_getI (x := (σ4.1 6 2)) d_Validator_countTags_7 fl_8_113 ob_6 rfl rfl ?_
  refine k_icge d_Validator_countTags_10 rfl (fun c5 => ?_) (fun c5 => ?_)
  · have h := ineg c5 h
    exact k_ret d_Validator_countTags_311 h
  · have h := ipos c5 h
    refine k_aload_n d_Validator_countTags_13 rfl ?_
    refine k_getR d_Validator_countTags_14 fl_8_9 ob_8 rfl ?_
    refine k_cvi [] d_Validator_countTags_17 ml_8_152 rfl rfl ob_1 rfl (s_Store_newMark hL (by omega)  h) (fun v7 σ6 h => ?_)
    refine k_istore_n (lv' := [some (.inr 8), some (.inl s3), some (.inl v7), none, none, none, none]) d_Validator_countTags_20 rfl rfl ?_
    refine k_iconst d_Validator_countTags_21 cI_0 ?_
    refine k_istore_n (lv' := [some (.inr 8), some (.inl s3), some (.inl v7), some (.inl 0), none, none, none]) d_Validator_countTags_22 rfl rfl ?_
    refine k_sb (lv' := [some (.inr 8), some (.inl s3), some (.inl v7), some (.inl 0), none, none, none]) (sb_s (sb_s (sb_s (sb_s (sb_s (sb_s (sb_s sb_nil))))))) ?_
    refine k_loop (S := Int) (st := fun _ => []) (lv := fun s10 => [some (.inr 8), some (.inl s3), some (.inl v7), some (.inl s10), none, none, none]) (fun K8 hK9 s10 σ11 h => ?_) 0 _ h
    refine k_iload_n d_Validator_countTags_23 rfl ?_
    refine k_aload_n d_Validator_countTags_24 rfl ?_
    refine k_getR d_Validator_countTags_25 fl_8_31 ob_8 rfl ?_
    refine k_getR d_Validator_countTags_28 fl_8_207 ob_6 rfl ?_
    refine k_iload_n d_Validator_countTags_31 rfl ?_
    obtain ⟨p87, h⟩ := h
    refine k_ild (x := (σ11.2 132 (Int.toNat s3))) d_Validator_countTags_32 rI_132 p87 rfl ?_
    refine k_icge d_Validator_countTags_33 rfl (fun c12 => ?_) (fun c12 => ?_)
    · have h := ineg c12 h
      refine k_aload_n d_Validator_countTags_188 rfl ?_
      refine k_getR d_Validator_countTags_189 fl_8_23 ob_8 rfl ?_
      refine k_getR d_Validator_countTags_192 fl_8_228 ob_4 rfl ?_
      refine k_aload_n d_Validator_countTags_195 rfl ?_
      refine k_getR d_Validator_countTags_196 fl_8_31 ob_8 rfl ?_
      refine k_getR d_Validator_countTags_199 fl_8_43 ob_6 rfl ?_
      refine k_iload_n d_Validator_countTags_202 rfl ?_
      obtain ⟨p48, h⟩ := h
      refine k_ild (x := (σ11.2 146 (Int.toNat s3))) d_Validator_countTags_203 rI_146 p48 rfl ?_
      obtain ⟨p47, h⟩ := h
      refine k_ild (x := (σ11.2 126 (Int.toNat (σ11.2 146 (Int.toNat s3))))) d_Validator_countTags_204 rI_126 p47 rfl ?_
      refine k_iconst d_Validator_countTags_205 cI_1 ?_
      obtain ⟨p46, h⟩ := h
      refine k_isub d_Validator_countTags_206 p46 ?_
      refine k_istore_n (lv' := [some (.inr 8), some (.inl s3), some (.inl v7), some (.inl ((σ11.2 126 (Int.toNat (σ11.2 146 (Int.toNat s3)))) - 1)), none, none, none]) d_Validator_countTags_207 rfl rfl ?_
      refine k_iconst d_Validator_countTags_208 cI_0 ?_
      refine k_istore (lv' := [some (.inr 8), some (.inl s3), some (.inl v7), some (.inl ((σ11.2 126 (Int.toNat (σ11.2 146 (Int.toNat s3)))) - 1)), some (.inl 0), none, none]) d_Validator_countTags_209 rfl rfl ?_
      refine k_sb (lv' := [some (.inr 8), some (.inl s3), some (.inl v7), some (.inl ((σ11.2 126 (Int.toNat (σ11.2 146 (Int.toNat s3)))) - 1)), some (.inl 0), none, none]) (sb_s (sb_s (sb_s (sb_s (sb_s (sb_s (sb_s sb_nil))))))) ?_
      refine k_loop (S := Int × Int) (st := fun _ => []) (lv := fun s15 => [some (.inr 8), some (.inl s3), some (.inl v7), some (.inl s15.1), some (.inl s15.2), none, none]) (fun K13 hK14 s15 σ16 h => ?_) (((σ11.2 126 (Int.toNat (σ11.2 146 (Int.toNat s3)))) - 1), 0) _ h
      refine k_iload d_Validator_countTags_211 rfl ?_
      refine k_aload_n d_Validator_countTags_213 rfl ?_
      refine k_getR d_Validator_countTags_214 fl_8_23 ob_8 rfl ?_
      refine k_getI (x := (σ16.1 4 12)) d_Validator_countTags_217 fl_8_231 ob_4 rfl rfl ?_
      have hX41 : (s15.2 < (σ16.1 4 12) ∧ (¬ s15.1 = (-1))) → OkI BF L (d + 1) 8 b_Validator_countTags 7 0 228 [] [some (.inr 8), some (.inl s3), some (.inl v7), some (.inl s15.1), some (.inl s15.2), none, none] σ16 (qv Q) := fun e43 => by
        have h := ipos e43 h
        refine k_aload_n d_Validator_countTags_228 rfl ?_
        refine k_getR d_Validator_countTags_229 fl_8_23 ob_8 rfl ?_
        refine k_getR d_Validator_countTags_232 fl_8_224 ob_4 rfl ?_
        refine k_iload_n d_Validator_countTags_235 rfl ?_
        obtain ⟨p39, h⟩ := h
        refine k_ild (x := (σ16.2 119 (Int.toNat s15.1))) d_Validator_countTags_236 rI_119 p39 rfl ?_
        refine k_iconst d_Validator_countTags_237 cI_1 ?_
        obtain ⟨pt31, h⟩ := h
        have hV30 : OkI BF L (d + 1) 8 b_Validator_countTags 7 0 267 [.inl (if (σ16.2 119 (Int.toNat s15.1)) = 1 then (if (σ16.2 155 (Int.toNat (σ16.2 148 (Int.toNat s15.1)))) = v7 then (0 : Int) else (1 : Int)) else (0 : Int))] [some (.inr 8), some (.inl s3), some (.inl v7), some (.inl s15.1), some (.inl s15.2), none, none] σ16 (qv Q) := by
          refine k_letI (fun t19 ht20 h => ?_) h
          refine k_istore (lv' := [some (.inr 8), some (.inl s3), some (.inl v7), some (.inl s15.1), some (.inl s15.2), some (.inl t19), none]) d_Validator_countTags_267 rfl rfl ?_
          refine k_aload_n d_Validator_countTags_269 rfl ?_
          refine k_getR d_Validator_countTags_270 fl_8_39 ob_8 rfl ?_
          refine k_bipush d_Validator_countTags_273 cB_9 ?_
          refine k_dup2 d_Validator_countTags_275 ?_
          obtain ⟨p29, h⟩ := h
          refine k_ild (x := (σ16.2 149 (Int.toNat 9))) d_Validator_countTags_276 rI_149 p29 rfl ?_
          refine k_iload d_Validator_countTags_277 rfl ?_
          have hV25 : OkI BF L (d + 1) 8 b_Validator_countTags 7 0 287 [.inl (if t19 = 0 then (0 : Int) else (1 : Int)), .inl (σ16.2 149 (Int.toNat 9)), .inl 9, .inr 149] [some (.inr 8), some (.inl s3), some (.inl v7), some (.inl s15.1), some (.inl s15.2), some (.inl t19), none] σ16 (qv Q) := by
            obtain ⟨p24, h⟩ := h
            refine k_iadd d_Validator_countTags_287 p24 ?_
            obtain ⟨p23, h⟩ := h
            refine k_ist d_Validator_countTags_288 rI_149 p23 ?_
            refine k_aload_n d_Validator_countTags_289 rfl ?_
            refine k_getR d_Validator_countTags_290 fl_8_23 ob_8 rfl ?_
            refine k_getR d_Validator_countTags_293 fl_8_234 ob_4 rfl ?_
            refine k_iload_n d_Validator_countTags_296 rfl ?_
            obtain ⟨p22, h⟩ := h
            refine k_ild (x := (σ16.2 123 (Int.toNat s15.1))) d_Validator_countTags_297 rI_123 p22 rfl ?_
            refine k_istore_n (lv' := [some (.inr 8), some (.inl s3), some (.inl v7), some (.inl (σ16.2 123 (Int.toNat s15.1))), some (.inl s15.2), some (.inl t19), none]) d_Validator_countTags_298 rfl rfl ?_
            obtain ⟨p21, h⟩ := h
            refine k_iinc (lv' := [some (.inr 8), some (.inl s3), some (.inl v7), some (.inl (σ16.2 123 (Int.toNat s15.1))), some (.inl (s15.2 + 1)), some (.inl t19), none]) d_Validator_countTags_299 cI_1 rfl rfl p21 rfl ?_
            refine k_goto d_Validator_countTags_302 rfl ?_
            exact k_sb (sb_s (sb_s (sb_s (sb_s (sb_s (sb_n (sb_s sb_nil))))))) (hK14 ((σ16.2 123 (Int.toNat s15.1)), (s15.2 + 1)) _ h)
          refine k_ifeq d_Validator_countTags_279 rfl (fun c26 => ?_) (fun c26 => ?_)
          · have hV27 := k_eqI (if_pos c26) hV25
            refine k_iconst d_Validator_countTags_286 cI_0 ?_
            exact hV27
          · have hV28 := k_eqI (if_neg c26) hV25
            refine k_iconst d_Validator_countTags_282 cI_1 ?_
            refine k_goto d_Validator_countTags_283 rfl ?_
            exact hV28
        have pa32 := pt31
        refine k_icne d_Validator_countTags_238 rfl (fun c33 => ?_) (fun c33 => ?_)
        · have hV38 := k_eqI (if_neg c33) hV30
          refine k_iconst d_Validator_countTags_266 cI_0 ?_
          exact hV38
        · have pa32 := pa32 c33
          have hV34 := k_eqI (if_pos c33) hV30
          obtain ⟨p17, p18⟩ := pa32
          refine k_aload_n d_Validator_countTags_241 rfl ?_
          refine k_getR d_Validator_countTags_242 fl_8_9 ob_8 rfl ?_
          refine k_getR d_Validator_countTags_245 fl_8_191 ob_1 rfl ?_
          refine k_aload_n d_Validator_countTags_248 rfl ?_
          refine k_getR d_Validator_countTags_249 fl_8_23 ob_8 rfl ?_
          refine k_getR d_Validator_countTags_252 fl_8_65 ob_4 rfl ?_
          refine k_iload_n d_Validator_countTags_255 rfl ?_
          refine k_ild (x := (σ16.2 148 (Int.toNat s15.1))) d_Validator_countTags_256 rI_148 p17 rfl ?_
          refine k_ild (x := (σ16.2 155 (Int.toNat (σ16.2 148 (Int.toNat s15.1))))) d_Validator_countTags_257 rI_155 p18 rfl ?_
          refine k_iload_n d_Validator_countTags_258 rfl ?_
          refine k_iceq d_Validator_countTags_259 rfl (fun c35 => ?_) (fun c35 => ?_)
          · have hV36 := k_eqI (if_pos c35) hV34
            refine k_iconst d_Validator_countTags_266 cI_0 ?_
            exact hV36
          · have hV37 := k_eqI (if_neg c35) hV34
            refine k_iconst d_Validator_countTags_262 cI_1 ?_
            refine k_goto d_Validator_countTags_263 rfl ?_
            exact hV37
      have hY42 : ¬ (s15.2 < (σ16.1 4 12) ∧ (¬ s15.1 = (-1))) → OkI BF L (d + 1) 8 b_Validator_countTags 7 0 305 [] [some (.inr 8), some (.inl s3), some (.inl v7), some (.inl s15.1), some (.inl s15.2), none, none] σ16 (qv Q) := fun e43 => by
        have h := ineg e43 h
        obtain ⟨p40, h⟩ := h
        refine k_iinc (lv' := [some (.inr 8), some (.inl (s3 + 1)), some (.inl v7), some (.inl s15.1), some (.inl s15.2), none, none]) d_Validator_countTags_305 cI_1 rfl rfl p40 rfl ?_
        refine k_goto d_Validator_countTags_308 rfl ?_
        exact k_sb (sb_s (sb_s (sb_n (sb_n (sb_n (sb_s (sb_s sb_nil))))))) (hK2 (s3 + 1) _ h)
      refine k_icge d_Validator_countTags_220 rfl (fun c44 => ?_) (fun c44 => ?_)
      · exact hY42 (fun z => c44 z.1)
      · refine k_iload_n d_Validator_countTags_223 rfl ?_
        refine k_iconst d_Validator_countTags_224 cI_m1 ?_
        refine k_iceq d_Validator_countTags_225 rfl (fun c45 => ?_) (fun c45 => ?_)
        · exact hY42 (fun z => (fun z => z c45) z.2)
        · exact hX41 (⟨c44, c45⟩)
    · have h := ipos c12 h
      refine k_aload_n d_Validator_countTags_36 rfl ?_
      refine k_getR d_Validator_countTags_37 fl_8_31 ob_8 rfl ?_
      refine k_getR d_Validator_countTags_40 fl_8_210 ob_6 rfl ?_
      refine k_iload_n d_Validator_countTags_43 rfl ?_
      obtain ⟨p86, h⟩ := h
      refine k_ild (x := (σ11.2 130 (Int.toNat s3))) d_Validator_countTags_44 rI_130 p86 rfl ?_
      refine k_iload_n d_Validator_countTags_45 rfl ?_
      obtain ⟨p85, h⟩ := h
      refine k_iadd d_Validator_countTags_46 p85 ?_
      refine k_istore (lv' := [some (.inr 8), some (.inl s3), some (.inl v7), some (.inl s10), some (.inl ((σ11.2 130 (Int.toNat s3)) + s10)), none, none]) d_Validator_countTags_47 rfl rfl ?_
      refine k_aload_n d_Validator_countTags_49 rfl ?_
      refine k_getR d_Validator_countTags_50 fl_8_31 ob_8 rfl ?_
      refine k_getR d_Validator_countTags_53 fl_8_213 ob_6 rfl ?_
      refine k_iload d_Validator_countTags_56 rfl ?_
      obtain ⟨p84, h⟩ := h
      refine k_ild (x := (σ11.2 135 (Int.toNat ((σ11.2 130 (Int.toNat s3)) + s10)))) d_Validator_countTags_58 rI_135 p84 rfl ?_
      refine k_istore (lv' := [some (.inr 8), some (.inl s3), some (.inl v7), some (.inl s10), some (.inl ((σ11.2 130 (Int.toNat s3)) + s10)), some (.inl (σ11.2 135 (Int.toNat ((σ11.2 130 (Int.toNat s3)) + s10)))), none]) d_Validator_countTags_59 rfl rfl ?_
      refine k_aload_n d_Validator_countTags_61 rfl ?_
      refine k_getR d_Validator_countTags_62 fl_8_31 ob_8 rfl ?_
      refine k_getR d_Validator_countTags_65 fl_8_216 ob_6 rfl ?_
      refine k_iload d_Validator_countTags_68 rfl ?_
      obtain ⟨p83, h⟩ := h
      refine k_ild (x := (σ11.2 134 (Int.toNat ((σ11.2 130 (Int.toNat s3)) + s10)))) d_Validator_countTags_70 rI_134 p83 rfl ?_
      refine k_istore (lv' := [some (.inr 8), some (.inl s3), some (.inl v7), some (.inl s10), some (.inl ((σ11.2 130 (Int.toNat s3)) + s10)), some (.inl (σ11.2 135 (Int.toNat ((σ11.2 130 (Int.toNat s3)) + s10)))), some (.inl (σ11.2 134 (Int.toNat ((σ11.2 130 (Int.toNat s3)) + s10))))]) d_Validator_countTags_71 rfl rfl ?_
      refine k_aload_n d_Validator_countTags_73 rfl ?_
      refine k_getR d_Validator_countTags_74 fl_8_9 ob_8 rfl ?_
      refine k_getR d_Validator_countTags_77 fl_8_191 ob_1 rfl ?_
      refine k_aload_n d_Validator_countTags_80 rfl ?_
      refine k_getR d_Validator_countTags_81 fl_8_31 ob_8 rfl ?_
      refine k_getR d_Validator_countTags_84 fl_8_219 ob_6 rfl ?_
      refine k_iload d_Validator_countTags_87 rfl ?_
      obtain ⟨p82, h⟩ := h
      refine k_ild (x := (σ11.2 161 (Int.toNat ((σ11.2 130 (Int.toNat s3)) + s10)))) d_Validator_countTags_89 rI_161 p82 rfl ?_
      refine k_iload_n d_Validator_countTags_90 rfl ?_
      obtain ⟨p81, h⟩ := h
      refine k_ist d_Validator_countTags_91 rI_155 p81 ?_
      refine k_iload d_Validator_countTags_92 rfl ?_
      refine k_iconst d_Validator_countTags_94 cI_m1 ?_
      refine k_join (S := Unit) (pc' := 182) (st' := fun s51 => []) (lv' := fun s51 => [some (.inr 8), some (.inl s3), some (.inl v7), some (.inl s10), none, none, none]) (fun s51 σ52 h => ?_) (fun J49 hJ50 h => ?_) h
      · obtain ⟨p53, h⟩ := h
        refine k_iinc (lv' := [some (.inr 8), some (.inl s3), some (.inl v7), some (.inl (s10 + 1)), none, none, none]) d_Validator_countTags_182 cI_1 rfl rfl p53 rfl ?_
        refine k_goto d_Validator_countTags_185 rfl ?_
        exact k_sb (sb_s (sb_s (sb_s (sb_s (sb_s (sb_s (sb_s sb_nil))))))) (hK9 (s10 + 1) _ h)
      · refine k_icne d_Validator_countTags_95 rfl (fun c54 => ?_) (fun c54 => ?_)
        · have h := ineg c54 h
          refine k_aload_n d_Validator_countTags_112 rfl ?_
          refine k_getR d_Validator_countTags_113 fl_8_39 ob_8 rfl ?_
          refine k_bipush d_Validator_countTags_116 cB_8 ?_
          refine k_dup2 d_Validator_countTags_118 ?_
          obtain ⟨p77, h⟩ := h
          refine k_ild (x := (σ11.2 149 (Int.toNat 8))) d_Validator_countTags_119 rI_149 p77 rfl ?_
          refine k_aload_n d_Validator_countTags_120 rfl ?_
          refine k_iload d_Validator_countTags_121 rfl ?_
          refine k_iload d_Validator_countTags_123 rfl ?_
          refine k_cvi [.inl (σ11.2 134 (Int.toNat ((σ11.2 130 (Int.toNat s3)) + s10))), .inl (σ11.2 135 (Int.toNat ((σ11.2 130 (Int.toNat s3)) + s10)))] d_Validator_countTags_125 ml_8_220 rfl rfl ob_8 rfl (s_Validator_isAsWanted hL (by omega)  h) (fun v56 σ55 h => ?_)
          have hV73 : OkI BF L (d + 1) 8 b_Validator_countTags 7 0 136 [.inl (if v56 = 0 then (1 : Int) else (0 : Int)), .inl (σ11.2 149 (Int.toNat 8)), .inl 8, .inr 149] [some (.inr 8), some (.inl s3), some (.inl v7), some (.inl s10), some (.inl ((σ11.2 130 (Int.toNat s3)) + s10)), some (.inl (σ11.2 135 (Int.toNat ((σ11.2 130 (Int.toNat s3)) + s10)))), some (.inl (σ11.2 134 (Int.toNat ((σ11.2 130 (Int.toNat s3)) + s10))))] σ55 (qv Q) := by
            obtain ⟨p72, h⟩ := h
            refine k_iadd d_Validator_countTags_136 p72 ?_
            obtain ⟨p71, h⟩ := h
            refine k_ist d_Validator_countTags_137 rI_149 p71 ?_
            refine k_aload_n d_Validator_countTags_138 rfl ?_
            refine k_getR d_Validator_countTags_139 fl_8_39 ob_8 rfl ?_
            refine k_bipush d_Validator_countTags_142 cB_10 ?_
            refine k_dup2 d_Validator_countTags_144 ?_
            obtain ⟨p70, h⟩ := h
            refine k_ild (x := ((pr σ55 149 (Int.toNat 8) ((σ11.2 149 (Int.toNat 8)) + (if v56 = 0 then (1 : Int) else (0 : Int)))).2 149 (Int.toNat 10))) d_Validator_countTags_145 rI_149 p70 rfl ?_
            refine k_aload_n d_Validator_countTags_146 rfl ?_
            refine k_getR d_Validator_countTags_147 fl_8_23 ob_8 rfl ?_
            refine k_getR d_Validator_countTags_150 fl_8_224 ob_4 rfl ?_
            refine k_iload d_Validator_countTags_153 rfl ?_
            obtain ⟨p69, h⟩ := h
            refine k_ild (x := (σ55.2 119 (Int.toNat (σ11.2 135 (Int.toNat ((σ11.2 130 (Int.toNat s3)) + s10)))))) d_Validator_countTags_155 rI_119 p69 rfl ?_
            refine k_iconst d_Validator_countTags_156 cI_2 ?_
            obtain ⟨pt61, h⟩ := h
            have hV60 : OkI BF L (d + 1) 8 b_Validator_countTags 7 0 180 [.inl (if (σ55.2 119 (Int.toNat (σ11.2 135 (Int.toNat ((σ11.2 130 (Int.toNat s3)) + s10))))) = 2 then (if (σ55.2 120 (Int.toNat (σ11.2 135 (Int.toNat ((σ11.2 130 (Int.toNat s3)) + s10))))) = (σ11.2 134 (Int.toNat ((σ11.2 130 (Int.toNat s3)) + s10))) then (0 : Int) else (1 : Int)) else (0 : Int)), .inl ((pr σ55 149 (Int.toNat 8) ((σ11.2 149 (Int.toNat 8)) + (if v56 = 0 then (1 : Int) else (0 : Int)))).2 149 (Int.toNat 10)), .inl 10, .inr 149] [some (.inr 8), some (.inl s3), some (.inl v7), some (.inl s10), some (.inl ((σ11.2 130 (Int.toNat s3)) + s10)), some (.inl (σ11.2 135 (Int.toNat ((σ11.2 130 (Int.toNat s3)) + s10)))), some (.inl (σ11.2 134 (Int.toNat ((σ11.2 130 (Int.toNat s3)) + s10))))] (pr σ55 149 (Int.toNat 8) ((σ11.2 149 (Int.toNat 8)) + (if v56 = 0 then (1 : Int) else (0 : Int)))) (qv Q) := by
              obtain ⟨p59, h⟩ := h
              refine k_iadd d_Validator_countTags_180 p59 ?_
              obtain ⟨p58, h⟩ := h
              refine k_ist d_Validator_countTags_181 rI_149 p58 ?_
              exact k_sb (sb_s (sb_s (sb_s (sb_s (sb_n (sb_n (sb_n sb_nil))))))) (hJ50 () _ h)
            have pa62 := pt61
            refine k_icne d_Validator_countTags_157 rfl (fun c63 => ?_) (fun c63 => ?_)
            · have hV68 := k_eqI (if_neg c63) hV60
              refine k_iconst d_Validator_countTags_179 cI_0 ?_
              exact hV68
            · have pa62 := pa62 c63
              have hV64 := k_eqI (if_pos c63) hV60
              have p57 := pa62
              refine k_aload_n d_Validator_countTags_160 rfl ?_
              refine k_getR d_Validator_countTags_161 fl_8_23 ob_8 rfl ?_
              refine k_getR d_Validator_countTags_164 fl_8_227 ob_4 rfl ?_
              refine k_iload d_Validator_countTags_167 rfl ?_
              refine k_ild (x := (σ55.2 120 (Int.toNat (σ11.2 135 (Int.toNat ((σ11.2 130 (Int.toNat s3)) + s10)))))) d_Validator_countTags_169 rI_120 p57 rfl ?_
              refine k_iload d_Validator_countTags_170 rfl ?_
              refine k_iceq d_Validator_countTags_172 rfl (fun c65 => ?_) (fun c65 => ?_)
              · have hV66 := k_eqI (if_pos c65) hV64
                refine k_iconst d_Validator_countTags_179 cI_0 ?_
                exact hV66
              · have hV67 := k_eqI (if_neg c65) hV64
                refine k_iconst d_Validator_countTags_175 cI_1 ?_
                refine k_goto d_Validator_countTags_176 rfl ?_
                exact hV67
          refine k_ifeq d_Validator_countTags_128 rfl (fun c74 => ?_) (fun c74 => ?_)
          · have hV75 := k_eqI (if_pos c74) hV73
            refine k_iconst d_Validator_countTags_135 cI_1 ?_
            exact hV75
          · have hV76 := k_eqI (if_neg c74) hV73
            refine k_iconst d_Validator_countTags_131 cI_0 ?_
            refine k_goto d_Validator_countTags_132 rfl ?_
            exact hV76
        · have h := ipos c54 h
          refine k_aload_n d_Validator_countTags_98 rfl ?_
          refine k_getR d_Validator_countTags_99 fl_8_39 ob_8 rfl ?_
          refine k_bipush d_Validator_countTags_102 cB_7 ?_
          refine k_dup2 d_Validator_countTags_104 ?_
          obtain ⟨p80, h⟩ := h
          refine k_ild (x := (σ11.2 149 (Int.toNat 7))) d_Validator_countTags_105 rI_149 p80 rfl ?_
          refine k_iconst d_Validator_countTags_106 cI_1 ?_
          obtain ⟨p79, h⟩ := h
          refine k_iadd d_Validator_countTags_107 p79 ?_
          obtain ⟨p78, h⟩ := h
          refine k_ist d_Validator_countTags_108 rI_149 p78 ?_
          refine k_goto d_Validator_countTags_109 rfl ?_
          exact k_sb (sb_s (sb_s (sb_s (sb_s (sb_n (sb_n (sb_n sb_nil))))))) (hJ50 () _ h)
theorem d_Validator_countIdentities_0 : decode b_Validator_countIdentities 0 = .ok (.aload_n 0, 1) := by decide +kernel
theorem d_Validator_countIdentities_1 : decode b_Validator_countIdentities 1 = .ok (.aload_n 0, 1) := by decide +kernel
theorem d_Validator_countIdentities_2 : decode b_Validator_countIdentities 2 = .ok (.getfield 9, 3) := by decide +kernel
theorem d_Validator_countIdentities_5 : decode b_Validator_countIdentities 5 = .ok (.invokevirtual 152, 3) := by decide +kernel
theorem d_Validator_countIdentities_8 : decode b_Validator_countIdentities 8 = .ok (.putfield 268, 3) := by decide +kernel
theorem d_Validator_countIdentities_11 : decode b_Validator_countIdentities 11 = .ok (.aload_n 0, 1) := by decide +kernel
theorem d_Validator_countIdentities_12 : decode b_Validator_countIdentities 12 = .ok (.getfield 68, 3) := by decide +kernel
theorem d_Validator_countIdentities_15 : decode b_Validator_countIdentities 15 = .ok (.iconst 0, 1) := by decide +kernel
theorem d_Validator_countIdentities_16 : decode b_Validator_countIdentities 16 = .ok (.aload_n 0, 1) := by decide +kernel
theorem d_Validator_countIdentities_17 : decode b_Validator_countIdentities 17 = .ok (.getfield 23, 3) := by decide +kernel
theorem d_Validator_countIdentities_20 : decode b_Validator_countIdentities 20 = .ok (.getfield 231, 3) := by decide +kernel
theorem d_Validator_countIdentities_23 : decode b_Validator_countIdentities 23 = .ok (.iconst 0, 1) := by decide +kernel
theorem d_Validator_countIdentities_24 : decode b_Validator_countIdentities 24 = .ok (.invokestatic 116, 3) := by decide +kernel
theorem d_Validator_countIdentities_27 : decode b_Validator_countIdentities 27 = .ok (.iconst 0, 1) := by decide +kernel
theorem d_Validator_countIdentities_28 : decode b_Validator_countIdentities 28 = .ok (.istore_n 1, 1) := by decide +kernel
theorem d_Validator_countIdentities_29 : decode b_Validator_countIdentities 29 = .ok (.iload_n 1, 1) := by decide +kernel
theorem d_Validator_countIdentities_30 : decode b_Validator_countIdentities 30 = .ok (.aload_n 0, 1) := by decide +kernel
theorem d_Validator_countIdentities_31 : decode b_Validator_countIdentities 31 = .ok (.getfield 31, 3) := by decide +kernel
theorem d_Validator_countIdentities_34 : decode b_Validator_countIdentities 34 = .ok (.getfield 113, 3) := by decide +kernel
theorem d_Validator_countIdentities_37 : decode b_Validator_countIdentities 37 = .ok (.if_icmp .ge 161, 3) := by decide +kernel
theorem d_Validator_countIdentities_40 : decode b_Validator_countIdentities 40 = .ok (.iconst 0, 1) := by decide +kernel
theorem d_Validator_countIdentities_41 : decode b_Validator_countIdentities 41 = .ok (.istore_n 2, 1) := by decide +kernel
theorem d_Validator_countIdentities_42 : decode b_Validator_countIdentities 42 = .ok (.iload_n 2, 1) := by decide +kernel
theorem d_Validator_countIdentities_43 : decode b_Validator_countIdentities 43 = .ok (.aload_n 0, 1) := by decide +kernel
theorem d_Validator_countIdentities_44 : decode b_Validator_countIdentities 44 = .ok (.getfield 31, 3) := by decide +kernel
theorem d_Validator_countIdentities_47 : decode b_Validator_countIdentities 47 = .ok (.getfield 271, 3) := by decide +kernel
theorem d_Validator_countIdentities_50 : decode b_Validator_countIdentities 50 = .ok (.iload_n 1, 1) := by decide +kernel
theorem d_Validator_countIdentities_51 : decode b_Validator_countIdentities 51 = .ok (.iaload, 1) := by decide +kernel
theorem d_Validator_countIdentities_52 : decode b_Validator_countIdentities 52 = .ok (.if_icmp .ge 140, 3) := by decide +kernel
theorem d_Validator_countIdentities_55 : decode b_Validator_countIdentities 55 = .ok (.aload_n 0, 1) := by decide +kernel
theorem d_Validator_countIdentities_56 : decode b_Validator_countIdentities 56 = .ok (.getfield 31, 3) := by decide +kernel
theorem d_Validator_countIdentities_59 : decode b_Validator_countIdentities 59 = .ok (.getfield 210, 3) := by decide +kernel
theorem d_Validator_countIdentities_62 : decode b_Validator_countIdentities 62 = .ok (.iload_n 1, 1) := by decide +kernel
theorem d_Validator_countIdentities_63 : decode b_Validator_countIdentities 63 = .ok (.iaload, 1) := by decide +kernel
theorem d_Validator_countIdentities_64 : decode b_Validator_countIdentities 64 = .ok (.iload_n 2, 1) := by decide +kernel
theorem d_Validator_countIdentities_65 : decode b_Validator_countIdentities 65 = .ok (.iadd, 1) := by decide +kernel
theorem d_Validator_countIdentities_66 : decode b_Validator_countIdentities 66 = .ok (.istore_n 3, 1) := by decide +kernel
theorem d_Validator_countIdentities_67 : decode b_Validator_countIdentities 67 = .ok (.aload_n 0, 1) := by decide +kernel
theorem d_Validator_countIdentities_68 : decode b_Validator_countIdentities 68 = .ok (.getfield 31, 3) := by decide +kernel
theorem d_Validator_countIdentities_71 : decode b_Validator_countIdentities 71 = .ok (.getfield 213, 3) := by decide +kernel
theorem d_Validator_countIdentities_74 : decode b_Validator_countIdentities 74 = .ok (.iload_n 3, 1) := by decide +kernel
theorem d_Validator_countIdentities_75 : decode b_Validator_countIdentities 75 = .ok (.iaload, 1) := by decide +kernel
theorem d_Validator_countIdentities_76 : decode b_Validator_countIdentities 76 = .ok (.istore 4, 2) := by decide +kernel
theorem d_Validator_countIdentities_78 : decode b_Validator_countIdentities 78 = .ok (.iload 4, 2) := by decide +kernel
theorem d_Validator_countIdentities_80 : decode b_Validator_countIdentities 80 = .ok (.iconst (-1), 1) := by decide +kernel
theorem d_Validator_countIdentities_81 : decode b_Validator_countIdentities 81 = .ok (.if_icmp .eq 75, 3) := by decide +kernel
theorem d_Validator_countIdentities_84 : decode b_Validator_countIdentities 84 = .ok (.aload_n 0, 1) := by decide +kernel
theorem d_Validator_countIdentities_85 : decode b_Validator_countIdentities 85 = .ok (.getfield 23, 3) := by decide +kernel
theorem d_Validator_countIdentities_88 : decode b_Validator_countIdentities 88 = .ok (.getfield 237, 3) := by decide +kernel
theorem d_Validator_countIdentities_91 : decode b_Validator_countIdentities 91 = .ok (.iload 4, 2) := by decide +kernel
theorem d_Validator_countIdentities_93 : decode b_Validator_countIdentities 93 = .ok (.iaload, 1) := by decide +kernel
theorem d_Validator_countIdentities_94 : decode b_Validator_countIdentities 94 = .ok (.bipush 11, 2) := by decide +kernel
theorem d_Validator_countIdentities_96 : decode b_Validator_countIdentities 96 = .ok (.if_icmp .ne 60, 3) := by decide +kernel
theorem d_Validator_countIdentities_99 : decode b_Validator_countIdentities 99 = .ok (.aload_n 0, 1) := by decide +kernel
theorem d_Validator_countIdentities_100 : decode b_Validator_countIdentities 100 = .ok (.getfield 31, 3) := by decide +kernel
theorem d_Validator_countIdentities_103 : decode b_Validator_countIdentities 103 = .ok (.getfield 216, 3) := by decide +kernel
theorem d_Validator_countIdentities_106 : decode b_Validator_countIdentities 106 = .ok (.iload_n 3, 1) := by decide +kernel
theorem d_Validator_countIdentities_107 : decode b_Validator_countIdentities 107 = .ok (.iaload, 1) := by decide +kernel
theorem d_Validator_countIdentities_108 : decode b_Validator_countIdentities 108 = .ok (.istore 5, 2) := by decide +kernel
theorem d_Validator_countIdentities_110 : decode b_Validator_countIdentities 110 = .ok (.aload_n 0, 1) := by decide +kernel
theorem d_Validator_countIdentities_111 : decode b_Validator_countIdentities 111 = .ok (.getfield 39, 3) := by decide +kernel
theorem d_Validator_countIdentities_114 : decode b_Validator_countIdentities 114 = .ok (.bipush 11, 2) := by decide +kernel
theorem d_Validator_countIdentities_116 : decode b_Validator_countIdentities 116 = .ok (.dup2, 1) := by decide +kernel
theorem d_Validator_countIdentities_117 : decode b_Validator_countIdentities 117 = .ok (.iaload, 1) := by decide +kernel
theorem d_Validator_countIdentities_118 : decode b_Validator_countIdentities 118 = .ok (.aload_n 0, 1) := by decide +kernel
theorem d_Validator_countIdentities_119 : decode b_Validator_countIdentities 119 = .ok (.getfield 9, 3) := by decide +kernel
theorem d_Validator_countIdentities_122 : decode b_Validator_countIdentities 122 = .ok (.getfield 191, 3) := by decide +kernel
theorem d_Validator_countIdentities_125 : decode b_Validator_countIdentities 125 = .ok (.iload 5, 2) := by decide +kernel
theorem d_Validator_countIdentities_127 : decode b_Validator_countIdentities 127 = .ok (.iaload, 1) := by decide +kernel
theorem d_Validator_countIdentities_128 : decode b_Validator_countIdentities 128 = .ok (.aload_n 0, 1) := by decide +kernel
theorem d_Validator_countIdentities_129 : decode b_Validator_countIdentities 129 = .ok (.getfield 268, 3) := by decide +kernel
theorem d_Validator_countIdentities_132 : decode b_Validator_countIdentities 132 = .ok (.if_icmp .ne 7, 3) := by decide +kernel
theorem d_Validator_countIdentities_135 : decode b_Validator_countIdentities 135 = .ok (.iconst 1, 1) := by decide +kernel
theorem d_Validator_countIdentities_136 : decode b_Validator_countIdentities 136 = .ok (.goto 4, 3) := by decide +kernel
theorem d_Validator_countIdentities_139 : decode b_Validator_countIdentities 139 = .ok (.iconst 0, 1) := by decide +kernel
theorem d_Validator_countIdentities_140 : decode b_Validator_countIdentities 140 = .ok (.iadd, 1) := by decide +kernel
theorem d_Validator_countIdentities_141 : decode b_Validator_countIdentities 141 = .ok (.iastore, 1) := by decide +kernel
theorem d_Validator_countIdentities_142 : decode b_Validator_countIdentities 142 = .ok (.aload_n 0, 1) := by decide +kernel
theorem d_Validator_countIdentities_143 : decode b_Validator_countIdentities 143 = .ok (.getfield 9, 3) := by decide +kernel
theorem d_Validator_countIdentities_146 : decode b_Validator_countIdentities 146 = .ok (.getfield 191, 3) := by decide +kernel
theorem d_Validator_countIdentities_149 : decode b_Validator_countIdentities 149 = .ok (.iload 5, 2) := by decide +kernel
theorem d_Validator_countIdentities_151 : decode b_Validator_countIdentities 151 = .ok (.aload_n 0, 1) := by decide +kernel
theorem d_Validator_countIdentities_152 : decode b_Validator_countIdentities 152 = .ok (.getfield 268, 3) := by decide +kernel
theorem d_Validator_countIdentities_155 : decode b_Validator_countIdentities 155 = .ok (.iastore, 1) := by decide +kernel
theorem d_Validator_countIdentities_156 : decode b_Validator_countIdentities 156 = .ok (.iload 4, 2) := by decide +kernel
theorem d_Validator_countIdentities_158 : decode b_Validator_countIdentities 158 = .ok (.iconst (-1), 1) := by decide +kernel
theorem d_Validator_countIdentities_159 : decode b_Validator_countIdentities 159 = .ok (.if_icmp .eq 27, 3) := by decide +kernel
theorem d_Validator_countIdentities_162 : decode b_Validator_countIdentities 162 = .ok (.iload_n 2, 1) := by decide +kernel
theorem d_Validator_countIdentities_163 : decode b_Validator_countIdentities 163 = .ok (.aload_n 0, 1) := by decide +kernel
theorem d_Validator_countIdentities_164 : decode b_Validator_countIdentities 164 = .ok (.getfield 31, 3) := by decide +kernel
theorem d_Validator_countIdentities_167 : decode b_Validator_countIdentities 167 = .ok (.getfield 207, 3) := by decide +kernel
theorem d_Validator_countIdentities_170 : decode b_Validator_countIdentities 170 = .ok (.iload_n 1, 1) := by decide +kernel
theorem d_Validator_countIdentities_171 : decode b_Validator_countIdentities 171 = .ok (.iaload, 1) := by decide +kernel
theorem d_Validator_countIdentities_172 : decode b_Validator_countIdentities 172 = .ok (.if_icmp .lt 14, 3) := by decide +kernel
theorem d_Validator_countIdentities_175 : decode b_Validator_countIdentities 175 = .ok (.aload_n 0, 1) := by decide +kernel
theorem d_Validator_countIdentities_176 : decode b_Validator_countIdentities 176 = .ok (.getfield 68, 3) := by decide +kernel
theorem d_Validator_countIdentities_179 : decode b_Validator_countIdentities 179 = .ok (.iload 4, 2) := by decide +kernel
theorem d_Validator_countIdentities_181 : decode b_Validator_countIdentities 181 = .ok (.dup2, 1) := by decide +kernel
theorem d_Validator_countIdentities_182 : decode b_Validator_countIdentities 182 = .ok (.iaload, 1) := by decide +kernel
theorem d_Validator_countIdentities_183 : decode b_Validator_countIdentities 183 = .ok (.iconst 1, 1) := by decide +kernel
theorem d_Validator_countIdentities_184 : decode b_Validator_countIdentities 184 = .ok (.iadd, 1) := by decide +kernel
theorem d_Validator_countIdentities_185 : decode b_Validator_countIdentities 185 = .ok (.iastore, 1) := by decide +kernel
theorem d_Validator_countIdentities_186 : decode b_Validator_countIdentities 186 = .ok (.iinc 2 1, 3) := by decide +kernel
theorem d_Validator_countIdentities_189 : decode b_Validator_countIdentities 189 = .ok (.goto (-147), 3) := by decide +kernel
theorem d_Validator_countIdentities_192 : decode b_Validator_countIdentities 192 = .ok (.iinc 1 1, 3) := by decide +kernel
theorem d_Validator_countIdentities_195 : decode b_Validator_countIdentities 195 = .ok (.goto (-166), 3) := by decide +kernel
theorem d_Validator_countIdentities_198 : decode b_Validator_countIdentities 198 = .ok (.return_, 1) := by decide +kernel
/-- Validator_countIdentities -/
def w_Validator_countIdentities (L : Nat → Nat)  (Q : IS → Prop) (σ : IS) : Prop := w_Store_newMark L  (fun v2 σ1 => ((0 : Int) ≤ (0 : Int) ∧ (0 : Int) ≤ (σ1.1 4 12) ∧ (σ1.1 4 12) ≤ ((L 154 : Nat) : Int)) ∧ WL (fun (K3 : Int → IS → Prop) (s5 : Int) (σ6 : IS) => if s5 < (σ6.1 6 2) then WL (fun (K8 : Int → IS → Prop) (s10 : Int) (σ11 : IS) => inL L 131 s5 ∧ if s10 < (σ11.2 131 (Int.toNat s5)) then inL L 130 s5 ∧ inR ((σ11.2 130 (Int.toNat s5)) + s10) ∧ inL L 135 ((σ11.2 130 (Int.toNat s5)) + s10) ∧ WJ (fun (s16 : Unit) (σ17 : IS) => WJ (fun (s20 : Unit) (σ21 : IS) => inR (s10 + 1) ∧ K8 (s10 + 1) σ21) (fun J18 => ((¬ (σ11.2 135 (Int.toNat ((σ11.2 130 (Int.toNat s5)) + s10))) = (-1) → inL L 132 s5)) ∧ if ¬ (σ11.2 135 (Int.toNat ((σ11.2 130 (Int.toNat s5)) + s10))) = (-1) ∧ (¬ s10 < (σ17.2 132 (Int.toNat s5))) then inL L 154 (σ11.2 135 (Int.toNat ((σ11.2 130 (Int.toNat s5)) + s10))) ∧ inR ((σ17.2 154 (Int.toNat (σ11.2 135 (Int.toNat ((σ11.2 130 (Int.toNat s5)) + s10))))) + 1) ∧ inL L 154 (σ11.2 135 (Int.toNat ((σ11.2 130 (Int.toNat s5)) + s10))) ∧ J18 () (pr σ17 154 (Int.toNat (σ11.2 135 (Int.toNat ((σ11.2 130 (Int.toNat s5)) + s10)))) ((σ17.2 154 (Int.toNat (σ11.2 135 (Int.toNat ((σ11.2 130 (Int.toNat s5)) + s10))))) + 1)) else J18 () σ17)) (fun J14 => ((¬ (σ11.2 135 (Int.toNat ((σ11.2 130 (Int.toNat s5)) + s10))) = (-1) → inL L 118 (σ11.2 135 (Int.toNat ((σ11.2 130 (Int.toNat s5)) + s10))))) ∧ if ¬ (σ11.2 135 (Int.toNat ((σ11.2 130 (Int.toNat s5)) + s10))) = (-1) ∧ ((σ11.2 118 (Int.toNat (σ11.2 135 (Int.toNat ((σ11.2 130 (Int.toNat s5)) + s10))))) = 11) then inL L 134 ((σ11.2 130 (Int.toNat s5)) + s10) ∧ inL L 149 11 ∧ inL L 155 (σ11.2 134 (Int.toNat ((σ11.2 130 (Int.toNat s5)) + s10))) ∧ inR ((σ11.2 149 (Int.toNat 11)) + (if (σ11.2 155 (Int.toNat (σ11.2 134 (Int.toNat ((σ11.2 130 (Int.toNat s5)) + s10))))) = (σ11.1 8 13) then (1 : Int) else (0 : Int))) ∧ inL L 149 11 ∧ inL L 155 (σ11.2 134 (Int.toNat ((σ11.2 130 (Int.toNat s5)) + s10))) ∧ J14 () (pr (pr σ11 149 (Int.toNat 11) ((σ11.2 149 (Int.toNat 11)) + (if (σ11.2 155 (Int.toNat (σ11.2 134 (Int.toNat ((σ11.2 130 (Int.toNat s5)) + s10))))) = (σ11.1 8 13) then (1 : Int) else (0 : Int)))) 155 (Int.toNat (σ11.2 134 (Int.toNat ((σ11.2 130 (Int.toNat s5)) + s10)))) (σ11.1 8 13)) else J14 () σ11) else inR (s5 + 1) ∧ K3 (s5 + 1) σ11) 0 σ6 else Q σ6) 0 (fl (pf σ1 8 13 v2) 154 (Int.toNat (0 : Int)) (Int.toNat (σ1.1 4 12)) 0)) σ
set_option maxHeartbeats 4000000 in
set_option maxRecDepth 20000 in
theorem s_Validator_countIdentities {L : Nat → Nat} (hL : ∀ r, L r < 2147483648) {d : Nat} (hd : 1 ≤ d)  {Q : IS → Prop} {σ : IS}  (h : w_Validator_countIdentities L  Q σ) : OkI BF L d 8 b_Validator_countIdentities 6 0 0 [] [some (.inr 8)] σ (qv Q) := by
  unfold w_Validator_countIdentities at h
  obtain ⟨d, rfl⟩ : ∃ e, d = e + 1 := ⟨d - 1, by omega⟩
  refine k_sb (lv' := [some (.inr 8), none, none, none, none, none]) (sb_s (sb_e (sb_e (sb_e (sb_e (sb_e sb_nil)))))) ?_
  refine k_aload_n d_Validator_countIdentities_0 rfl ?_
  refine k_aload_n d_Validator_countIdentities_1 rfl ?_
  refine k_getR d_Validator_countIdentities_2 fl_8_9 ob_8 rfl ?_
  refine k_cvi [] d_Validator_countIdentities_5 ml_8_152 rfl rfl ob_1 rfl (s_Store_newMark hL (by omega)  h) (fun v2 σ1 h => ?_)
  refine k_putI d_Validator_countIdentities_8 fl_8_268 ob_8 rfl ?_
  refine k_aload_n d_Validator_countIdentities_11 rfl ?_
  refine k_getR d_Validator_countIdentities_12 fl_8_68 ob_8 rfl ?_
  refine k_iconst d_Validator_countIdentities_15 cI_0 ?_
  refine k_aload_n d_Validator_countIdentities_16 rfl ?_
  refine k_getR d_Validator_countIdentities_17 fl_8_23 ob_8 rfl ?_
  refine k_getI (x := (σ1.1 4 12)) d_Validator_countIdentities_20 fl_8_231 ob_4 rfl rfl ?_
  refine k_iconst d_Validator_countIdentities_23 cI_0 ?_
  obtain ⟨p56, h⟩ := h
  refine k_fillr d_Validator_countIdentities_24 ml_8_116 rI_154 p56 rfl ?_
  refine k_iconst d_Validator_countIdentities_27 cI_0 ?_
  refine k_istore_n (lv' := [some (.inr 8), some (.inl 0), none, none, none, none]) d_Validator_countIdentities_28 rfl rfl ?_
  refine k_sb (lv' := [some (.inr 8), some (.inl 0), none, none, none, none]) (sb_s (sb_s (sb_s (sb_s (sb_s (sb_s sb_nil)))))) ?_
  refine k_loop (S := Int) (st := fun _ => []) (lv := fun s5 => [some (.inr 8), some (.inl s5), none, none, none, none]) (fun K3 hK4 s5 σ6 h => ?_) 0 _ h
  refine k_iload_n d_Validator_countIdentities_29 rfl ?_
  refine k_aload_n d_Validator_countIdentities_30 rfl ?_
  refine k_getR d_Validator_countIdentities_31 fl_8_31 ob_8 rfl ?_
  refine k_getI (x := (σ6.1 6 2)) d_Validator_countIdentities_34 fl_8_113 ob_6 rfl rfl ?_
  refine k_icge d_Validator_countIdentities_37 rfl (fun c7 => ?_) (fun c7 => ?_)
  · have h := ineg c7 h
    exact k_ret d_Validator_countIdentities_198 h
  · have h := ipos c7 h
    refine k_iconst d_Validator_countIdentities_40 cI_0 ?_
    refine k_istore_n (lv' := [some (.inr 8), some (.inl s5), some (.inl 0), none, none, none]) d_Validator_countIdentities_41 rfl rfl ?_
    refine k_sb (lv' := [some (.inr 8), some (.inl s5), some (.inl 0), none, none, none]) (sb_s (sb_s (sb_s (sb_s (sb_s (sb_s sb_nil)))))) ?_
    refine k_loop (S := Int) (st := fun _ => []) (lv := fun s10 => [some (.inr 8), some (.inl s5), some (.inl s10), none, none, none]) (fun K8 hK9 s10 σ11 h => ?_) 0 _ h
    refine k_iload_n d_Validator_countIdentities_42 rfl ?_
    refine k_aload_n d_Validator_countIdentities_43 rfl ?_
    refine k_getR d_Validator_countIdentities_44 fl_8_31 ob_8 rfl ?_
    refine k_getR d_Validator_countIdentities_47 fl_8_271 ob_6 rfl ?_
    refine k_iload_n d_Validator_countIdentities_50 rfl ?_
    obtain ⟨p55, h⟩ := h
    refine k_ild (x := (σ11.2 131 (Int.toNat s5))) d_Validator_countIdentities_51 rI_131 p55 rfl ?_
    refine k_icge d_Validator_countIdentities_52 rfl (fun c12 => ?_) (fun c12 => ?_)
    · have h := ineg c12 h
      obtain ⟨p13, h⟩ := h
      refine k_iinc (lv' := [some (.inr 8), some (.inl (s5 + 1)), some (.inl s10), none, none, none]) d_Validator_countIdentities_192 cI_1 rfl rfl p13 rfl ?_
      refine k_goto d_Validator_countIdentities_195 rfl ?_
      exact k_sb (sb_s (sb_s (sb_n (sb_s (sb_s (sb_s sb_nil)))))) (hK4 (s5 + 1) _ h)
    · have h := ipos c12 h
      refine k_aload_n d_Validator_countIdentities_55 rfl ?_
      refine k_getR d_Validator_countIdentities_56 fl_8_31 ob_8 rfl ?_
      refine k_getR d_Validator_countIdentities_59 fl_8_210 ob_6 rfl ?_
      refine k_iload_n d_Validator_countIdentities_62 rfl ?_
      obtain ⟨p54, h⟩ := h
      refine k_ild (x := (σ11.2 130 (Int.toNat s5))) d_Validator_countIdentities_63 rI_130 p54 rfl ?_
      refine k_iload_n d_Validator_countIdentities_64 rfl ?_
      obtain ⟨p53, h⟩ := h
      refine k_iadd d_Validator_countIdentities_65 p53 ?_
      refine k_istore_n (lv' := [some (.inr 8), some (.inl s5), some (.inl s10), some (.inl ((σ11.2 130 (Int.toNat s5)) + s10)), none, none]) d_Validator_countIdentities_66 rfl rfl ?_
      refine k_aload_n d_Validator_countIdentities_67 rfl ?_
      refine k_getR d_Validator_countIdentities_68 fl_8_31 ob_8 rfl ?_
      refine k_getR d_Validator_countIdentities_71 fl_8_213 ob_6 rfl ?_
      refine k_iload_n d_Validator_countIdentities_74 rfl ?_
      obtain ⟨p52, h⟩ := h
      refine k_ild (x := (σ11.2 135 (Int.toNat ((σ11.2 130 (Int.toNat s5)) + s10)))) d_Validator_countIdentities_75 rI_135 p52 rfl ?_
      refine k_istore (lv' := [some (.inr 8), some (.inl s5), some (.inl s10), some (.inl ((σ11.2 130 (Int.toNat s5)) + s10)), some (.inl (σ11.2 135 (Int.toNat ((σ11.2 130 (Int.toNat s5)) + s10)))), none]) d_Validator_countIdentities_76 rfl rfl ?_
      refine k_iload d_Validator_countIdentities_78 rfl ?_
      refine k_iconst d_Validator_countIdentities_80 cI_m1 ?_
      refine k_join (S := Unit) (pc' := 156) (st' := fun s16 => []) (lv' := fun s16 => [some (.inr 8), some (.inl s5), some (.inl s10), none, some (.inl (σ11.2 135 (Int.toNat ((σ11.2 130 (Int.toNat s5)) + s10)))), none]) (fun s16 σ17 h => ?_) (fun J14 hJ15 h => ?_) h
      · refine k_iload d_Validator_countIdentities_156 rfl ?_
        refine k_iconst d_Validator_countIdentities_158 cI_m1 ?_
        refine k_join (S := Unit) (pc' := 186) (st' := fun s20 => []) (lv' := fun s20 => [some (.inr 8), some (.inl s5), some (.inl s10), none, none, none]) (fun s20 σ21 h => ?_) (fun J18 hJ19 h => ?_) h
        · obtain ⟨p22, h⟩ := h
          refine k_iinc (lv' := [some (.inr 8), some (.inl s5), some (.inl (s10 + 1)), none, none, none]) d_Validator_countIdentities_186 cI_1 rfl rfl p22 rfl ?_
          refine k_goto d_Validator_countIdentities_189 rfl ?_
          exact k_sb (sb_s (sb_s (sb_s (sb_s (sb_s (sb_s sb_nil)))))) (hK9 (s10 + 1) _ h)
        · obtain ⟨pt30, h⟩ := h
          have hX27 : (¬ (σ11.2 135 (Int.toNat ((σ11.2 130 (Int.toNat s5)) + s10))) = (-1) ∧ (¬ s10 < (σ17.2 132 (Int.toNat s5)))) → OkI BF L (d + 1) 8 b_Validator_countIdentities 6 0 175 [] [some (.inr 8), some (.inl s5), some (.inl s10), none, some (.inl (σ11.2 135 (Int.toNat ((σ11.2 130 (Int.toNat s5)) + s10)))), none] σ17 (qv Q) := fun e29 => by
            have h := ipos e29 h
            refine k_aload_n d_Validator_countIdentities_175 rfl ?_
            refine k_getR d_Validator_countIdentities_176 fl_8_68 ob_8 rfl ?_
            refine k_iload d_Validator_countIdentities_179 rfl ?_
            refine k_dup2 d_Validator_countIdentities_181 ?_
            obtain ⟨p26, h⟩ := h
            refine k_ild (x := (σ17.2 154 (Int.toNat (σ11.2 135 (Int.toNat ((σ11.2 130 (Int.toNat s5)) + s10)))))) d_Validator_countIdentities_182 rI_154 p26 rfl ?_
            refine k_iconst d_Validator_countIdentities_183 cI_1 ?_
            obtain ⟨p25, h⟩ := h
            refine k_iadd d_Validator_countIdentities_184 p25 ?_
            obtain ⟨p24, h⟩ := h
            refine k_ist d_Validator_countIdentities_185 rI_154 p24 ?_
            exact k_sb (sb_s (sb_s (sb_s (sb_s (sb_n (sb_s sb_nil)))))) (hJ19 () _ h)
          have hY28 : ¬ (¬ (σ11.2 135 (Int.toNat ((σ11.2 130 (Int.toNat s5)) + s10))) = (-1) ∧ (¬ s10 < (σ17.2 132 (Int.toNat s5)))) → OkI BF L (d + 1) 8 b_Validator_countIdentities 6 0 186 [] [some (.inr 8), some (.inl s5), some (.inl s10), none, some (.inl (σ11.2 135 (Int.toNat ((σ11.2 130 (Int.toNat s5)) + s10)))), none] σ17 (qv Q) := fun e29 => by
            have h := ineg e29 h
            exact k_sb (sb_s (sb_s (sb_s (sb_s (sb_n (sb_s sb_nil)))))) (hJ19 () _ h)
          have pb31 := pt30
          refine k_iceq d_Validator_countIdentities_159 rfl (fun c32 => ?_) (fun c32 => ?_)
          · exact hY28 (fun z => z.1 c32)
          · have pb31 := pb31 c32
            have p23 := pb31
            refine k_iload_n d_Validator_countIdentities_162 rfl ?_
            refine k_aload_n d_Validator_countIdentities_163 rfl ?_
            refine k_getR d_Validator_countIdentities_164 fl_8_31 ob_8 rfl ?_
            refine k_getR d_Validator_countIdentities_167 fl_8_207 ob_6 rfl ?_
            refine k_iload_n d_Validator_countIdentities_170 rfl ?_
            refine k_ild (x := (σ17.2 132 (Int.toNat s5))) d_Validator_countIdentities_171 rI_132 p23 rfl ?_
            refine k_iclt d_Validator_countIdentities_172 rfl (fun c33 => ?_) (fun c33 => ?_)
            · exact hY28 (fun z => (fun z => z c33) z.2)
            · exact hX27 (⟨c32, c33⟩)
      · obtain ⟨pt48, h⟩ := h
        have hX45 : (¬ (σ11.2 135 (Int.toNat ((σ11.2 130 (Int.toNat s5)) + s10))) = (-1) ∧ ((σ11.2 118 (Int.toNat (σ11.2 135 (Int.toNat ((σ11.2 130 (Int.toNat s5)) + s10))))) = 11)) → OkI BF L (d + 1) 8 b_Validator_countIdentities 6 0 99 [] [some (.inr 8), some (.inl s5), some (.inl s10), some (.inl ((σ11.2 130 (Int.toNat s5)) + s10)), some (.inl (σ11.2 135 (Int.toNat ((σ11.2 130 (Int.toNat s5)) + s10)))), none] σ11 (qv Q) := fun e47 => by
          have h := ipos e47 h
          refine k_aload_n d_Validator_countIdentities_99 rfl ?_
          refine k_getR d_Validator_countIdentities_100 fl_8_31 ob_8 rfl ?_
          refine k_getR d_Validator_countIdentities_103 fl_8_216 ob_6 rfl ?_
          refine k_iload_n d_Validator_countIdentities_106 rfl ?_
          obtain ⟨p44, h⟩ := h
          refine k_ild (x := (σ11.2 134 (Int.toNat ((σ11.2 130 (Int.toNat s5)) + s10)))) d_Validator_countIdentities_107 rI_134 p44 rfl ?_
          refine k_istore (lv' := [some (.inr 8), some (.inl s5), some (.inl s10), some (.inl ((σ11.2 130 (Int.toNat s5)) + s10)), some (.inl (σ11.2 135 (Int.toNat ((σ11.2 130 (Int.toNat s5)) + s10)))), some (.inl (σ11.2 134 (Int.toNat ((σ11.2 130 (Int.toNat s5)) + s10))))]) d_Validator_countIdentities_108 rfl rfl ?_
          refine k_aload_n d_Validator_countIdentities_110 rfl ?_
          refine k_getR d_Validator_countIdentities_111 fl_8_39 ob_8 rfl ?_
          refine k_bipush d_Validator_countIdentities_114 cB_11 ?_
          refine k_dup2 d_Validator_countIdentities_116 ?_
          obtain ⟨p43, h⟩ := h
          refine k_ild (x := (σ11.2 149 (Int.toNat 11))) d_Validator_countIdentities_117 rI_149 p43 rfl ?_
          refine k_aload_n d_Validator_countIdentities_118 rfl ?_
          refine k_getR d_Validator_countIdentities_119 fl_8_9 ob_8 rfl ?_
          refine k_getR d_Validator_countIdentities_122 fl_8_191 ob_1 rfl ?_
          refine k_iload d_Validator_countIdentities_125 rfl ?_
          obtain ⟨p42, h⟩ := h
          refine k_ild (x := (σ11.2 155 (Int.toNat (σ11.2 134 (Int.toNat ((σ11.2 130 (Int.toNat s5)) + s10)))))) d_Validator_countIdentities_127 rI_155 p42 rfl ?_
          refine k_aload_n d_Validator_countIdentities_128 rfl ?_
          refine k_getI (x := (σ11.1 8 13)) d_Validator_countIdentities_129 fl_8_268 ob_8 rfl rfl ?_
          have hV38 : OkI BF L (d + 1) 8 b_Validator_countIdentities 6 0 140 [.inl (if (σ11.2 155 (Int.toNat (σ11.2 134 (Int.toNat ((σ11.2 130 (Int.toNat s5)) + s10))))) = (σ11.1 8 13) then (1 : Int) else (0 : Int)), .inl (σ11.2 149 (Int.toNat 11)), .inl 11, .inr 149] [some (.inr 8), some (.inl s5), some (.inl s10), some (.inl ((σ11.2 130 (Int.toNat s5)) + s10)), some (.inl (σ11.2 135 (Int.toNat ((σ11.2 130 (Int.toNat s5)) + s10)))), some (.inl (σ11.2 134 (Int.toNat ((σ11.2 130 (Int.toNat s5)) + s10))))] σ11 (qv Q) := by
            obtain ⟨p37, h⟩ := h
            refine k_iadd d_Validator_countIdentities_140 p37 ?_
            obtain ⟨p36, h⟩ := h
            refine k_ist d_Validator_countIdentities_141 rI_149 p36 ?_
            refine k_aload_n d_Validator_countIdentities_142 rfl ?_
            refine k_getR d_Validator_countIdentities_143 fl_8_9 ob_8 rfl ?_
            refine k_getR d_Validator_countIdentities_146 fl_8_191 ob_1 rfl ?_
            refine k_iload d_Validator_countIdentities_149 rfl ?_
            refine k_aload_n d_Validator_countIdentities_151 rfl ?_
            refine k_getI (x := (σ11.1 8 13)) d_Validator_countIdentities_152 fl_8_268 ob_8 rfl rfl ?_
            obtain ⟨p35, h⟩ := h
            refine k_ist d_Validator_countIdentities_155 rI_155 p35 ?_
            exact k_sb (sb_s (sb_s (sb_s (sb_n (sb_s (sb_n sb_nil)))))) (hJ15 () _ h)
          refine k_icne d_Validator_countIdentities_132 rfl (fun c39 => ?_) (fun c39 => ?_)
          · have hV41 := k_eqI (if_neg c39) hV38
            refine k_iconst d_Validator_countIdentities_139 cI_0 ?_
            exact hV41
          · have hV40 := k_eqI (if_pos c39) hV38
            refine k_iconst d_Validator_countIdentities_135 cI_1 ?_
            refine k_goto d_Validator_countIdentities_136 rfl ?_
            exact hV40
        have hY46 : ¬ (¬ (σ11.2 135 (Int.toNat ((σ11.2 130 (Int.toNat s5)) + s10))) = (-1) ∧ ((σ11.2 118 (Int.toNat (σ11.2 135 (Int.toNat ((σ11.2 130 (Int.toNat s5)) + s10))))) = 11)) → OkI BF L (d + 1) 8 b_Validator_countIdentities 6 0 156 [] [some (.inr 8), some (.inl s5), some (.inl s10), some (.inl ((σ11.2 130 (Int.toNat s5)) + s10)), some (.inl (σ11.2 135 (Int.toNat ((σ11.2 130 (Int.toNat s5)) + s10)))), none] σ11 (qv Q) := fun e47 => by
          have h := ineg e47 h
          exact k_sb (sb_s (sb_s (sb_s (sb_n (sb_s (sb_s sb_nil)))))) (hJ15 () _ h)
        have pb49 := pt48
        refine k_iceq d_Validator_countIdentities_81 rfl (fun c50 => ?_) (fun c50 => ?_)
        · exact hY46 (fun z => z.1 c50)
        · have pb49 := pb49 c50
          have p34 := pb49
          refine k_aload_n d_Validator_countIdentities_84 rfl ?_
          refine k_getR d_Validator_countIdentities_85 fl_8_23 ob_8 rfl ?_
          refine k_getR d_Validator_countIdentities_88 fl_8_237 ob_4 rfl ?_
          refine k_iload d_Validator_countIdentities_91 rfl ?_
          refine k_ild (x := (σ11.2 118 (Int.toNat (σ11.2 135 (Int.toNat ((σ11.2 130 (Int.toNat s5)) + s10)))))) d_Validator_countIdentities_93 rI_118 p34 rfl ?_
          refine k_bipush d_Validator_countIdentities_94 cB_11 ?_
          refine k_icne d_Validator_countIdentities_96 rfl (fun c51 => ?_) (fun c51 => ?_)
          · exact hY46 (fun z => (c51) z.2)
          · exact hX45 (⟨c50, c51⟩)
theorem d_Validator_countWords_0 : decode b_Validator_countWords 0 = .ok (.iload_n 2, 1) := by decide +kernel
theorem d_Validator_countWords_1 : decode b_Validator_countWords 1 = .ok (.bipush 12, 2) := by decide +kernel
theorem d_Validator_countWords_3 : decode b_Validator_countWords 3 = .ok (.if_icmp .eq 9, 3) := by decide +kernel
theorem d_Validator_countWords_6 : decode b_Validator_countWords 6 = .ok (.iload_n 2, 1) := by decide +kernel
theorem d_Validator_countWords_7 : decode b_Validator_countWords 7 = .ok (.bipush 13, 2) := by decide +kernel
theorem d_Validator_countWords_9 : decode b_Validator_countWords 9 = .ok (.if_icmp .ne 7, 3) := by decide +kernel
theorem d_Validator_countWords_12 : decode b_Validator_countWords 12 = .ok (.iconst 1, 1) := by decide +kernel
theorem d_Validator_countWords_13 : decode b_Validator_countWords 13 = .ok (.goto 4, 3) := by decide +kernel
theorem d_Validator_countWords_16 : decode b_Validator_countWords 16 = .ok (.iconst 0, 1) := by decide +kernel
theorem d_Validator_countWords_17 : decode b_Validator_countWords 17 = .ok (.istore 4, 2) := by decide +kernel
theorem d_Validator_countWords_19 : decode b_Validator_countWords 19 = .ok (.iload_n 2, 1) := by decide +kernel
theorem d_Validator_countWords_20 : decode b_Validator_countWords 20 = .ok (.bipush 14, 2) := by decide +kernel
theorem d_Validator_countWords_22 : decode b_Validator_countWords 22 = .ok (.if_icmp .eq 9, 3) := by decide +kernel
theorem d_Validator_countWords_25 : decode b_Validator_countWords 25 = .ok (.iload_n 2, 1) := by decide +kernel
theorem d_Validator_countWords_26 : decode b_Validator_countWords 26 = .ok (.bipush 15, 2) := by decide +kernel
theorem d_Validator_countWords_28 : decode b_Validator_countWords 28 = .ok (.if_icmp .ne 7, 3) := by decide +kernel
theorem d_Validator_countWords_31 : decode b_Validator_countWords 31 = .ok (.iconst 1, 1) := by decide +kernel
theorem d_Validator_countWords_32 : decode b_Validator_countWords 32 = .ok (.goto 4, 3) := by decide +kernel
theorem d_Validator_countWords_35 : decode b_Validator_countWords 35 = .ok (.iconst 0, 1) := by decide +kernel
theorem d_Validator_countWords_36 : decode b_Validator_countWords 36 = .ok (.istore 5, 2) := by decide +kernel
theorem d_Validator_countWords_38 : decode b_Validator_countWords 38 = .ok (.iload 4, 2) := by decide +kernel
theorem d_Validator_countWords_40 : decode b_Validator_countWords 40 = .ok (.ifCond .ne 9, 3) := by decide +kernel
theorem d_Validator_countWords_43 : decode b_Validator_countWords 43 = .ok (.iload 5, 2) := by decide +kernel
theorem d_Validator_countWords_45 : decode b_Validator_countWords 45 = .ok (.ifCond .ne 4, 3) := by decide +kernel
theorem d_Validator_countWords_48 : decode b_Validator_countWords 48 = .ok (.return_, 1) := by decide +kernel
theorem d_Validator_countWords_49 : decode b_Validator_countWords 49 = .ok (.aload_n 0, 1) := by decide +kernel
theorem d_Validator_countWords_50 : decode b_Validator_countWords 50 = .ok (.getfield 9, 3) := by decide +kernel
theorem d_Validator_countWords_53 : decode b_Validator_countWords 53 = .ok (.getfield 278, 3) := by decide +kernel
theorem d_Validator_countWords_56 : decode b_Validator_countWords 56 = .ok (.iload_n 1, 1) := by decide +kernel
theorem d_Validator_countWords_57 : decode b_Validator_countWords 57 = .ok (.iaload, 1) := by decide +kernel
theorem d_Validator_countWords_58 : decode b_Validator_countWords 58 = .ok (.aload_n 0, 1) := by decide +kernel
theorem d_Validator_countWords_59 : decode b_Validator_countWords 59 = .ok (.getfield 9, 3) := by decide +kernel
theorem d_Validator_countWords_62 : decode b_Validator_countWords 62 = .ok (.getfield 256, 3) := by decide +kernel
theorem d_Validator_countWords_65 : decode b_Validator_countWords 65 = .ok (.iload_n 1, 1) := by decide +kernel
theorem d_Validator_countWords_66 : decode b_Validator_countWords 66 = .ok (.iaload, 1) := by decide +kernel
theorem d_Validator_countWords_67 : decode b_Validator_countWords 67 = .ok (.iadd, 1) := by decide +kernel
theorem d_Validator_countWords_68 : decode b_Validator_countWords 68 = .ok (.istore 6, 2) := by decide +kernel
theorem d_Validator_countWords_70 : decode b_Validator_countWords 70 = .ok (.aload_n 0, 1) := by decide +kernel
theorem d_Validator_countWords_71 : decode b_Validator_countWords 71 = .ok (.getfield 9, 3) := by decide +kernel
theorem d_Validator_countWords_74 : decode b_Validator_countWords 74 = .ok (.getfield 278, 3) := by decide +kernel
theorem d_Validator_countWords_77 : decode b_Validator_countWords 77 = .ok (.iload_n 1, 1) := by decide +kernel
theorem d_Validator_countWords_78 : decode b_Validator_countWords 78 = .ok (.iaload, 1) := by decide +kernel
theorem d_Validator_countWords_79 : decode b_Validator_countWords 79 = .ok (.istore 7, 2) := by decide +kernel
theorem d_Validator_countWords_81 : decode b_Validator_countWords 81 = .ok (.iload 7, 2) := by decide +kernel
theorem d_Validator_countWords_83 : decode b_Validator_countWords 83 = .ok (.istore 8, 2) := by decide +kernel
theorem d_Validator_countWords_85 : decode b_Validator_countWords 85 = .ok (.iload 8, 2) := by decide +kernel
theorem d_Validator_countWords_87 : decode b_Validator_countWords 87 = .ok (.iload 6, 2) := by decide +kernel
theorem d_Validator_countWords_89 : decode b_Validator_countWords 89 = .ok (.if_icmp .gt 124, 3) := by decide +kernel
theorem d_Validator_countWords_92 : decode b_Validator_countWords 92 = .ok (.iload 8, 2) := by decide +kernel
theorem d_Validator_countWords_94 : decode b_Validator_countWords 94 = .ok (.iload 6, 2) := by decide +kernel
theorem d_Validator_countWords_96 : decode b_Validator_countWords 96 = .ok (.if_icmp .eq 18, 3) := by decide +kernel
theorem d_Validator_countWords_99 : decode b_Validator_countWords 99 = .ok (.aload_n 0, 1) := by decide +kernel
theorem d_Validator_countWords_100 : decode b_Validator_countWords 100 = .ok (.getfield 9, 3) := by decide +kernel
theorem d_Validator_countWords_103 : decode b_Validator_countWords 103 = .ok (.getfield 281, 3) := by decide +kernel
theorem d_Validator_countWords_106 : decode b_Validator_countWords 106 = .ok (.iload 8, 2) := by decide +kernel
theorem d_Validator_countWords_108 : decode b_Validator_countWords 108 = .ok (.iaload, 1) := by decide +kernel
theorem d_Validator_countWords_109 : decode b_Validator_countWords 109 = .ok (.bipush 32, 2) := by decide +kernel
theorem d_Validator_countWords_111 : decode b_Validator_countWords 111 = .ok (.if_icmp .ne 96, 3) := by decide +kernel
theorem d_Validator_countWords_114 : decode b_Validator_countWords 114 = .ok (.iload 8, 2) := by decide +kernel
theorem d_Validator_countWords_116 : decode b_Validator_countWords 116 = .ok (.iload 7, 2) := by decide +kernel
theorem d_Validator_countWords_118 : decode b_Validator_countWords 118 = .ok (.if_icmp .le 22, 3) := by decide +kernel
theorem d_Validator_countWords_121 : decode b_Validator_countWords 121 = .ok (.iload 5, 2) := by decide +kernel
theorem d_Validator_countWords_123 : decode b_Validator_countWords 123 = .ok (.ifCond .eq 17, 3) := by decide +kernel
theorem d_Validator_countWords_126 : decode b_Validator_countWords 126 = .ok (.aload_n 0, 1) := by decide +kernel
theorem d_Validator_countWords_127 : decode b_Validator_countWords 127 = .ok (.getfield 39, 3) := by decide +kernel
theorem d_Validator_countWords_130 : decode b_Validator_countWords 130 = .ok (.bipush 21, 2) := by decide +kernel
theorem d_Validator_countWords_132 : decode b_Validator_countWords 132 = .ok (.dup2, 1) := by decide +kernel
theorem d_Validator_countWords_133 : decode b_Validator_countWords 133 = .ok (.iaload, 1) := by decide +kernel
theorem d_Validator_countWords_134 : decode b_Validator_countWords 134 = .ok (.iload_n 3, 1) := by decide +kernel
theorem d_Validator_countWords_135 : decode b_Validator_countWords 135 = .ok (.iadd, 1) := by decide +kernel
theorem d_Validator_countWords_136 : decode b_Validator_countWords 136 = .ok (.iastore, 1) := by decide +kernel
theorem d_Validator_countWords_137 : decode b_Validator_countWords 137 = .ok (.goto 64, 3) := by decide +kernel
theorem d_Validator_countWords_140 : decode b_Validator_countWords 140 = .ok (.iload 8, 2) := by decide +kernel
theorem d_Validator_countWords_142 : decode b_Validator_countWords 142 = .ok (.iload 7, 2) := by decide +kernel
theorem d_Validator_countWords_144 : decode b_Validator_countWords 144 = .ok (.if_icmp .le 57, 3) := by decide +kernel
theorem d_Validator_countWords_147 : decode b_Validator_countWords 147 = .ok (.aload_n 0, 1) := by decide +kernel
theorem d_Validator_countWords_148 : decode b_Validator_countWords 148 = .ok (.getfield 9, 3) := by decide +kernel
theorem d_Validator_countWords_151 : decode b_Validator_countWords 151 = .ok (.iload 7, 2) := by decide +kernel
theorem d_Validator_countWords_153 : decode b_Validator_countWords 153 = .ok (.iload 8, 2) := by decide +kernel
theorem d_Validator_countWords_155 : decode b_Validator_countWords 155 = .ok (.iload 7, 2) := by decide +kernel
theorem d_Validator_countWords_157 : decode b_Validator_countWords 157 = .ok (.isub, 1) := by decide +kernel
theorem d_Validator_countWords_158 : decode b_Validator_countWords 158 = .ok (.invokevirtual 284, 3) := by decide +kernel
theorem d_Validator_countWords_161 : decode b_Validator_countWords 161 = .ok (.istore 9, 2) := by decide +kernel
theorem d_Validator_countWords_163 : decode b_Validator_countWords 163 = .ok (.aload_n 0, 1) := by decide +kernel
theorem d_Validator_countWords_164 : decode b_Validator_countWords 164 = .ok (.getfield 39, 3) := by decide +kernel
theorem d_Validator_countWords_167 : decode b_Validator_countWords 167 = .ok (.bipush 12, 2) := by decide +kernel
theorem d_Validator_countWords_169 : decode b_Validator_countWords 169 = .ok (.dup2, 1) := by decide +kernel
theorem d_Validator_countWords_170 : decode b_Validator_countWords 170 = .ok (.iaload, 1) := by decide +kernel
theorem d_Validator_countWords_171 : decode b_Validator_countWords 171 = .ok (.iload 9, 2) := by decide +kernel
theorem d_Validator_countWords_173 : decode b_Validator_countWords 173 = .ok (.iconst (-1), 1) := by decide +kernel
theorem d_Validator_countWords_174 : decode b_Validator_countWords 174 = .ok (.if_icmp .eq 24, 3) := by decide +kernel
theorem d_Validator_countWords_177 : decode b_Validator_countWords 177 = .ok (.aload_n 0, 1) := by decide +kernel
theorem d_Validator_countWords_178 : decode b_Validator_countWords 178 = .ok (.getfield 9, 3) := by decide +kernel
theorem d_Validator_countWords_181 : decode b_Validator_countWords 181 = .ok (.getfield 191, 3) := by decide +kernel
theorem d_Validator_countWords_184 : decode b_Validator_countWords 184 = .ok (.iload 9, 2) := by decide +kernel
theorem d_Validator_countWords_186 : decode b_Validator_countWords 186 = .ok (.iaload, 1) := by decide +kernel
theorem d_Validator_countWords_187 : decode b_Validator_countWords 187 = .ok (.aload_n 0, 1) := by decide +kernel
theorem d_Validator_countWords_188 : decode b_Validator_countWords 188 = .ok (.getfield 268, 3) := by decide +kernel
theorem d_Validator_countWords_191 : decode b_Validator_countWords 191 = .ok (.if_icmp .ne 7, 3) := by decide +kernel
theorem d_Validator_countWords_194 : decode b_Validator_countWords 194 = .ok (.iconst 0, 1) := by decide +kernel
theorem d_Validator_countWords_195 : decode b_Validator_countWords 195 = .ok (.goto 4, 3) := by decide +kernel
theorem d_Validator_countWords_198 : decode b_Validator_countWords 198 = .ok (.iload_n 3, 1) := by decide +kernel
theorem d_Validator_countWords_199 : decode b_Validator_countWords 199 = .ok (.iadd, 1) := by decide +kernel
theorem d_Validator_countWords_200 : decode b_Validator_countWords 200 = .ok (.iastore, 1) := by decide +kernel
theorem d_Validator_countWords_201 : decode b_Validator_countWords 201 = .ok (.iload 8, 2) := by decide +kernel
theorem d_Validator_countWords_203 : decode b_Validator_countWords 203 = .ok (.iconst 1, 1) := by decide +kernel
theorem d_Validator_countWords_204 : decode b_Validator_countWords 204 = .ok (.iadd, 1) := by decide +kernel
theorem d_Validator_countWords_205 : decode b_Validator_countWords 205 = .ok (.istore 7, 2) := by decide +kernel
theorem d_Validator_countWords_207 : decode b_Validator_countWords 207 = .ok (.iinc 8 1, 3) := by decide +kernel
theorem d_Validator_countWords_210 : decode b_Validator_countWords 210 = .ok (.goto (-125), 3) := by decide +kernel
theorem d_Validator_countWords_213 : decode b_Validator_countWords 213 = .ok (.return_, 1) := by decide +kernel
/-- Validator_countWords -/
def w_Validator_countWords (L : Nat → Nat) (a1 : Int) (a2 : Int) (a3 : Int) (Q : IS → Prop) (σ : IS) : Prop := if (if a2 = 12 then (1 : Int) else (if a2 = 13 then (1 : Int) else (0 : Int))) = 0 ∧ ((if a2 = 14 then (1 : Int) else (if a2 = 15 then (1 : Int) else (0 : Int))) = 0) then Q σ else inL L 102 a1 ∧ inL L 103 a1 ∧ inR ((σ.2 102 (Int.toNat a1)) + (σ.2 103 (Int.toNat a1))) ∧ inL L 102 a1 ∧ WL (fun (K1 : Int × Int → IS → Prop) (s3 : Int × Int) (σ4 : IS) => if ((σ.2 102 (Int.toNat a1)) + (σ.2 103 (Int.toNat a1))) < s3.2 then Q σ4 else WJ (fun (s8 : Int) (σ9 : IS) => inR (s3.2 + 1) ∧ K1 (s8, (s3.2 + 1)) σ9) (fun J6 => ((¬ s3.2 = ((σ.2 102 (Int.toNat a1)) + (σ.2 103 (Int.toNat a1))) → inL L 101 s3.2)) ∧ if s3.2 = ((σ.2 102 (Int.toNat a1)) + (σ.2 103 (Int.toNat a1))) ∨ ((σ4.2 101 (Int.toNat s3.2)) = 32) then WJ (fun (s14 : Unit) (σ15 : IS) => inR (s3.2 + 1) ∧ J6 (s3.2 + 1) σ15) (fun J12 => if s3.1 < s3.2 ∧ (¬ (if a2 = 14 then (1 : Int) else (if a2 = 15 then (1 : Int) else (0 : Int))) = 0) then inL L 149 21 ∧ inR ((σ4.2 149 (Int.toNat 21)) + a3) ∧ inL L 149 21 ∧ J12 () (pr σ4 149 (Int.toNat 21) ((σ4.2 149 (Int.toNat 21)) + a3)) else if s3.1 < s3.2 then inR (s3.2 - s3.1) ∧ w_Store_find L s3.1 (s3.2 - s3.1) (fun v22 σ21 => inL L 149 12 ∧ ((¬ v22 = (-1) → inL L 155 v22)) ∧ inR ((σ21.2 149 (Int.toNat 12)) + (if v22 = (-1) then a3 else (if (σ21.2 155 (Int.toNat v22)) = (σ21.1 8 13) then (0 : Int) else a3))) ∧ inL L 149 12 ∧ J12 () (pr σ21 149 (Int.toNat 12) ((σ21.2 149 (Int.toNat 12)) + (if v22 = (-1) then a3 else (if (σ21.2 155 (Int.toNat v22)) = (σ21.1 8 13) then (0 : Int) else a3))))) σ4 else J12 () σ4) else J6 s3.1 σ4)) ((σ.2 102 (Int.toNat a1)), (σ.2 102 (Int.toNat a1))) σ
set_option maxHeartbeats 4000000 in
set_option maxRecDepth 20000 in
theorem s_Validator_countWords {L : Nat → Nat} (hL : ∀ r, L r < 2147483648) {d : Nat} (hd : 1 ≤ d) {a1 : Int} {a2 : Int} {a3 : Int} {Q : IS → Prop} {σ : IS}  (h : w_Validator_countWords L a1 a2 a3 Q σ) : OkI BF L d 8 b_Validator_countWords 10 0 0 [] [some (.inr 8), some (.inl a1), some (.inl a2), some (.inl a3)] σ (qv Q) := by
  unfold w_Validator_countWords at h
  obtain ⟨d, rfl⟩ : ∃ e, d = e + 1 := ⟨d - 1, by omega⟩
  refine k_sb (lv' := [some (.inr 8), some (.inl a1), some (.inl a2), some (.inl a3), none, none, none, none, none, none]) (sb_s (sb_s (sb_s (sb_s (sb_e (sb_e (sb_e (sb_e (sb_e (sb_e sb_nil)))))))))) ?_
  refine k_iload_n d_Validator_countWords_0 rfl ?_
  refine k_bipush d_Validator_countWords_1 cB_12 ?_
  have hV65 : OkI BF L (d + 1) 8 b_Validator_countWords 10 0 17 [.inl (if a2 = 12 then (1 : Int) else (if a2 = 13 then (1 : Int) else (0 : Int)))] [some (.inr 8), some (.inl a1), some (.inl a2), some (.inl a3), none, none, none, none, none, none] σ (qv Q) := by
    refine k_istore (lv' := [some (.inr 8), some (.inl a1), some (.inl a2), some (.inl a3), some (.inl (if a2 = 12 then (1 : Int) else (if a2 = 13 then (1 : Int) else (0 : Int)))), none, none, none, none, none]) d_Validator_countWords_17 rfl rfl ?_
    refine k_iload_n d_Validator_countWords_19 rfl ?_
    refine k_bipush d_Validator_countWords_20 cB_14 ?_
    have hV58 : OkI BF L (d + 1) 8 b_Validator_countWords 10 0 36 [.inl (if a2 = 14 then (1 : Int) else (if a2 = 15 then (1 : Int) else (0 : Int)))] [some (.inr 8), some (.inl a1), some (.inl a2), some (.inl a3), some (.inl (if a2 = 12 then (1 : Int) else (if a2 = 13 then (1 : Int) else (0 : Int)))), none, none, none, none, none] σ (qv Q) := by
      refine k_istore (lv' := [some (.inr 8), some (.inl a1), some (.inl a2), some (.inl a3), some (.inl (if a2 = 12 then (1 : Int) else (if a2 = 13 then (1 : Int) else (0 : Int)))), some (.inl (if a2 = 14 then (1 : Int) else (if a2 = 15 then (1 : Int) else (0 : Int)))), none, none, none, none]) d_Validator_countWords_36 rfl rfl ?_
      refine k_iload d_Validator_countWords_38 rfl ?_
      have hX53 : ((if a2 = 12 then (1 : Int) else (if a2 = 13 then (1 : Int) else (0 : Int))) = 0 ∧ ((if a2 = 14 then (1 : Int) else (if a2 = 15 then (1 : Int) else (0 : Int))) = 0)) → OkI BF L (d + 1) 8 b_Validator_countWords 10 0 48 [] [some (.inr 8), some (.inl a1), some (.inl a2), some (.inl a3), some (.inl (if a2 = 12 then (1 : Int) else (if a2 = 13 then (1 : Int) else (0 : Int)))), some (.inl (if a2 = 14 then (1 : Int) else (if a2 = 15 then (1 : Int) else (0 : Int)))), none, none, none, none] σ (qv Q) := fun e55 => by
        have h := ipos e55 h
        exact k_ret d_Validator_countWords_48 h
      have hY54 : ¬ ((if a2 = 12 then (1 : Int) else (if a2 = 13 then (1 : Int) else (0 : Int))) = 0 ∧ ((if a2 = 14 then (1 : Int) else (if a2 = 15 then (1 : Int) else (0 : Int))) = 0)) → OkI BF L (d + 1) 8 b_Validator_countWords 10 0 49 [] [some (.inr 8), some (.inl a1), some (.inl a2), some (.inl a3), some (.inl (if a2 = 12 then (1 : Int) else (if a2 = 13 then (1 : Int) else (0 : Int)))), some (.inl (if a2 = 14 then (1 : Int) else (if a2 = 15 then (1 : Int) else (0 : Int)))), none, none, none, none] σ (qv Q) := fun e55 => by
        have h := ineg e55 h
        refine k_aload_n d_Validator_countWords_49 rfl ?_
        refine k_getR d_Validator_countWords_50 fl_8_9 ob_8 rfl ?_
        refine k_getR d_Validator_countWords_53 fl_8_278 ob_1 rfl ?_
        refine k_iload_n d_Validator_countWords_56 rfl ?_
        obtain ⟨p52, h⟩ := h
        refine k_ild (x := (σ.2 102 (Int.toNat a1))) d_Validator_countWords_57 rI_102 p52 rfl ?_
        refine k_aload_n d_Validator_countWords_58 rfl ?_
        refine k_getR d_Validator_countWords_59 fl_8_9 ob_8 rfl ?_
        refine k_getR d_Validator_countWords_62 fl_8_256 ob_1 rfl ?_
        refine k_iload_n d_Validator_countWords_65 rfl ?_
        obtain ⟨p51, h⟩ := h
        refine k_ild (x := (σ.2 103 (Int.toNat a1))) d_Validator_countWords_66 rI_103 p51 rfl ?_
        obtain ⟨p50, h⟩ := h
        refine k_iadd d_Validator_countWords_67 p50 ?_
        refine k_istore (lv' := [some (.inr 8), some (.inl a1), some (.inl a2), some (.inl a3), some (.inl (if a2 = 12 then (1 : Int) else (if a2 = 13 then (1 : Int) else (0 : Int)))), some (.inl (if a2 = 14 then (1 : Int) else (if a2 = 15 then (1 : Int) else (0 : Int)))), some (.inl ((σ.2 102 (Int.toNat a1)) + (σ.2 103 (Int.toNat a1)))), none, none, none]) d_Validator_countWords_68 rfl rfl ?_
        refine k_aload_n d_Validator_countWords_70 rfl ?_
        refine k_getR d_Validator_countWords_71 fl_8_9 ob_8 rfl ?_
        refine k_getR d_Validator_countWords_74 fl_8_278 ob_1 rfl ?_
        refine k_iload_n d_Validator_countWords_77 rfl ?_
        obtain ⟨p49, h⟩ := h
        refine k_ild (x := (σ.2 102 (Int.toNat a1))) d_Validator_countWords_78 rI_102 p49 rfl ?_
        refine k_istore (lv' := [some (.inr 8), some (.inl a1), some (.inl a2), some (.inl a3), some (.inl (if a2 = 12 then (1 : Int) else (if a2 = 13 then (1 : Int) else (0 : Int)))), some (.inl (if a2 = 14 then (1 : Int) else (if a2 = 15 then (1 : Int) else (0 : Int)))), some (.inl ((σ.2 102 (Int.toNat a1)) + (σ.2 103 (Int.toNat a1)))), some (.inl (σ.2 102 (Int.toNat a1))), none, none]) d_Validator_countWords_79 rfl rfl ?_
        refine k_iload d_Validator_countWords_81 rfl ?_
        refine k_istore (lv' := [some (.inr 8), some (.inl a1), some (.inl a2), some (.inl a3), some (.inl (if a2 = 12 then (1 : Int) else (if a2 = 13 then (1 : Int) else (0 : Int)))), some (.inl (if a2 = 14 then (1 : Int) else (if a2 = 15 then (1 : Int) else (0 : Int)))), some (.inl ((σ.2 102 (Int.toNat a1)) + (σ.2 103 (Int.toNat a1)))), some (.inl (σ.2 102 (Int.toNat a1))), some (.inl (σ.2 102 (Int.toNat a1))), none]) d_Validator_countWords_83 rfl rfl ?_
        refine k_sb (lv' := [some (.inr 8), none, none, some (.inl a3), none, some (.inl (if a2 = 14 then (1 : Int) else (if a2 = 15 then (1 : Int) else (0 : Int)))), some (.inl ((σ.2 102 (Int.toNat a1)) + (σ.2 103 (Int.toNat a1)))), some (.inl (σ.2 102 (Int.toNat a1))), some (.inl (σ.2 102 (Int.toNat a1))), none]) (sb_s (sb_n (sb_n (sb_s (sb_n (sb_s (sb_s (sb_s (sb_s (sb_s sb_nil)))))))))) ?_
        refine k_loop (S := Int × Int) (st := fun _ => []) (lv := fun s3 => [some (.inr 8), none, none, some (.inl a3), none, some (.inl (if a2 = 14 then (1 : Int) else (if a2 = 15 then (1 : Int) else (0 : Int)))), some (.inl ((σ.2 102 (Int.toNat a1)) + (σ.2 103 (Int.toNat a1)))), some (.inl s3.1), some (.inl s3.2), none]) (fun K1 hK2 s3 σ4 h => ?_) ((σ.2 102 (Int.toNat a1)), (σ.2 102 (Int.toNat a1))) _ h
        refine k_iload d_Validator_countWords_85 rfl ?_
        refine k_iload d_Validator_countWords_87 rfl ?_
        refine k_icgt d_Validator_countWords_89 rfl (fun c5 => ?_) (fun c5 => ?_)
        · have h := ipos c5 h
          exact k_ret d_Validator_countWords_213 h
        · have h := ineg c5 h
          refine k_iload d_Validator_countWords_92 rfl ?_
          refine k_iload d_Validator_countWords_94 rfl ?_
          refine k_join (S := Int) (pc' := 207) (st' := fun s8 => []) (lv' := fun s8 => [some (.inr 8), none, none, some (.inl a3), none, some (.inl (if a2 = 14 then (1 : Int) else (if a2 = 15 then (1 : Int) else (0 : Int)))), some (.inl ((σ.2 102 (Int.toNat a1)) + (σ.2 103 (Int.toNat a1)))), some (.inl s8), some (.inl s3.2), none]) (fun s8 σ9 h => ?_) (fun J6 hJ7 h => ?_) h
          · obtain ⟨p10, h⟩ := h
            refine k_iinc (lv' := [some (.inr 8), none, none, some (.inl a3), none, some (.inl (if a2 = 14 then (1 : Int) else (if a2 = 15 then (1 : Int) else (0 : Int)))), some (.inl ((σ.2 102 (Int.toNat a1)) + (σ.2 103 (Int.toNat a1)))), some (.inl s8), some (.inl (s3.2 + 1)), none]) d_Validator_countWords_207 cI_1 rfl rfl p10 rfl ?_
            refine k_goto d_Validator_countWords_210 rfl ?_
            exact k_sb (sb_s (sb_s (sb_s (sb_s (sb_s (sb_s (sb_s (sb_s (sb_s (sb_s sb_nil)))))))))) (hK2 (s8, (s3.2 + 1)) _ h)
          · obtain ⟨pt45, h⟩ := h
            have hX42 : (s3.2 = ((σ.2 102 (Int.toNat a1)) + (σ.2 103 (Int.toNat a1))) ∨ ((σ4.2 101 (Int.toNat s3.2)) = 32)) → OkI BF L (d + 1) 8 b_Validator_countWords 10 0 114 [] [some (.inr 8), none, none, some (.inl a3), none, some (.inl (if a2 = 14 then (1 : Int) else (if a2 = 15 then (1 : Int) else (0 : Int)))), some (.inl ((σ.2 102 (Int.toNat a1)) + (σ.2 103 (Int.toNat a1)))), some (.inl s3.1), some (.inl s3.2), none] σ4 (qv Q) := fun e44 => by
              have h := ipos e44 h
              refine k_iload d_Validator_countWords_114 rfl ?_
              refine k_iload d_Validator_countWords_116 rfl ?_
              refine k_join (S := Unit) (pc' := 201) (st' := fun s14 => []) (lv' := fun s14 => [some (.inr 8), none, none, some (.inl a3), none, some (.inl (if a2 = 14 then (1 : Int) else (if a2 = 15 then (1 : Int) else (0 : Int)))), some (.inl ((σ.2 102 (Int.toNat a1)) + (σ.2 103 (Int.toNat a1)))), none, some (.inl s3.2), none]) (fun s14 σ15 h => ?_) (fun J12 hJ13 h => ?_) h
              · refine k_iload d_Validator_countWords_201 rfl ?_
                refine k_iconst d_Validator_countWords_203 cI_1 ?_
                obtain ⟨p16, h⟩ := h
                refine k_iadd d_Validator_countWords_204 p16 ?_
                refine k_istore (lv' := [some (.inr 8), none, none, some (.inl a3), none, some (.inl (if a2 = 14 then (1 : Int) else (if a2 = 15 then (1 : Int) else (0 : Int)))), some (.inl ((σ.2 102 (Int.toNat a1)) + (σ.2 103 (Int.toNat a1)))), some (.inl (s3.2 + 1)), some (.inl s3.2), none]) d_Validator_countWords_205 rfl rfl ?_
                exact k_sb (sb_s (sb_s (sb_s (sb_s (sb_s (sb_s (sb_s (sb_s (sb_s (sb_s sb_nil)))))))))) (hJ7 (s3.2 + 1) _ h)
              · have hX37 : (s3.1 < s3.2 ∧ (¬ (if a2 = 14 then (1 : Int) else (if a2 = 15 then (1 : Int) else (0 : Int))) = 0)) → OkI BF L (d + 1) 8 b_Validator_countWords 10 0 126 [] [some (.inr 8), none, none, some (.inl a3), none, some (.inl (if a2 = 14 then (1 : Int) else (if a2 = 15 then (1 : Int) else (0 : Int)))), some (.inl ((σ.2 102 (Int.toNat a1)) + (σ.2 103 (Int.toNat a1)))), some (.inl s3.1), some (.inl s3.2), none] σ4 (qv Q) := fun e39 => by
                  have h := ipos e39 h
                  refine k_aload_n d_Validator_countWords_126 rfl ?_
                  refine k_getR d_Validator_countWords_127 fl_8_39 ob_8 rfl ?_
                  refine k_bipush d_Validator_countWords_130 cB_21 ?_
                  refine k_dup2 d_Validator_countWords_132 ?_
                  obtain ⟨p19, h⟩ := h
                  refine k_ild (x := (σ4.2 149 (Int.toNat 21))) d_Validator_countWords_133 rI_149 p19 rfl ?_
                  refine k_iload_n d_Validator_countWords_134 rfl ?_
                  obtain ⟨p18, h⟩ := h
                  refine k_iadd d_Validator_countWords_135 p18 ?_
                  obtain ⟨p17, h⟩ := h
                  refine k_ist d_Validator_countWords_136 rI_149 p17 ?_
                  refine k_goto d_Validator_countWords_137 rfl ?_
                  exact k_sb (sb_s (sb_s (sb_s (sb_s (sb_s (sb_s (sb_s (sb_n (sb_s (sb_s sb_nil)))))))))) (hJ13 () _ h)
                have hY38 : ¬ (s3.1 < s3.2 ∧ (¬ (if a2 = 14 then (1 : Int) else (if a2 = 15 then (1 : Int) else (0 : Int))) = 0)) → OkI BF L (d + 1) 8 b_Validator_countWords 10 0 140 [] [some (.inr 8), none, none, some (.inl a3), none, some (.inl (if a2 = 14 then (1 : Int) else (if a2 = 15 then (1 : Int) else (0 : Int)))), some (.inl ((σ.2 102 (Int.toNat a1)) + (σ.2 103 (Int.toNat a1)))), some (.inl s3.1), some (.inl s3.2), none] σ4 (qv Q) := fun e39 => by
                  have h := ineg e39 h
                  refine k_iload d_Validator_countWords_140 rfl ?_
                  refine k_iload d_Validator_countWords_142 rfl ?_
                  refine k_icle d_Validator_countWords_144 rfl (fun c20 => ?_) (fun c20 => ?_)
                  · have h := ineg c20 h
                    exact k_sb (sb_s (sb_s (sb_s (sb_s (sb_s (sb_s (sb_s (sb_n (sb_s (sb_s sb_nil)))))))))) (hJ13 () _ h)
                  · have h := ipos c20 h
                    refine k_aload_n d_Validator_countWords_147 rfl ?_
                    refine k_getR d_Validator_countWords_148 fl_8_9 ob_8 rfl ?_
                    refine k_iload d_Validator_countWords_151 rfl ?_
                    refine k_iload d_Validator_countWords_153 rfl ?_
                    refine k_iload d_Validator_countWords_155 rfl ?_
                    obtain ⟨p36, h⟩ := h
                    refine k_isub d_Validator_countWords_157 p36 ?_
                    refine k_cvi [.inl s3.1, .inl (s3.2 - s3.1)] d_Validator_countWords_158 ml_8_284 rfl rfl ob_1 rfl (s_Store_find hL (by omega) stB_BF h) (fun v22 σ21 h => ?_)
                    refine k_istore (lv' := [some (.inr 8), none, none, some (.inl a3), none, some (.inl (if a2 = 14 then (1 : Int) else (if a2 = 15 then (1 : Int) else (0 : Int)))), some (.inl ((σ.2 102 (Int.toNat a1)) + (σ.2 103 (Int.toNat a1)))), some (.inl s3.1), some (.inl s3.2), some (.inl v22)]) d_Validator_countWords_161 rfl rfl ?_
                    refine k_aload_n d_Validator_countWords_163 rfl ?_
                    refine k_getR d_Validator_countWords_164 fl_8_39 ob_8 rfl ?_
                    refine k_bipush d_Validator_countWords_167 cB_12 ?_
                    refine k_dup2 d_Validator_countWords_169 ?_
                    obtain ⟨p35, h⟩ := h
                    refine k_ild (x := (σ21.2 149 (Int.toNat 12))) d_Validator_countWords_170 rI_149 p35 rfl ?_
                    refine k_iload d_Validator_countWords_171 rfl ?_
                    refine k_iconst d_Validator_countWords_173 cI_m1 ?_
                    obtain ⟨pt27, h⟩ := h
                    have hV26 : OkI BF L (d + 1) 8 b_Validator_countWords 10 0 199 [.inl (if v22 = (-1) then a3 else (if (σ21.2 155 (Int.toNat v22)) = (σ21.1 8 13) then (0 : Int) else a3)), .inl (σ21.2 149 (Int.toNat 12)), .inl 12, .inr 149] [some (.inr 8), none, none, some (.inl a3), none, some (.inl (if a2 = 14 then (1 : Int) else (if a2 = 15 then (1 : Int) else (0 : Int)))), some (.inl ((σ.2 102 (Int.toNat a1)) + (σ.2 103 (Int.toNat a1)))), some (.inl s3.1), some (.inl s3.2), some (.inl v22)] σ21 (qv Q) := by
                      obtain ⟨p25, h⟩ := h
                      refine k_iadd d_Validator_countWords_199 p25 ?_
                      obtain ⟨p24, h⟩ := h
                      refine k_ist d_Validator_countWords_200 rI_149 p24 ?_
                      exact k_sb (sb_s (sb_s (sb_s (sb_s (sb_s (sb_s (sb_s (sb_n (sb_s (sb_n sb_nil)))))))))) (hJ13 () _ h)
                    have pb28 := pt27
                    refine k_iceq d_Validator_countWords_174 rfl (fun c29 => ?_) (fun c29 => ?_)
                    · have hV30 := k_eqI (if_pos c29) hV26
                      refine k_iload_n d_Validator_countWords_198 rfl ?_
                      exact hV30
                    · have pb28 := pb28 c29
                      have hV31 := k_eqI (if_neg c29) hV26
                      have p23 := pb28
                      refine k_aload_n d_Validator_countWords_177 rfl ?_
                      refine k_getR d_Validator_countWords_178 fl_8_9 ob_8 rfl ?_
                      refine k_getR d_Validator_countWords_181 fl_8_191 ob_1 rfl ?_
                      refine k_iload d_Validator_countWords_184 rfl ?_
                      refine k_ild (x := (σ21.2 155 (Int.toNat v22))) d_Validator_countWords_186 rI_155 p23 rfl ?_
                      refine k_aload_n d_Validator_countWords_187 rfl ?_
                      refine k_getI (x := (σ21.1 8 13)) d_Validator_countWords_188 fl_8_268 ob_8 rfl rfl ?_
                      refine k_icne d_Validator_countWords_191 rfl (fun c32 => ?_) (fun c32 => ?_)
                      · have hV34 := k_eqI (if_neg c32) hV31
                        refine k_iload_n d_Validator_countWords_198 rfl ?_
                        exact hV34
                      · have hV33 := k_eqI (if_pos c32) hV31
                        refine k_iconst d_Validator_countWords_194 cI_0 ?_
                        refine k_goto d_Validator_countWords_195 rfl ?_
                        exact hV33
                refine k_icle d_Validator_countWords_118 rfl (fun c40 => ?_) (fun c40 => ?_)
                · exact hY38 (fun z => c40 z.1)
                · refine k_iload d_Validator_countWords_121 rfl ?_
                  refine k_ifeq d_Validator_countWords_123 rfl (fun c41 => ?_) (fun c41 => ?_)
                  · exact hY38 (fun z => (fun z => z c41) z.2)
                  · exact hX37 (⟨c40, c41⟩)
            have hY43 : ¬ (s3.2 = ((σ.2 102 (Int.toNat a1)) + (σ.2 103 (Int.toNat a1))) ∨ ((σ4.2 101 (Int.toNat s3.2)) = 32)) → OkI BF L (d + 1) 8 b_Validator_countWords 10 0 207 [] [some (.inr 8), none, none, some (.inl a3), none, some (.inl (if a2 = 14 then (1 : Int) else (if a2 = 15 then (1 : Int) else (0 : Int)))), some (.inl ((σ.2 102 (Int.toNat a1)) + (σ.2 103 (Int.toNat a1)))), some (.inl s3.1), some (.inl s3.2), none] σ4 (qv Q) := fun e44 => by
              have h := ineg e44 h
              exact k_sb (sb_s (sb_s (sb_s (sb_s (sb_s (sb_s (sb_s (sb_s (sb_s (sb_s sb_nil)))))))))) (hJ7 s3.1 _ h)
            have pb46 := pt45
            refine k_iceq d_Validator_countWords_96 rfl (fun c47 => ?_) (fun c47 => ?_)
            · exact hX42 (Or.inl c47)
            · have pb46 := pb46 c47
              have p11 := pb46
              refine k_aload_n d_Validator_countWords_99 rfl ?_
              refine k_getR d_Validator_countWords_100 fl_8_9 ob_8 rfl ?_
              refine k_getR d_Validator_countWords_103 fl_8_281 ob_1 rfl ?_
              refine k_iload d_Validator_countWords_106 rfl ?_
              refine k_ild (x := (σ4.2 101 (Int.toNat s3.2))) d_Validator_countWords_108 rI_101 p11 rfl ?_
              refine k_bipush d_Validator_countWords_109 cB_32 ?_
              refine k_icne d_Validator_countWords_111 rfl (fun c48 => ?_) (fun c48 => ?_)
              · exact hY43 (fun z => z.elim c47 (c48))
              · exact hX42 (Or.inr (c48))
      refine k_ifne d_Validator_countWords_40 rfl (fun c56 => ?_) (fun c56 => ?_)
      · exact hY54 (fun z => c56 z.1)
      · refine k_iload d_Validator_countWords_43 rfl ?_
        refine k_ifne d_Validator_countWords_45 rfl (fun c57 => ?_) (fun c57 => ?_)
        · exact hY54 (fun z => (c57) z.2)
        · exact hX53 (⟨c56, c57⟩)
    refine k_iceq d_Validator_countWords_22 rfl (fun c59 => ?_) (fun c59 => ?_)
    · have hV60 := k_eqI (if_pos c59) hV58
      refine k_iconst d_Validator_countWords_31 cI_1 ?_
      refine k_goto d_Validator_countWords_32 rfl ?_
      exact hV60
    · have hV61 := k_eqI (if_neg c59) hV58
      refine k_iload_n d_Validator_countWords_25 rfl ?_
      refine k_bipush d_Validator_countWords_26 cB_15 ?_
      refine k_icne d_Validator_countWords_28 rfl (fun c62 => ?_) (fun c62 => ?_)
      · have hV64 := k_eqI (if_neg c62) hV61
        refine k_iconst d_Validator_countWords_35 cI_0 ?_
        exact hV64
      · have hV63 := k_eqI (if_pos c62) hV61
        refine k_iconst d_Validator_countWords_31 cI_1 ?_
        refine k_goto d_Validator_countWords_32 rfl ?_
        exact hV63
  refine k_iceq d_Validator_countWords_3 rfl (fun c66 => ?_) (fun c66 => ?_)
  · have hV67 := k_eqI (if_pos c66) hV65
    refine k_iconst d_Validator_countWords_12 cI_1 ?_
    refine k_goto d_Validator_countWords_13 rfl ?_
    exact hV67
  · have hV68 := k_eqI (if_neg c66) hV65
    refine k_iload_n d_Validator_countWords_6 rfl ?_
    refine k_bipush d_Validator_countWords_7 cB_13 ?_
    refine k_icne d_Validator_countWords_9 rfl (fun c69 => ?_) (fun c69 => ?_)
    · have hV71 := k_eqI (if_neg c69) hV68
      refine k_iconst d_Validator_countWords_16 cI_0 ?_
      exact hV71
    · have hV70 := k_eqI (if_pos c69) hV68
      refine k_iconst d_Validator_countWords_12 cI_1 ?_
      refine k_goto d_Validator_countWords_13 rfl ?_
      exact hV70
theorem d_Validator_countReferences_0 : decode b_Validator_countReferences 0 = .ok (.iconst 0, 1) := by decide +kernel
theorem d_Validator_countReferences_1 : decode b_Validator_countReferences 1 = .ok (.istore_n 1, 1) := by decide +kernel
theorem d_Validator_countReferences_2 : decode b_Validator_countReferences 2 = .ok (.iload_n 1, 1) := by decide +kernel
theorem d_Validator_countReferences_3 : decode b_Validator_countReferences 3 = .ok (.aload_n 0, 1) := by decide +kernel
theorem d_Validator_countReferences_4 : decode b_Validator_countReferences 4 = .ok (.getfield 31, 3) := by decide +kernel
theorem d_Validator_countReferences_7 : decode b_Validator_countReferences 7 = .ok (.getfield 113, 3) := by decide +kernel
theorem d_Validator_countReferences_10 : decode b_Validator_countReferences 10 = .ok (.if_icmp .ge 83, 3) := by decide +kernel
theorem d_Validator_countReferences_13 : decode b_Validator_countReferences 13 = .ok (.iconst 0, 1) := by decide +kernel
theorem d_Validator_countReferences_14 : decode b_Validator_countReferences 14 = .ok (.istore_n 2, 1) := by decide +kernel
theorem d_Validator_countReferences_15 : decode b_Validator_countReferences 15 = .ok (.iload_n 2, 1) := by decide +kernel
theorem d_Validator_countReferences_16 : decode b_Validator_countReferences 16 = .ok (.aload_n 0, 1) := by decide +kernel
theorem d_Validator_countReferences_17 : decode b_Validator_countReferences 17 = .ok (.getfield 31, 3) := by decide +kernel
theorem d_Validator_countReferences_20 : decode b_Validator_countReferences 20 = .ok (.getfield 207, 3) := by decide +kernel
theorem d_Validator_countReferences_23 : decode b_Validator_countReferences 23 = .ok (.iload_n 1, 1) := by decide +kernel
theorem d_Validator_countReferences_24 : decode b_Validator_countReferences 24 = .ok (.iaload, 1) := by decide +kernel
theorem d_Validator_countReferences_25 : decode b_Validator_countReferences 25 = .ok (.if_icmp .ge 62, 3) := by decide +kernel
theorem d_Validator_countReferences_28 : decode b_Validator_countReferences 28 = .ok (.aload_n 0, 1) := by decide +kernel
theorem d_Validator_countReferences_29 : decode b_Validator_countReferences 29 = .ok (.getfield 31, 3) := by decide +kernel
theorem d_Validator_countReferences_32 : decode b_Validator_countReferences 32 = .ok (.getfield 210, 3) := by decide +kernel
theorem d_Validator_countReferences_35 : decode b_Validator_countReferences 35 = .ok (.iload_n 1, 1) := by decide +kernel
theorem d_Validator_countReferences_36 : decode b_Validator_countReferences 36 = .ok (.iaload, 1) := by decide +kernel
theorem d_Validator_countReferences_37 : decode b_Validator_countReferences 37 = .ok (.iload_n 2, 1) := by decide +kernel
theorem d_Validator_countReferences_38 : decode b_Validator_countReferences 38 = .ok (.iadd, 1) := by decide +kernel
theorem d_Validator_countReferences_39 : decode b_Validator_countReferences 39 = .ok (.istore_n 3, 1) := by decide +kernel
theorem d_Validator_countReferences_40 : decode b_Validator_countReferences 40 = .ok (.aload_n 0, 1) := by decide +kernel
theorem d_Validator_countReferences_41 : decode b_Validator_countReferences 41 = .ok (.getfield 31, 3) := by decide +kernel
theorem d_Validator_countReferences_44 : decode b_Validator_countReferences 44 = .ok (.getfield 213, 3) := by decide +kernel
theorem d_Validator_countReferences_47 : decode b_Validator_countReferences 47 = .ok (.iload_n 3, 1) := by decide +kernel
theorem d_Validator_countReferences_48 : decode b_Validator_countReferences 48 = .ok (.iaload, 1) := by decide +kernel
theorem d_Validator_countReferences_49 : decode b_Validator_countReferences 49 = .ok (.istore 4, 2) := by decide +kernel
theorem d_Validator_countReferences_51 : decode b_Validator_countReferences 51 = .ok (.iload 4, 2) := by decide +kernel
theorem d_Validator_countReferences_53 : decode b_Validator_countReferences 53 = .ok (.iconst (-1), 1) := by decide +kernel
theorem d_Validator_countReferences_54 : decode b_Validator_countReferences 54 = .ok (.if_icmp .eq 27, 3) := by decide +kernel
theorem d_Validator_countReferences_57 : decode b_Validator_countReferences 57 = .ok (.aload_n 0, 1) := by decide +kernel
theorem d_Validator_countReferences_58 : decode b_Validator_countReferences 58 = .ok (.aload_n 0, 1) := by decide +kernel
theorem d_Validator_countReferences_59 : decode b_Validator_countReferences 59 = .ok (.getfield 31, 3) := by decide +kernel
theorem d_Validator_countReferences_62 : decode b_Validator_countReferences 62 = .ok (.getfield 216, 3) := by decide +kernel
theorem d_Validator_countReferences_65 : decode b_Validator_countReferences 65 = .ok (.iload_n 3, 1) := by decide +kernel
theorem d_Validator_countReferences_66 : decode b_Validator_countReferences 66 = .ok (.iaload, 1) := by decide +kernel
theorem d_Validator_countReferences_67 : decode b_Validator_countReferences 67 = .ok (.aload_n 0, 1) := by decide +kernel
theorem d_Validator_countReferences_68 : decode b_Validator_countReferences 68 = .ok (.getfield 23, 3) := by decide +kernel
theorem d_Validator_countReferences_71 : decode b_Validator_countReferences 71 = .ok (.getfield 237, 3) := by decide +kernel
theorem d_Validator_countReferences_74 : decode b_Validator_countReferences 74 = .ok (.iload 4, 2) := by decide +kernel
theorem d_Validator_countReferences_76 : decode b_Validator_countReferences 76 = .ok (.iaload, 1) := by decide +kernel
theorem d_Validator_countReferences_77 : decode b_Validator_countReferences 77 = .ok (.iconst 1, 1) := by decide +kernel
theorem d_Validator_countReferences_78 : decode b_Validator_countReferences 78 = .ok (.invokevirtual 274, 3) := by decide +kernel
theorem d_Validator_countReferences_81 : decode b_Validator_countReferences 81 = .ok (.iinc 2 1, 3) := by decide +kernel
theorem d_Validator_countReferences_84 : decode b_Validator_countReferences 84 = .ok (.goto (-69), 3) := by decide +kernel
theorem d_Validator_countReferences_87 : decode b_Validator_countReferences 87 = .ok (.iinc 1 1, 3) := by decide +kernel
theorem d_Validator_countReferences_90 : decode b_Validator_countReferences 90 = .ok (.goto (-88), 3) := by decide +kernel
theorem d_Validator_countReferences_93 : decode b_Validator_countReferences 93 = .ok (.iconst 0, 1) := by decide +kernel
theorem d_Validator_countReferences_94 : decode b_Validator_countReferences 94 = .ok (.istore_n 1, 1) := by decide +kernel
theorem d_Validator_countReferences_95 : decode b_Validator_countReferences 95 = .ok (.iload_n 1, 1) := by decide +kernel
theorem d_Validator_countReferences_96 : decode b_Validator_countReferences 96 = .ok (.aload_n 0, 1) := by decide +kernel
theorem d_Validator_countReferences_97 : decode b_Validator_countReferences 97 = .ok (.getfield 23, 3) := by decide +kernel
theorem d_Validator_countReferences_100 : decode b_Validator_countReferences 100 = .ok (.getfield 231, 3) := by decide +kernel
theorem d_Validator_countReferences_103 : decode b_Validator_countReferences 103 = .ok (.if_icmp .ge 46, 3) := by decide +kernel
theorem d_Validator_countReferences_106 : decode b_Validator_countReferences 106 = .ok (.aload_n 0, 1) := by decide +kernel
theorem d_Validator_countReferences_107 : decode b_Validator_countReferences 107 = .ok (.getfield 68, 3) := by decide +kernel
theorem d_Validator_countReferences_110 : decode b_Validator_countReferences 110 = .ok (.iload_n 1, 1) := by decide +kernel
theorem d_Validator_countReferences_111 : decode b_Validator_countReferences 111 = .ok (.iaload, 1) := by decide +kernel
theorem d_Validator_countReferences_112 : decode b_Validator_countReferences 112 = .ok (.ifCond .le 31, 3) := by decide +kernel
theorem d_Validator_countReferences_115 : decode b_Validator_countReferences 115 = .ok (.aload_n 0, 1) := by decide +kernel
theorem d_Validator_countReferences_116 : decode b_Validator_countReferences 116 = .ok (.aload_n 0, 1) := by decide +kernel
theorem d_Validator_countReferences_117 : decode b_Validator_countReferences 117 = .ok (.getfield 23, 3) := by decide +kernel
theorem d_Validator_countReferences_120 : decode b_Validator_countReferences 120 = .ok (.getfield 227, 3) := by decide +kernel
theorem d_Validator_countReferences_123 : decode b_Validator_countReferences 123 = .ok (.iload_n 1, 1) := by decide +kernel
theorem d_Validator_countReferences_124 : decode b_Validator_countReferences 124 = .ok (.iaload, 1) := by decide +kernel
theorem d_Validator_countReferences_125 : decode b_Validator_countReferences 125 = .ok (.aload_n 0, 1) := by decide +kernel
theorem d_Validator_countReferences_126 : decode b_Validator_countReferences 126 = .ok (.getfield 23, 3) := by decide +kernel
theorem d_Validator_countReferences_129 : decode b_Validator_countReferences 129 = .ok (.getfield 237, 3) := by decide +kernel
theorem d_Validator_countReferences_132 : decode b_Validator_countReferences 132 = .ok (.iload_n 1, 1) := by decide +kernel
theorem d_Validator_countReferences_133 : decode b_Validator_countReferences 133 = .ok (.iaload, 1) := by decide +kernel
theorem d_Validator_countReferences_134 : decode b_Validator_countReferences 134 = .ok (.aload_n 0, 1) := by decide +kernel
theorem d_Validator_countReferences_135 : decode b_Validator_countReferences 135 = .ok (.getfield 68, 3) := by decide +kernel
theorem d_Validator_countReferences_138 : decode b_Validator_countReferences 138 = .ok (.iload_n 1, 1) := by decide +kernel
theorem d_Validator_countReferences_139 : decode b_Validator_countReferences 139 = .ok (.iaload, 1) := by decide +kernel
theorem d_Validator_countReferences_140 : decode b_Validator_countReferences 140 = .ok (.invokevirtual 274, 3) := by decide +kernel
theorem d_Validator_countReferences_143 : decode b_Validator_countReferences 143 = .ok (.iinc 1 1, 3) := by decide +kernel
theorem d_Validator_countReferences_146 : decode b_Validator_countReferences 146 = .ok (.goto (-51), 3) := by decide +kernel
theorem d_Validator_countReferences_149 : decode b_Validator_countReferences 149 = .ok (.return_, 1) := by decide +kernel
/-- Validator_countReferences -/
def w_Validator_countReferences (L : Nat → Nat)  (Q : IS → Prop) (σ : IS) : Prop := WL (fun (K1 : Int → IS → Prop) (s3 : Int) (σ4 : IS) => if s3 < (σ4.1 6 2) then WL (fun (K23 : Int → IS → Prop) (s25 : Int) (σ26 : IS) => inL L 132 s3 ∧ if s25 < (σ26.2 132 (Int.toNat s3)) then inL L 130 s3 ∧ inR ((σ26.2 130 (Int.toNat s3)) + s25) ∧ inL L 135 ((σ26.2 130 (Int.toNat s3)) + s25) ∧ WJ (fun (s31 : Unit) (σ32 : IS) => inR (s25 + 1) ∧ K23 (s25 + 1) σ32) (fun J29 => if (σ26.2 135 (Int.toNat ((σ26.2 130 (Int.toNat s3)) + s25))) = (-1) then J29 () σ26 else inL L 134 ((σ26.2 130 (Int.toNat s3)) + s25) ∧ inL L 118 (σ26.2 135 (Int.toNat ((σ26.2 130 (Int.toNat s3)) + s25))) ∧ w_Validator_countWords L (σ26.2 134 (Int.toNat ((σ26.2 130 (Int.toNat s3)) + s25))) (σ26.2 118 (Int.toNat (σ26.2 135 (Int.toNat ((σ26.2 130 (Int.toNat s3)) + s25))))) 1 (fun σ35 => J29 () σ35) σ26) else inR (s3 + 1) ∧ K1 (s3 + 1) σ26) 0 σ4 else WL (fun (K6 : Int → IS → Prop) (s8 : Int) (σ9 : IS) => if s8 < (σ9.1 4 12) then inL L 154 s8 ∧ WJ (fun (s13 : Unit) (σ14 : IS) => inR (s8 + 1) ∧ K6 (s8 + 1) σ14) (fun J11 => if 0 < (σ9.2 154 (Int.toNat s8)) then inL L 120 s8 ∧ inL L 118 s8 ∧ inL L 154 s8 ∧ w_Validator_countWords L (σ9.2 120 (Int.toNat s8)) (σ9.2 118 (Int.toNat s8)) (σ9.2 154 (Int.toNat s8)) (fun σ17 => J11 () σ17) σ9 else J11 () σ9) else Q σ9) 0 σ4) 0 σ
set_option maxHeartbeats 4000000 in
set_option maxRecDepth 20000 in
theorem s_Validator_countReferences {L : Nat → Nat} (hL : ∀ r, L r < 2147483648) {d : Nat} (hd : 2 ≤ d)  {Q : IS → Prop} {σ : IS}  (h : w_Validator_countReferences L  Q σ) : OkI BF L d 8 b_Validator_countReferences 5 0 0 [] [some (.inr 8)] σ (qv Q) := by
  unfold w_Validator_countReferences at h
  obtain ⟨d, rfl⟩ : ∃ e, d = e + 1 := ⟨d - 1, by omega⟩
  refine k_sb (lv' := [some (.inr 8), none, none, none, none]) (sb_s (sb_e (sb_e (sb_e (sb_e sb_nil))))) ?_
  refine k_iconst d_Validator_countReferences_0 cI_0 ?_
  refine k_istore_n (lv' := [some (.inr 8), some (.inl 0), none, none, none]) d_Validator_countReferences_1 rfl rfl ?_
  refine k_sb (lv' := [some (.inr 8), some (.inl 0), none, none, none]) (sb_s (sb_s (sb_s (sb_s (sb_s sb_nil))))) ?_
  refine k_loop (S := Int) (st := fun _ => []) (lv := fun s3 => [some (.inr 8), some (.inl s3), none, none, none]) (fun K1 hK2 s3 σ4 h => ?_) 0 _ h
  refine k_iload_n d_Validator_countReferences_2 rfl ?_
  refine k_aload_n d_Validator_countReferences_3 rfl ?_
  refine k_getR d_Validator_countReferences_4 fl_8_31 ob_8 rfl ?_
  refine k_getI (x := (σ4.1 6 2)) d_Validator_countReferences_7 fl_8_113 ob_6 rfl rfl ?_
  refine k_icge d_Validator_countReferences_10 rfl (fun c5 => ?_) (fun c5 => ?_)
  · have h := ineg c5 h
    refine k_iconst d_Validator_countReferences_93 cI_0 ?_
    refine k_istore_n (lv' := [some (.inr 8), some (.inl 0), none, none, none]) d_Validator_countReferences_94 rfl rfl ?_
    refine k_sb (lv' := [some (.inr 8), some (.inl 0), none, none, none]) (sb_s (sb_s (sb_s (sb_s (sb_s sb_nil))))) ?_
    refine k_loop (S := Int) (st := fun _ => []) (lv := fun s8 => [some (.inr 8), some (.inl s8), none, none, none]) (fun K6 hK7 s8 σ9 h => ?_) 0 _ h
    refine k_iload_n d_Validator_countReferences_95 rfl ?_
    refine k_aload_n d_Validator_countReferences_96 rfl ?_
    refine k_getR d_Validator_countReferences_97 fl_8_23 ob_8 rfl ?_
    refine k_getI (x := (σ9.1 4 12)) d_Validator_countReferences_100 fl_8_231 ob_4 rfl rfl ?_
    refine k_icge d_Validator_countReferences_103 rfl (fun c10 => ?_) (fun c10 => ?_)
    · have h := ineg c10 h
      exact k_ret d_Validator_countReferences_149 h
    · have h := ipos c10 h
      refine k_aload_n d_Validator_countReferences_106 rfl ?_
      refine k_getR d_Validator_countReferences_107 fl_8_68 ob_8 rfl ?_
      refine k_iload_n d_Validator_countReferences_110 rfl ?_
      obtain ⟨p22, h⟩ := h
      refine k_ild (x := (σ9.2 154 (Int.toNat s8))) d_Validator_countReferences_111 rI_154 p22 rfl ?_
      refine k_join (S := Unit) (pc' := 143) (st' := fun s13 => []) (lv' := fun s13 => [some (.inr 8), some (.inl s8), none, none, none]) (fun s13 σ14 h => ?_) (fun J11 hJ12 h => ?_) h
      · obtain ⟨p15, h⟩ := h
        refine k_iinc (lv' := [some (.inr 8), some (.inl (s8 + 1)), none, none, none]) d_Validator_countReferences_143 cI_1 rfl rfl p15 rfl ?_
        refine k_goto d_Validator_countReferences_146 rfl ?_
        exact k_sb (sb_s (sb_s (sb_s (sb_s (sb_s sb_nil))))) (hK7 (s8 + 1) _ h)
      · refine k_ifle d_Validator_countReferences_112 rfl (fun c16 => ?_) (fun c16 => ?_)
        · have h := ineg c16 h
          exact k_sb (sb_s (sb_s (sb_s (sb_s (sb_s sb_nil))))) (hJ12 () _ h)
        · have h := ipos c16 h
          refine k_aload_n d_Validator_countReferences_115 rfl ?_
          refine k_aload_n d_Validator_countReferences_116 rfl ?_
          refine k_getR d_Validator_countReferences_117 fl_8_23 ob_8 rfl ?_
          refine k_getR d_Validator_countReferences_120 fl_8_227 ob_4 rfl ?_
          refine k_iload_n d_Validator_countReferences_123 rfl ?_
          obtain ⟨p21, h⟩ := h
          refine k_ild (x := (σ9.2 120 (Int.toNat s8))) d_Validator_countReferences_124 rI_120 p21 rfl ?_
          refine k_aload_n d_Validator_countReferences_125 rfl ?_
          refine k_getR d_Validator_countReferences_126 fl_8_23 ob_8 rfl ?_
          refine k_getR d_Validator_countReferences_129 fl_8_237 ob_4 rfl ?_
          refine k_iload_n d_Validator_countReferences_132 rfl ?_
          obtain ⟨p20, h⟩ := h
          refine k_ild (x := (σ9.2 118 (Int.toNat s8))) d_Validator_countReferences_133 rI_118 p20 rfl ?_
          refine k_aload_n d_Validator_countReferences_134 rfl ?_
          refine k_getR d_Validator_countReferences_135 fl_8_68 ob_8 rfl ?_
          refine k_iload_n d_Validator_countReferences_138 rfl ?_
          obtain ⟨p19, h⟩ := h
          refine k_ild (x := (σ9.2 154 (Int.toNat s8))) d_Validator_countReferences_139 rI_154 p19 rfl ?_
          refine k_cvv [.inl (σ9.2 120 (Int.toNat s8)), .inl (σ9.2 118 (Int.toNat s8)), .inl (σ9.2 154 (Int.toNat s8))] d_Validator_countReferences_140 ml_8_274 rfl rfl ob_8 rfl (s_Validator_countWords hL (by omega)  h) (fun σ17 h => ?_)
          exact k_sb (sb_s (sb_s (sb_s (sb_s (sb_s sb_nil))))) (hJ12 () _ h)
  · have h := ipos c5 h
    refine k_iconst d_Validator_countReferences_13 cI_0 ?_
    refine k_istore_n (lv' := [some (.inr 8), some (.inl s3), some (.inl 0), none, none]) d_Validator_countReferences_14 rfl rfl ?_
    refine k_sb (lv' := [some (.inr 8), some (.inl s3), some (.inl 0), none, none]) (sb_s (sb_s (sb_s (sb_s (sb_s sb_nil))))) ?_
    refine k_loop (S := Int) (st := fun _ => []) (lv := fun s25 => [some (.inr 8), some (.inl s3), some (.inl s25), none, none]) (fun K23 hK24 s25 σ26 h => ?_) 0 _ h
    refine k_iload_n d_Validator_countReferences_15 rfl ?_
    refine k_aload_n d_Validator_countReferences_16 rfl ?_
    refine k_getR d_Validator_countReferences_17 fl_8_31 ob_8 rfl ?_
    refine k_getR d_Validator_countReferences_20 fl_8_207 ob_6 rfl ?_
    refine k_iload_n d_Validator_countReferences_23 rfl ?_
    obtain ⟨p42, h⟩ := h
    refine k_ild (x := (σ26.2 132 (Int.toNat s3))) d_Validator_countReferences_24 rI_132 p42 rfl ?_
    refine k_icge d_Validator_countReferences_25 rfl (fun c27 => ?_) (fun c27 => ?_)
    · have h := ineg c27 h
      obtain ⟨p28, h⟩ := h
      refine k_iinc (lv' := [some (.inr 8), some (.inl (s3 + 1)), some (.inl s25), none, none]) d_Validator_countReferences_87 cI_1 rfl rfl p28 rfl ?_
      refine k_goto d_Validator_countReferences_90 rfl ?_
      exact k_sb (sb_s (sb_s (sb_n (sb_s (sb_s sb_nil))))) (hK2 (s3 + 1) _ h)
    · have h := ipos c27 h
      refine k_aload_n d_Validator_countReferences_28 rfl ?_
      refine k_getR d_Validator_countReferences_29 fl_8_31 ob_8 rfl ?_
      refine k_getR d_Validator_countReferences_32 fl_8_210 ob_6 rfl ?_
      refine k_iload_n d_Validator_countReferences_35 rfl ?_
      obtain ⟨p41, h⟩ := h
      refine k_ild (x := (σ26.2 130 (Int.toNat s3))) d_Validator_countReferences_36 rI_130 p41 rfl ?_
      refine k_iload_n d_Validator_countReferences_37 rfl ?_
      obtain ⟨p40, h⟩ := h
      refine k_iadd d_Validator_countReferences_38 p40 ?_
      refine k_istore_n (lv' := [some (.inr 8), some (.inl s3), some (.inl s25), some (.inl ((σ26.2 130 (Int.toNat s3)) + s25)), none]) d_Validator_countReferences_39 rfl rfl ?_
      refine k_aload_n d_Validator_countReferences_40 rfl ?_
      refine k_getR d_Validator_countReferences_41 fl_8_31 ob_8 rfl ?_
      refine k_getR d_Validator_countReferences_44 fl_8_213 ob_6 rfl ?_
      refine k_iload_n d_Validator_countReferences_47 rfl ?_
      obtain ⟨p39, h⟩ := h
      refine k_ild (x := (σ26.2 135 (Int.toNat ((σ26.2 130 (Int.toNat s3)) + s25)))) d_Validator_countReferences_48 rI_135 p39 rfl ?_
      refine k_istore (lv' := [some (.inr 8), some (.inl s3), some (.inl s25), some (.inl ((σ26.2 130 (Int.toNat s3)) + s25)), some (.inl (σ26.2 135 (Int.toNat ((σ26.2 130 (Int.toNat s3)) + s25))))]) d_Validator_countReferences_49 rfl rfl ?_
      refine k_iload d_Validator_countReferences_51 rfl ?_
      refine k_iconst d_Validator_countReferences_53 cI_m1 ?_
      refine k_join (S := Unit) (pc' := 81) (st' := fun s31 => []) (lv' := fun s31 => [some (.inr 8), some (.inl s3), some (.inl s25), none, none]) (fun s31 σ32 h => ?_) (fun J29 hJ30 h => ?_) h
      · obtain ⟨p33, h⟩ := h
        refine k_iinc (lv' := [some (.inr 8), some (.inl s3), some (.inl (s25 + 1)), none, none]) d_Validator_countReferences_81 cI_1 rfl rfl p33 rfl ?_
        refine k_goto d_Validator_countReferences_84 rfl ?_
        exact k_sb (sb_s (sb_s (sb_s (sb_s (sb_s sb_nil))))) (hK24 (s25 + 1) _ h)
      · refine k_iceq d_Validator_countReferences_54 rfl (fun c34 => ?_) (fun c34 => ?_)
        · have h := ipos c34 h
          exact k_sb (sb_s (sb_s (sb_s (sb_n (sb_n sb_nil))))) (hJ30 () _ h)
        · have h := ineg c34 h
          refine k_aload_n d_Validator_countReferences_57 rfl ?_
          refine k_aload_n d_Validator_countReferences_58 rfl ?_
          refine k_getR d_Validator_countReferences_59 fl_8_31 ob_8 rfl ?_
          refine k_getR d_Validator_countReferences_62 fl_8_216 ob_6 rfl ?_
          refine k_iload_n d_Validator_countReferences_65 rfl ?_
          obtain ⟨p38, h⟩ := h
          refine k_ild (x := (σ26.2 134 (Int.toNat ((σ26.2 130 (Int.toNat s3)) + s25)))) d_Validator_countReferences_66 rI_134 p38 rfl ?_
          refine k_aload_n d_Validator_countReferences_67 rfl ?_
          refine k_getR d_Validator_countReferences_68 fl_8_23 ob_8 rfl ?_
          refine k_getR d_Validator_countReferences_71 fl_8_237 ob_4 rfl ?_
          refine k_iload d_Validator_countReferences_74 rfl ?_
          obtain ⟨p37, h⟩ := h
          refine k_ild (x := (σ26.2 118 (Int.toNat (σ26.2 135 (Int.toNat ((σ26.2 130 (Int.toNat s3)) + s25)))))) d_Validator_countReferences_76 rI_118 p37 rfl ?_
          refine k_iconst d_Validator_countReferences_77 cI_1 ?_
          refine k_cvv [.inl (σ26.2 134 (Int.toNat ((σ26.2 130 (Int.toNat s3)) + s25))), .inl (σ26.2 118 (Int.toNat (σ26.2 135 (Int.toNat ((σ26.2 130 (Int.toNat s3)) + s25))))), .inl 1] d_Validator_countReferences_78 ml_8_274 rfl rfl ob_8 rfl (s_Validator_countWords hL (by omega)  h) (fun σ35 h => ?_)
          exact k_sb (sb_s (sb_s (sb_s (sb_n (sb_n sb_nil))))) (hJ30 () _ h)
