theorem d_Doctype_readElement_0 : decode b_Doctype_readElement 0 = .ok (.aload_n 0, 1) := by decide +kernel
theorem d_Doctype_readElement_1 : decode b_Doctype_readElement 1 = .ok (.getfield 17, 3) := by decide +kernel
theorem d_Doctype_readElement_4 : decode b_Doctype_readElement 4 = .ok (.ldc 130, 2) := by decide +kernel
theorem d_Doctype_readElement_6 : decode b_Doctype_readElement 6 = .ok (.invokevirtual 53, 3) := by decide +kernel
theorem d_Doctype_readElement_9 : decode b_Doctype_readElement 9 = .ok (.aload_n 0, 1) := by decide +kernel
theorem d_Doctype_readElement_10 : decode b_Doctype_readElement 10 = .ok (.getfield 17, 3) := by decide +kernel
theorem d_Doctype_readElement_13 : decode b_Doctype_readElement 13 = .ok (.invokevirtual 59, 3) := by decide +kernel
theorem d_Doctype_readElement_16 : decode b_Doctype_readElement 16 = .ok (.aload_n 0, 1) := by decide +kernel
theorem d_Doctype_readElement_17 : decode b_Doctype_readElement 17 = .ok (.getfield 17, 3) := by decide +kernel
theorem d_Doctype_readElement_20 : decode b_Doctype_readElement 20 = .ok (.invokevirtual 62, 3) := by decide +kernel
theorem d_Doctype_readElement_23 : decode b_Doctype_readElement 23 = .ok (.istore_n 1, 1) := by decide +kernel
theorem d_Doctype_readElement_24 : decode b_Doctype_readElement 24 = .ok (.aload_n 0, 1) := by decide +kernel
theorem d_Doctype_readElement_25 : decode b_Doctype_readElement 25 = .ok (.getfield 17, 3) := by decide +kernel
theorem d_Doctype_readElement_28 : decode b_Doctype_readElement 28 = .ok (.getfield 66, 3) := by decide +kernel
theorem d_Doctype_readElement_31 : decode b_Doctype_readElement 31 = .ok (.iload_n 1, 1) := by decide +kernel
theorem d_Doctype_readElement_32 : decode b_Doctype_readElement 32 = .ok (.isub, 1) := by decide +kernel
theorem d_Doctype_readElement_33 : decode b_Doctype_readElement 33 = .ok (.istore_n 2, 1) := by decide +kernel
theorem d_Doctype_readElement_34 : decode b_Doctype_readElement 34 = .ok (.aload_n 0, 1) := by decide +kernel
theorem d_Doctype_readElement_35 : decode b_Doctype_readElement 35 = .ok (.getfield 17, 3) := by decide +kernel
theorem d_Doctype_readElement_38 : decode b_Doctype_readElement 38 = .ok (.invokevirtual 59, 3) := by decide +kernel
theorem d_Doctype_readElement_41 : decode b_Doctype_readElement 41 = .ok (.aload_n 0, 1) := by decide +kernel
theorem d_Doctype_readElement_42 : decode b_Doctype_readElement 42 = .ok (.getfield 17, 3) := by decide +kernel
theorem d_Doctype_readElement_45 : decode b_Doctype_readElement 45 = .ok (.getfield 66, 3) := by decide +kernel
theorem d_Doctype_readElement_48 : decode b_Doctype_readElement 48 = .ok (.istore_n 3, 1) := by decide +kernel
theorem d_Doctype_readElement_49 : decode b_Doctype_readElement 49 = .ok (.iconst 3, 1) := by decide +kernel
theorem d_Doctype_readElement_50 : decode b_Doctype_readElement 50 = .ok (.istore 4, 2) := by decide +kernel
theorem d_Doctype_readElement_52 : decode b_Doctype_readElement 52 = .ok (.aload_n 0, 1) := by decide +kernel
theorem d_Doctype_readElement_53 : decode b_Doctype_readElement 53 = .ok (.getfield 17, 3) := by decide +kernel
theorem d_Doctype_readElement_56 : decode b_Doctype_readElement 56 = .ok (.ldc 167, 2) := by decide +kernel
theorem d_Doctype_readElement_58 : decode b_Doctype_readElement 58 = .ok (.invokevirtual 87, 3) := by decide +kernel
theorem d_Doctype_readElement_61 : decode b_Doctype_readElement 61 = .ok (.ifCond .eq 9, 3) := by decide +kernel
theorem d_Doctype_readElement_64 : decode b_Doctype_readElement 64 = .ok (.iconst 0, 1) := by decide +kernel
theorem d_Doctype_readElement_65 : decode b_Doctype_readElement 65 = .ok (.istore 4, 2) := by decide +kernel
theorem d_Doctype_readElement_67 : decode b_Doctype_readElement 67 = .ok (.goto 64, 3) := by decide +kernel
theorem d_Doctype_readElement_70 : decode b_Doctype_readElement 70 = .ok (.aload_n 0, 1) := by decide +kernel
theorem d_Doctype_readElement_71 : decode b_Doctype_readElement 71 = .ok (.getfield 17, 3) := by decide +kernel
theorem d_Doctype_readElement_74 : decode b_Doctype_readElement 74 = .ok (.ldc 169, 2) := by decide +kernel
theorem d_Doctype_readElement_76 : decode b_Doctype_readElement 76 = .ok (.invokevirtual 87, 3) := by decide +kernel
theorem d_Doctype_readElement_79 : decode b_Doctype_readElement 79 = .ok (.ifCond .eq 9, 3) := by decide +kernel
theorem d_Doctype_readElement_82 : decode b_Doctype_readElement 82 = .ok (.iconst 1, 1) := by decide +kernel
theorem d_Doctype_readElement_83 : decode b_Doctype_readElement 83 = .ok (.istore 4, 2) := by decide +kernel
theorem d_Doctype_readElement_85 : decode b_Doctype_readElement 85 = .ok (.goto 46, 3) := by decide +kernel
theorem d_Doctype_readElement_88 : decode b_Doctype_readElement 88 = .ok (.aload_n 0, 1) := by decide +kernel
theorem d_Doctype_readElement_89 : decode b_Doctype_readElement 89 = .ok (.getfield 17, 3) := by decide +kernel
theorem d_Doctype_readElement_92 : decode b_Doctype_readElement 92 = .ok (.ldc 171, 2) := by decide +kernel
theorem d_Doctype_readElement_94 : decode b_Doctype_readElement 94 = .ok (.invokevirtual 53, 3) := by decide +kernel
theorem d_Doctype_readElement_97 : decode b_Doctype_readElement 97 = .ok (.aload_n 0, 1) := by decide +kernel
theorem d_Doctype_readElement_98 : decode b_Doctype_readElement 98 = .ok (.getfield 17, 3) := by decide +kernel
theorem d_Doctype_readElement_101 : decode b_Doctype_readElement 101 = .ok (.invokevirtual 69, 3) := by decide +kernel
theorem d_Doctype_readElement_104 : decode b_Doctype_readElement 104 = .ok (.pop, 1) := by decide +kernel
theorem d_Doctype_readElement_105 : decode b_Doctype_readElement 105 = .ok (.aload_n 0, 1) := by decide +kernel
theorem d_Doctype_readElement_106 : decode b_Doctype_readElement 106 = .ok (.getfield 17, 3) := by decide +kernel
theorem d_Doctype_readElement_109 : decode b_Doctype_readElement 109 = .ok (.ldc 173, 2) := by decide +kernel
theorem d_Doctype_readElement_111 : decode b_Doctype_readElement 111 = .ok (.invokevirtual 87, 3) := by decide +kernel
theorem d_Doctype_readElement_114 : decode b_Doctype_readElement 114 = .ok (.ifCond .eq 13, 3) := by decide +kernel
theorem d_Doctype_readElement_117 : decode b_Doctype_readElement 117 = .ok (.iconst 2, 1) := by decide +kernel
theorem d_Doctype_readElement_118 : decode b_Doctype_readElement 118 = .ok (.istore 4, 2) := by decide +kernel
theorem d_Doctype_readElement_120 : decode b_Doctype_readElement 120 = .ok (.aload_n 0, 1) := by decide +kernel
theorem d_Doctype_readElement_121 : decode b_Doctype_readElement 121 = .ok (.invokevirtual 175, 3) := by decide +kernel
theorem d_Doctype_readElement_124 : decode b_Doctype_readElement 124 = .ok (.goto 7, 3) := by decide +kernel
theorem d_Doctype_readElement_127 : decode b_Doctype_readElement 127 = .ok (.aload_n 0, 1) := by decide +kernel
theorem d_Doctype_readElement_128 : decode b_Doctype_readElement 128 = .ok (.invokevirtual 178, 3) := by decide +kernel
theorem d_Doctype_readElement_131 : decode b_Doctype_readElement 131 = .ok (.aload_n 0, 1) := by decide +kernel
theorem d_Doctype_readElement_132 : decode b_Doctype_readElement 132 = .ok (.getfield 17, 3) := by decide +kernel
theorem d_Doctype_readElement_135 : decode b_Doctype_readElement 135 = .ok (.invokevirtual 69, 3) := by decide +kernel
theorem d_Doctype_readElement_138 : decode b_Doctype_readElement 138 = .ok (.pop, 1) := by decide +kernel
theorem d_Doctype_readElement_139 : decode b_Doctype_readElement 139 = .ok (.aload_n 0, 1) := by decide +kernel
theorem d_Doctype_readElement_140 : decode b_Doctype_readElement 140 = .ok (.getfield 17, 3) := by decide +kernel
theorem d_Doctype_readElement_143 : decode b_Doctype_readElement 143 = .ok (.ldc 90, 2) := by decide +kernel
theorem d_Doctype_readElement_145 : decode b_Doctype_readElement 145 = .ok (.invokevirtual 53, 3) := by decide +kernel
theorem d_Doctype_readElement_148 : decode b_Doctype_readElement 148 = .ok (.iload 4, 2) := by decide +kernel
theorem d_Doctype_readElement_150 : decode b_Doctype_readElement 150 = .ok (.iconst 3, 1) := by decide +kernel
theorem d_Doctype_readElement_151 : decode b_Doctype_readElement 151 = .ok (.if_icmp .ne 30, 3) := by decide +kernel
theorem d_Doctype_readElement_154 : decode b_Doctype_readElement 154 = .ok (.aload_n 0, 1) := by decide +kernel
theorem d_Doctype_readElement_155 : decode b_Doctype_readElement 155 = .ok (.getfield 181, 3) := by decide +kernel
theorem d_Doctype_readElement_158 : decode b_Doctype_readElement 158 = .ok (.sipush 255, 3) := by decide +kernel
theorem d_Doctype_readElement_161 : decode b_Doctype_readElement 161 = .ok (.if_icmp .gt 12, 3) := by decide +kernel
theorem d_Doctype_readElement_164 : decode b_Doctype_readElement 164 = .ok (.aload_n 0, 1) := by decide +kernel
theorem d_Doctype_readElement_165 : decode b_Doctype_readElement 165 = .ok (.getfield 184, 3) := by decide +kernel
theorem d_Doctype_readElement_168 : decode b_Doctype_readElement 168 = .ok (.bipush 60, 2) := by decide +kernel
theorem d_Doctype_readElement_170 : decode b_Doctype_readElement 170 = .ok (.if_icmp .le 11, 3) := by decide +kernel
theorem d_Doctype_readElement_173 : decode b_Doctype_readElement 173 = .ok (.aload_n 0, 1) := by decide +kernel
theorem d_Doctype_readElement_174 : decode b_Doctype_readElement 174 = .ok (.getfield 17, 3) := by decide +kernel
theorem d_Doctype_readElement_177 : decode b_Doctype_readElement 177 = .ok (.iconst 4, 1) := by decide +kernel
theorem d_Doctype_readElement_178 : decode b_Doctype_readElement 178 = .ok (.invokevirtual 92, 3) := by decide +kernel
theorem d_Doctype_readElement_181 : decode b_Doctype_readElement 181 = .ok (.aload_n 0, 1) := by decide +kernel
theorem d_Doctype_readElement_182 : decode b_Doctype_readElement 182 = .ok (.getfield 17, 3) := by decide +kernel
theorem d_Doctype_readElement_185 : decode b_Doctype_readElement 185 = .ok (.getfield 140, 3) := by decide +kernel
theorem d_Doctype_readElement_188 : decode b_Doctype_readElement 188 = .ok (.ifCond .ne 22, 3) := by decide +kernel
theorem d_Doctype_readElement_191 : decode b_Doctype_readElement 191 = .ok (.aload_n 0, 1) := by decide +kernel
theorem d_Doctype_readElement_192 : decode b_Doctype_readElement 192 = .ok (.getfield 25, 3) := by decide +kernel
theorem d_Doctype_readElement_195 : decode b_Doctype_readElement 195 = .ok (.aload_n 0, 1) := by decide +kernel
theorem d_Doctype_readElement_196 : decode b_Doctype_readElement 196 = .ok (.getfield 11, 3) := by decide +kernel
theorem d_Doctype_readElement_199 : decode b_Doctype_readElement 199 = .ok (.iload_n 1, 1) := by decide +kernel
theorem d_Doctype_readElement_200 : decode b_Doctype_readElement 200 = .ok (.iload_n 2, 1) := by decide +kernel
theorem d_Doctype_readElement_201 : decode b_Doctype_readElement 201 = .ok (.invokevirtual 96, 3) := by decide +kernel
theorem d_Doctype_readElement_204 : decode b_Doctype_readElement 204 = .ok (.iload 4, 2) := by decide +kernel
theorem d_Doctype_readElement_206 : decode b_Doctype_readElement 206 = .ok (.iload_n 3, 1) := by decide +kernel
theorem d_Doctype_readElement_207 : decode b_Doctype_readElement 207 = .ok (.invokevirtual 187, 3) := by decide +kernel
theorem d_Doctype_readElement_210 : decode b_Doctype_readElement 210 = .ok (.return_, 1) := by decide +kernel
/-- Doctype_readElement -/
def w_Doctype_readElement (L : Nat → Nat)  (Q : IS → Prop) (σ : IS) : Prop := w_Reader_need L 1028 (fun σ1 => w_Reader_needSpace L  (fun σ3 => w_Reader_readName L  (fun v6 σ5 => inR ((σ5.1 2 2) - v6) ∧ w_Reader_needSpace L  (fun σ7 => w_Reader_skip L 1035 (fun v10 σ9 => WJ (fun (s13 : Int) (σ14 : IS) => w_Reader_skipSpace L  (fun v16 σ15 => w_Reader_need L 1025 (fun σ17 => WJ (fun (s21 : Unit) (σ22 : IS) => WJ (fun (s25 : Unit) (σ26 : IS) => Q σ26) (fun J23 => if (σ22.1 2 4) = 0 then w_Store_intern L v6 ((σ5.1 2 2) - v6) (fun v29 σ28 => w_Declared_addElement L v29 s13 (σ7.1 2 2) (fun σ30 => J23 () σ30) σ28) σ22 else J23 () σ22)) (fun J19 => if s13 = 3 then if 255 < (σ17.1 5 8) ∨ (60 < (σ17.1 5 9)) then w_Reader_fail L 4 (fun σ33 => J19 () σ33) σ17 else J19 () σ17 else J19 () σ17)) σ15) σ14) (fun J11 => if v10 = 0 then w_Reader_skip L 1036 (fun v42 σ41 => if v42 = 0 then w_Reader_need L 1037 (fun σ44 => w_Reader_skipSpace L  (fun v47 σ46 => w_Reader_skip L 1038 (fun v49 σ48 => if v49 = 0 then w_Doctype_readModel L  (fun σ51 => J11 3 σ51) σ48 else w_Doctype_readMixed L  (fun σ53 => J11 2 σ53) σ48) σ46) σ44) σ41 else J11 1 σ41) σ9 else J11 0 σ9)) σ7) σ5) σ3) σ1) σ
set_option maxHeartbeats 4000000 in
set_option maxRecDepth 20000 in
theorem s_Doctype_readElement {L : Nat → Nat} (hL : ∀ r, L r < 2147483648) {d : Nat} (hd : 3 ≤ d)  {Q : IS → Prop} {σ : IS}  (h : w_Doctype_readElement L  Q σ) : OkI BF L d 5 b_Doctype_readElement 5 0 0 [] [some (.inr 5)] σ (qv Q) := by
  unfold w_Doctype_readElement at h
  obtain ⟨d, rfl⟩ : ∃ e, d = e + 1 := ⟨d - 1, by omega⟩
  refine k_sb (lv' := [some (.inr 5), none, none, none, none]) (sb_s (sb_e (sb_e (sb_e (sb_e sb_nil))))) ?_
  refine k_aload_n d_Doctype_readElement_0 rfl ?_
  refine k_getR d_Doctype_readElement_1 fl_5_17 ob_5 rfl ?_
  refine k_ldc d_Doctype_readElement_4 ks_5_130 rfl ?_
  refine k_cvv [.inr 1028] d_Doctype_readElement_6 ml_5_53 rfl rfl ob_2 rfl (s_Reader_need hL (by omega) it_1028 h) (fun σ1 h => ?_)
  refine k_aload_n d_Doctype_readElement_9 rfl ?_
  refine k_getR d_Doctype_readElement_10 fl_5_17 ob_5 rfl ?_
  refine k_cvv [] d_Doctype_readElement_13 ml_5_59 rfl rfl ob_2 rfl (s_Reader_needSpace hL (by omega)  h) (fun σ3 h => ?_)
  refine k_aload_n d_Doctype_readElement_16 rfl ?_
  refine k_getR d_Doctype_readElement_17 fl_5_17 ob_5 rfl ?_
  refine k_cvi [] d_Doctype_readElement_20 ml_5_62 rfl rfl ob_2 rfl (s_Reader_readName hL (by omega)  h) (fun v6 σ5 h => ?_)
  refine k_istore_n (lv' := [some (.inr 5), some (.inl v6), none, none, none]) d_Doctype_readElement_23 rfl rfl ?_
  refine k_aload_n d_Doctype_readElement_24 rfl ?_
  refine k_getR d_Doctype_readElement_25 fl_5_17 ob_5 rfl ?_
  refine k_getI (x := (σ5.1 2 2)) d_Doctype_readElement_28 fl_5_66 ob_2 rfl rfl ?_
  refine k_iload_n d_Doctype_readElement_31 rfl ?_
  obtain ⟨p55, h⟩ := h
  refine k_isub d_Doctype_readElement_32 p55 ?_
  refine k_istore_n (lv' := [some (.inr 5), some (.inl v6), some (.inl ((σ5.1 2 2) - v6)), none, none]) d_Doctype_readElement_33 rfl rfl ?_
  refine k_aload_n d_Doctype_readElement_34 rfl ?_
  refine k_getR d_Doctype_readElement_35 fl_5_17 ob_5 rfl ?_
  refine k_cvv [] d_Doctype_readElement_38 ml_5_59 rfl rfl ob_2 rfl (s_Reader_needSpace hL (by omega)  h) (fun σ7 h => ?_)
  refine k_aload_n d_Doctype_readElement_41 rfl ?_
  refine k_getR d_Doctype_readElement_42 fl_5_17 ob_5 rfl ?_
  refine k_getI (x := (σ7.1 2 2)) d_Doctype_readElement_45 fl_5_66 ob_2 rfl rfl ?_
  refine k_istore_n (lv' := [some (.inr 5), some (.inl v6), some (.inl ((σ5.1 2 2) - v6)), some (.inl (σ7.1 2 2)), none]) d_Doctype_readElement_48 rfl rfl ?_
  refine k_iconst d_Doctype_readElement_49 cI_3 ?_
  refine k_istore (lv' := [some (.inr 5), some (.inl v6), some (.inl ((σ5.1 2 2) - v6)), some (.inl (σ7.1 2 2)), some (.inl 3)]) d_Doctype_readElement_50 rfl rfl ?_
  refine k_aload_n d_Doctype_readElement_52 rfl ?_
  refine k_getR d_Doctype_readElement_53 fl_5_17 ob_5 rfl ?_
  refine k_ldc d_Doctype_readElement_56 ks_5_167 rfl ?_
  refine k_cvi [.inr 1035] d_Doctype_readElement_58 ml_5_87 rfl rfl ob_2 rfl (s_Reader_skip hL (by omega) it_1035 h) (fun v10 σ9 h => ?_)
  refine k_join (S := Int) (pc' := 131) (st' := fun s13 => []) (lv' := fun s13 => [some (.inr 5), some (.inl v6), some (.inl ((σ5.1 2 2) - v6)), some (.inl (σ7.1 2 2)), some (.inl s13)]) (fun s13 σ14 h => ?_) (fun J11 hJ12 h => ?_) h
  · refine k_aload_n d_Doctype_readElement_131 rfl ?_
    refine k_getR d_Doctype_readElement_132 fl_5_17 ob_5 rfl ?_
    refine k_cvi [] d_Doctype_readElement_135 ml_5_69 rfl rfl ob_2 rfl (s_Reader_skipSpace hL (by omega)  h) (fun v16 σ15 h => ?_)
    refine k_pop d_Doctype_readElement_138 ?_
    refine k_aload_n d_Doctype_readElement_139 rfl ?_
    refine k_getR d_Doctype_readElement_140 fl_5_17 ob_5 rfl ?_
    refine k_ldc d_Doctype_readElement_143 ks_5_90 rfl ?_
    refine k_cvv [.inr 1025] d_Doctype_readElement_145 ml_5_53 rfl rfl ob_2 rfl (s_Reader_need hL (by omega) it_1025 h) (fun σ17 h => ?_)
    refine k_iload d_Doctype_readElement_148 rfl ?_
    refine k_iconst d_Doctype_readElement_150 cI_3 ?_
    refine k_join (S := Unit) (pc' := 181) (st' := fun s21 => []) (lv' := fun s21 => [some (.inr 5), some (.inl v6), some (.inl ((σ5.1 2 2) - v6)), some (.inl (σ7.1 2 2)), some (.inl s13)]) (fun s21 σ22 h => ?_) (fun J19 hJ20 h => ?_) h
    · refine k_aload_n d_Doctype_readElement_181 rfl ?_
      refine k_getR d_Doctype_readElement_182 fl_5_17 ob_5 rfl ?_
      refine k_getI (x := (σ22.1 2 4)) d_Doctype_readElement_185 fl_5_140 ob_2 rfl rfl ?_
      refine k_join (S := Unit) (pc' := 210) (st' := fun s25 => []) (lv' := fun s25 => [none, none, none, none, none]) (fun s25 σ26 h => ?_) (fun J23 hJ24 h => ?_) h
      · exact k_ret d_Doctype_readElement_210 h
      · refine k_ifne d_Doctype_readElement_188 rfl (fun c27 => ?_) (fun c27 => ?_)
        · have h := ineg c27 h
          exact k_sb (sb_n (sb_n (sb_n (sb_n (sb_n sb_nil))))) (hJ24 () _ h)
        · have h := ipos c27 h
          refine k_aload_n d_Doctype_readElement_191 rfl ?_
          refine k_getR d_Doctype_readElement_192 fl_5_25 ob_5 rfl ?_
          refine k_aload_n d_Doctype_readElement_195 rfl ?_
          refine k_getR d_Doctype_readElement_196 fl_5_11 ob_5 rfl ?_
          refine k_iload_n d_Doctype_readElement_199 rfl ?_
          refine k_iload_n d_Doctype_readElement_200 rfl ?_
          refine k_cvi [.inl v6, .inl ((σ5.1 2 2) - v6)] d_Doctype_readElement_201 ml_5_96 rfl rfl ob_1 rfl (s_Store_intern hL (by omega) stB_BF h) (fun v29 σ28 h => ?_)
          refine k_iload d_Doctype_readElement_204 rfl ?_
          refine k_iload_n d_Doctype_readElement_206 rfl ?_
          refine k_cvv [.inl v29, .inl s13, .inl (σ7.1 2 2)] d_Doctype_readElement_207 ml_5_187 rfl rfl ob_4 rfl (s_Declared_addElement hL (by omega)  h) (fun σ30 h => ?_)
          exact k_sb (sb_n (sb_n (sb_n (sb_n (sb_n sb_nil))))) (hJ24 () _ h)
    · refine k_icne d_Doctype_readElement_151 rfl (fun c32 => ?_) (fun c32 => ?_)
      · have h := ineg c32 h
        exact k_sb (sb_s (sb_s (sb_s (sb_s (sb_s sb_nil))))) (hJ20 () _ h)
      · have h := ipos c32 h
        refine k_aload_n d_Doctype_readElement_154 rfl ?_
        refine k_getI (x := (σ17.1 5 8)) d_Doctype_readElement_155 fl_5_181 ob_5 rfl rfl ?_
        refine k_sipush d_Doctype_readElement_158 cS_255 ?_
        have hX35 : (255 < (σ17.1 5 8) ∨ (60 < (σ17.1 5 9))) → OkI BF L (d + 1) 5 b_Doctype_readElement 5 0 173 [] [some (.inr 5), some (.inl v6), some (.inl ((σ5.1 2 2) - v6)), some (.inl (σ7.1 2 2)), some (.inl s13)] σ17 (qv Q) := fun e37 => by
          have h := ipos e37 h
          refine k_aload_n d_Doctype_readElement_173 rfl ?_
          refine k_getR d_Doctype_readElement_174 fl_5_17 ob_5 rfl ?_
          refine k_iconst d_Doctype_readElement_177 cI_4 ?_
          refine k_cvv [.inl 4] d_Doctype_readElement_178 ml_5_92 rfl rfl ob_2 rfl (s_Reader_fail hL (by omega)  h) (fun σ33 h => ?_)
          exact k_sb (sb_s (sb_s (sb_s (sb_s (sb_s sb_nil))))) (hJ20 () _ h)
        have hY36 : ¬ (255 < (σ17.1 5 8) ∨ (60 < (σ17.1 5 9))) → OkI BF L (d + 1) 5 b_Doctype_readElement 5 0 181 [] [some (.inr 5), some (.inl v6), some (.inl ((σ5.1 2 2) - v6)), some (.inl (σ7.1 2 2)), some (.inl s13)] σ17 (qv Q) := fun e37 => by
          have h := ineg e37 h
          exact k_sb (sb_s (sb_s (sb_s (sb_s (sb_s sb_nil))))) (hJ20 () _ h)
        refine k_icgt d_Doctype_readElement_161 rfl (fun c38 => ?_) (fun c38 => ?_)
        · exact hX35 (Or.inl c38)
        · refine k_aload_n d_Doctype_readElement_164 rfl ?_
          refine k_getI (x := (σ17.1 5 9)) d_Doctype_readElement_165 fl_5_184 ob_5 rfl rfl ?_
          refine k_bipush d_Doctype_readElement_168 cB_60 ?_
          refine k_icle d_Doctype_readElement_170 rfl (fun c39 => ?_) (fun c39 => ?_)
          · exact hY36 (fun z => z.elim c38 (c39))
          · exact hX35 (Or.inr (c39))
  · refine k_ifeq d_Doctype_readElement_61 rfl (fun c40 => ?_) (fun c40 => ?_)
    · have h := ipos c40 h
      refine k_aload_n d_Doctype_readElement_70 rfl ?_
      refine k_getR d_Doctype_readElement_71 fl_5_17 ob_5 rfl ?_
      refine k_ldc d_Doctype_readElement_74 ks_5_169 rfl ?_
      refine k_cvi [.inr 1036] d_Doctype_readElement_76 ml_5_87 rfl rfl ob_2 rfl (s_Reader_skip hL (by omega) it_1036 h) (fun v42 σ41 h => ?_)
      refine k_ifeq d_Doctype_readElement_79 rfl (fun c43 => ?_) (fun c43 => ?_)
      · have h := ipos c43 h
        refine k_aload_n d_Doctype_readElement_88 rfl ?_
        refine k_getR d_Doctype_readElement_89 fl_5_17 ob_5 rfl ?_
        refine k_ldc d_Doctype_readElement_92 ks_5_171 rfl ?_
        refine k_cvv [.inr 1037] d_Doctype_readElement_94 ml_5_53 rfl rfl ob_2 rfl (s_Reader_need hL (by omega) it_1037 h) (fun σ44 h => ?_)
        refine k_aload_n d_Doctype_readElement_97 rfl ?_
        refine k_getR d_Doctype_readElement_98 fl_5_17 ob_5 rfl ?_
        refine k_cvi [] d_Doctype_readElement_101 ml_5_69 rfl rfl ob_2 rfl (s_Reader_skipSpace hL (by omega)  h) (fun v47 σ46 h => ?_)
        refine k_pop d_Doctype_readElement_104 ?_
        refine k_aload_n d_Doctype_readElement_105 rfl ?_
        refine k_getR d_Doctype_readElement_106 fl_5_17 ob_5 rfl ?_
        refine k_ldc d_Doctype_readElement_109 ks_5_173 rfl ?_
        refine k_cvi [.inr 1038] d_Doctype_readElement_111 ml_5_87 rfl rfl ob_2 rfl (s_Reader_skip hL (by omega) it_1038 h) (fun v49 σ48 h => ?_)
        refine k_ifeq d_Doctype_readElement_114 rfl (fun c50 => ?_) (fun c50 => ?_)
        · have h := ipos c50 h
          refine k_aload_n d_Doctype_readElement_127 rfl ?_
          refine k_cvv [] d_Doctype_readElement_128 ml_5_178 rfl rfl ob_5 rfl (s_Doctype_readModel hL (by omega)  h) (fun σ51 h => ?_)
          exact k_sb (sb_s (sb_s (sb_s (sb_s (sb_s sb_nil))))) (hJ12 3 _ h)
        · have h := ineg c50 h
          refine k_iconst d_Doctype_readElement_117 cI_2 ?_
          refine k_istore (lv' := [some (.inr 5), some (.inl v6), some (.inl ((σ5.1 2 2) - v6)), some (.inl (σ7.1 2 2)), some (.inl 2)]) d_Doctype_readElement_118 rfl rfl ?_
          refine k_aload_n d_Doctype_readElement_120 rfl ?_
          refine k_cvv [] d_Doctype_readElement_121 ml_5_175 rfl rfl ob_5 rfl (s_Doctype_readMixed hL (by omega)  h) (fun σ53 h => ?_)
          refine k_goto d_Doctype_readElement_124 rfl ?_
          exact k_sb (sb_s (sb_s (sb_s (sb_s (sb_s sb_nil))))) (hJ12 2 _ h)
      · have h := ineg c43 h
        refine k_iconst d_Doctype_readElement_82 cI_1 ?_
        refine k_istore (lv' := [some (.inr 5), some (.inl v6), some (.inl ((σ5.1 2 2) - v6)), some (.inl (σ7.1 2 2)), some (.inl 1)]) d_Doctype_readElement_83 rfl rfl ?_
        refine k_goto d_Doctype_readElement_85 rfl ?_
        exact k_sb (sb_s (sb_s (sb_s (sb_s (sb_s sb_nil))))) (hJ12 1 _ h)
    · have h := ineg c40 h
      refine k_iconst d_Doctype_readElement_64 cI_0 ?_
      refine k_istore (lv' := [some (.inr 5), some (.inl v6), some (.inl ((σ5.1 2 2) - v6)), some (.inl (σ7.1 2 2)), some (.inl 0)]) d_Doctype_readElement_65 rfl rfl ?_
      refine k_goto d_Doctype_readElement_67 rfl ?_
      exact k_sb (sb_s (sb_s (sb_s (sb_s (sb_s sb_nil))))) (hJ12 0 _ h)
theorem d_Reader_readToken_0 : decode b_Reader_readToken 0 = .ok (.aload_n 0, 1) := by decide +kernel
theorem d_Reader_readToken_1 : decode b_Reader_readToken 1 = .ok (.getfield 26, 3) := by decide +kernel
theorem d_Reader_readToken_4 : decode b_Reader_readToken 4 = .ok (.istore_n 1, 1) := by decide +kernel
theorem d_Reader_readToken_5 : decode b_Reader_readToken 5 = .ok (.aload_n 0, 1) := by decide +kernel
theorem d_Reader_readToken_6 : decode b_Reader_readToken 6 = .ok (.getfield 26, 3) := by decide +kernel
theorem d_Reader_readToken_9 : decode b_Reader_readToken 9 = .ok (.istore_n 2, 1) := by decide +kernel
theorem d_Reader_readToken_10 : decode b_Reader_readToken 10 = .ok (.iload_n 2, 1) := by decide +kernel
theorem d_Reader_readToken_11 : decode b_Reader_readToken 11 = .ok (.aload_n 0, 1) := by decide +kernel
theorem d_Reader_readToken_12 : decode b_Reader_readToken 12 = .ok (.getfield 32, 3) := by decide +kernel
theorem d_Reader_readToken_15 : decode b_Reader_readToken 15 = .ok (.if_icmp .ge 31, 3) := by decide +kernel
theorem d_Reader_readToken_18 : decode b_Reader_readToken 18 = .ok (.aload_n 0, 1) := by decide +kernel
theorem d_Reader_readToken_19 : decode b_Reader_readToken 19 = .ok (.getfield 21, 3) := by decide +kernel
theorem d_Reader_readToken_22 : decode b_Reader_readToken 22 = .ok (.iload_n 2, 1) := by decide +kernel
theorem d_Reader_readToken_23 : decode b_Reader_readToken 23 = .ok (.iaload, 1) := by decide +kernel
theorem d_Reader_readToken_24 : decode b_Reader_readToken 24 = .ok (.invokestatic 81, 3) := by decide +kernel
theorem d_Reader_readToken_27 : decode b_Reader_readToken 27 = .ok (.ifCond .eq 19, 3) := by decide +kernel
theorem d_Reader_readToken_30 : decode b_Reader_readToken 30 = .ok (.aload_n 0, 1) := by decide +kernel
theorem d_Reader_readToken_31 : decode b_Reader_readToken 31 = .ok (.dup, 1) := by decide +kernel
theorem d_Reader_readToken_32 : decode b_Reader_readToken 32 = .ok (.getfield 26, 3) := by decide +kernel
theorem d_Reader_readToken_35 : decode b_Reader_readToken 35 = .ok (.iconst 1, 1) := by decide +kernel
theorem d_Reader_readToken_36 : decode b_Reader_readToken 36 = .ok (.iadd, 1) := by decide +kernel
theorem d_Reader_readToken_37 : decode b_Reader_readToken 37 = .ok (.putfield 26, 3) := by decide +kernel
theorem d_Reader_readToken_40 : decode b_Reader_readToken 40 = .ok (.iinc 2 1, 3) := by decide +kernel
theorem d_Reader_readToken_43 : decode b_Reader_readToken 43 = .ok (.goto (-33), 3) := by decide +kernel
theorem d_Reader_readToken_46 : decode b_Reader_readToken 46 = .ok (.aload_n 0, 1) := by decide +kernel
theorem d_Reader_readToken_47 : decode b_Reader_readToken 47 = .ok (.getfield 26, 3) := by decide +kernel
theorem d_Reader_readToken_50 : decode b_Reader_readToken 50 = .ok (.iload_n 1, 1) := by decide +kernel
theorem d_Reader_readToken_51 : decode b_Reader_readToken 51 = .ok (.if_icmp .ne 8, 3) := by decide +kernel
theorem d_Reader_readToken_54 : decode b_Reader_readToken 54 = .ok (.aload_n 0, 1) := by decide +kernel
theorem d_Reader_readToken_55 : decode b_Reader_readToken 55 = .ok (.iconst 5, 1) := by decide +kernel
theorem d_Reader_readToken_56 : decode b_Reader_readToken 56 = .ok (.invokevirtual 66, 3) := by decide +kernel
theorem d_Reader_readToken_59 : decode b_Reader_readToken 59 = .ok (.iload_n 1, 1) := by decide +kernel
theorem d_Reader_readToken_60 : decode b_Reader_readToken 60 = .ok (.ireturn, 1) := by decide +kernel
/-- Reader_readToken -/
def w_Reader_readToken (L : Nat → Nat)  (Q : Int → IS → Prop) (σ : IS) : Prop := WL (fun (K1 : Int → IS → Prop) (s3 : Int) (σ4 : IS) => WJ (fun (s7 : Unit) (σ8 : IS) => WJ (fun (s11 : Unit) (σ12 : IS) => Q (σ.1 2 2) σ12) (fun J9 => if (σ8.1 2 2) = (σ.1 2 2) then w_Reader_fail L 5 (fun σ14 => J9 () σ14) σ8 else J9 () σ8)) (fun J5 => if s3 < (σ4.1 2 3) then inL L 101 s3 ∧ w_Reader_isNameCharacter L (σ4.2 101 (Int.toNat s3)) (fun v18 σ17 => if v18 = 0 then J5 () σ17 else inR ((σ17.1 2 2) + 1) ∧ inR (s3 + 1) ∧ K1 (s3 + 1) (pf σ17 2 2 ((σ17.1 2 2) + 1))) σ4 else J5 () σ4)) (σ.1 2 2) σ
set_option maxHeartbeats 4000000 in
set_option maxRecDepth 20000 in
theorem s_Reader_readToken {L : Nat → Nat} (hL : ∀ r, L r < 2147483648) {d : Nat} (hd : 1 ≤ d)  {Q : Int → IS → Prop} {σ : IS}  (h : w_Reader_readToken L  Q σ) : OkI BF L d 2 b_Reader_readToken 3 1 0 [] [some (.inr 2)] σ (qi Q) := by
  unfold w_Reader_readToken at h
  obtain ⟨d, rfl⟩ : ∃ e, d = e + 1 := ⟨d - 1, by omega⟩
  refine k_sb (lv' := [some (.inr 2), none, none]) (sb_s (sb_e (sb_e sb_nil))) ?_
  refine k_aload_n d_Reader_readToken_0 rfl ?_
  refine k_getI (x := (σ.1 2 2)) d_Reader_readToken_1 fl_2_26 ob_2 rfl rfl ?_
  refine k_istore_n (lv' := [some (.inr 2), some (.inl (σ.1 2 2)), none]) d_Reader_readToken_4 rfl rfl ?_
  refine k_aload_n d_Reader_readToken_5 rfl ?_
  refine k_getI (x := (σ.1 2 2)) d_Reader_readToken_6 fl_2_26 ob_2 rfl rfl ?_
  refine k_istore_n (lv' := [some (.inr 2), some (.inl (σ.1 2 2)), some (.inl (σ.1 2 2))]) d_Reader_readToken_9 rfl rfl ?_
  refine k_sb (lv' := [some (.inr 2), some (.inl (σ.1 2 2)), some (.inl (σ.1 2 2))]) (sb_s (sb_s (sb_s sb_nil))) ?_
  refine k_loop (S := Int) (st := fun _ => []) (lv := fun s3 => [some (.inr 2), some (.inl (σ.1 2 2)), some (.inl s3)]) (fun K1 hK2 s3 σ4 h => ?_) (σ.1 2 2) _ h
  refine k_iload_n d_Reader_readToken_10 rfl ?_
  refine k_aload_n d_Reader_readToken_11 rfl ?_
  refine k_getI (x := (σ4.1 2 3)) d_Reader_readToken_12 fl_2_32 ob_2 rfl rfl ?_
  refine k_join (S := Unit) (pc' := 46) (st' := fun s7 => []) (lv' := fun s7 => [some (.inr 2), some (.inl (σ.1 2 2)), none]) (fun s7 σ8 h => ?_) (fun J5 hJ6 h => ?_) h
  · refine k_aload_n d_Reader_readToken_46 rfl ?_
    refine k_getI (x := (σ8.1 2 2)) d_Reader_readToken_47 fl_2_26 ob_2 rfl rfl ?_
    refine k_iload_n d_Reader_readToken_50 rfl ?_
    refine k_join (S := Unit) (pc' := 59) (st' := fun s11 => []) (lv' := fun s11 => [none, some (.inl (σ.1 2 2)), none]) (fun s11 σ12 h => ?_) (fun J9 hJ10 h => ?_) h
    · refine k_iload_n d_Reader_readToken_59 rfl ?_
      exact k_iret d_Reader_readToken_60 (Or.inl rfl) h
    · refine k_icne d_Reader_readToken_51 rfl (fun c13 => ?_) (fun c13 => ?_)
      · have h := ineg c13 h
        exact k_sb (sb_n (sb_s (sb_s sb_nil))) (hJ10 () _ h)
      · have h := ipos c13 h
        refine k_aload_n d_Reader_readToken_54 rfl ?_
        refine k_iconst d_Reader_readToken_55 cI_5 ?_
        refine k_cvv [.inl 5] d_Reader_readToken_56 ml_2_66 rfl rfl ob_2 rfl (s_Reader_fail hL (by omega)  h) (fun σ14 h => ?_)
        exact k_sb (sb_n (sb_s (sb_s sb_nil))) (hJ10 () _ h)
  · refine k_icge d_Reader_readToken_15 rfl (fun c16 => ?_) (fun c16 => ?_)
    · have h := ineg c16 h
      exact k_sb (sb_s (sb_s (sb_n sb_nil))) (hJ6 () _ h)
    · have h := ipos c16 h
      refine k_aload_n d_Reader_readToken_18 rfl ?_
      refine k_getR d_Reader_readToken_19 fl_2_21 ob_2 rfl ?_
      refine k_iload_n d_Reader_readToken_22 rfl ?_
      obtain ⟨p22, h⟩ := h
      refine k_ild (x := (σ4.2 101 (Int.toNat s3))) d_Reader_readToken_23 rI_101 p22 rfl ?_
      refine k_csi [.inl (σ4.2 101 (Int.toNat s3))] d_Reader_readToken_24 ml_2_81 (Or.inl rfl) rfl rfl rfl (s_Reader_isNameCharacter hL (by omega)  h) (fun v18 σ17 h => ?_)
      refine k_ifeq d_Reader_readToken_27 rfl (fun c19 => ?_) (fun c19 => ?_)
      · have h := ipos c19 h
        exact k_sb (sb_s (sb_s (sb_n sb_nil))) (hJ6 () _ h)
      · have h := ineg c19 h
        refine k_aload_n d_Reader_readToken_30 rfl ?_
        refine k_dup d_Reader_readToken_31 ?_
        refine k_getI (x := (σ17.1 2 2)) d_Reader_readToken_32 fl_2_26 ob_2 rfl rfl ?_
        refine k_iconst d_Reader_readToken_35 cI_1 ?_
        obtain ⟨p21, h⟩ := h
        refine k_iadd d_Reader_readToken_36 p21 ?_
        refine k_putI d_Reader_readToken_37 fl_2_26 ob_2 rfl ?_
        obtain ⟨p20, h⟩ := h
        refine k_iinc (lv' := [some (.inr 2), some (.inl (σ.1 2 2)), some (.inl (s3 + 1))]) d_Reader_readToken_40 cI_1 rfl rfl p20 rfl ?_
        refine k_goto d_Reader_readToken_43 rfl ?_
        exact k_sb (sb_s (sb_s (sb_s sb_nil))) (hK2 (s3 + 1) _ h)
theorem d_Declared_addListed_0 : decode b_Declared_addListed 0 = .ok (.aload_n 0, 1) := by decide +kernel
theorem d_Declared_addListed_1 : decode b_Declared_addListed 1 = .ok (.getfield 75, 3) := by decide +kernel
theorem d_Declared_addListed_4 : decode b_Declared_addListed 4 = .ok (.aload_n 0, 1) := by decide +kernel
theorem d_Declared_addListed_5 : decode b_Declared_addListed 5 = .ok (.getfield 48, 3) := by decide +kernel
theorem d_Declared_addListed_8 : decode b_Declared_addListed 8 = .ok (.arraylength, 1) := by decide +kernel
theorem d_Declared_addListed_9 : decode b_Declared_addListed 9 = .ok (.if_icmp .ge 23, 3) := by decide +kernel
theorem d_Declared_addListed_12 : decode b_Declared_addListed 12 = .ok (.aload_n 0, 1) := by decide +kernel
theorem d_Declared_addListed_13 : decode b_Declared_addListed 13 = .ok (.getfield 48, 3) := by decide +kernel
theorem d_Declared_addListed_16 : decode b_Declared_addListed 16 = .ok (.aload_n 0, 1) := by decide +kernel
theorem d_Declared_addListed_17 : decode b_Declared_addListed 17 = .ok (.getfield 75, 3) := by decide +kernel
theorem d_Declared_addListed_20 : decode b_Declared_addListed 20 = .ok (.iload_n 1, 1) := by decide +kernel
theorem d_Declared_addListed_21 : decode b_Declared_addListed 21 = .ok (.iastore, 1) := by decide +kernel
theorem d_Declared_addListed_22 : decode b_Declared_addListed 22 = .ok (.aload_n 0, 1) := by decide +kernel
theorem d_Declared_addListed_23 : decode b_Declared_addListed 23 = .ok (.dup, 1) := by decide +kernel
theorem d_Declared_addListed_24 : decode b_Declared_addListed 24 = .ok (.getfield 75, 3) := by decide +kernel
theorem d_Declared_addListed_27 : decode b_Declared_addListed 27 = .ok (.iconst 1, 1) := by decide +kernel
theorem d_Declared_addListed_28 : decode b_Declared_addListed 28 = .ok (.iadd, 1) := by decide +kernel
theorem d_Declared_addListed_29 : decode b_Declared_addListed 29 = .ok (.putfield 75, 3) := by decide +kernel
theorem d_Declared_addListed_32 : decode b_Declared_addListed 32 = .ok (.return_, 1) := by decide +kernel
/-- Declared_addListed -/
def w_Declared_addListed (L : Nat → Nat) (a1 : Int) (Q : IS → Prop) (σ : IS) : Prop := WJ (fun (s3 : Unit) (σ4 : IS) => Q σ4) (fun J1 => if (σ.1 4 16) < ((L 124 : Nat) : Int) then inL L 124 (σ.1 4 16) ∧ inR ((σ.1 4 16) + 1) ∧ J1 () (pf (pr σ 124 (Int.toNat (σ.1 4 16)) a1) 4 16 ((σ.1 4 16) + 1)) else J1 () σ)
set_option maxHeartbeats 4000000 in
set_option maxRecDepth 20000 in
theorem s_Declared_addListed {L : Nat → Nat} (hL : ∀ r, L r < 2147483648) {d : Nat} (hd : 0 ≤ d) {a1 : Int} {Q : IS → Prop} {σ : IS}  (h : w_Declared_addListed L a1 Q σ) : OkI BF L d 4 b_Declared_addListed 2 0 0 [] [some (.inr 4), some (.inl a1)] σ (qv Q) := by
  unfold w_Declared_addListed at h
  refine k_sb (lv' := [some (.inr 4), some (.inl a1)]) (sb_s (sb_s sb_nil)) ?_
  refine k_aload_n d_Declared_addListed_0 rfl ?_
  refine k_getI (x := (σ.1 4 16)) d_Declared_addListed_1 fl_4_75 ob_4 rfl rfl ?_
  refine k_aload_n d_Declared_addListed_4 rfl ?_
  refine k_getR d_Declared_addListed_5 fl_4_48 ob_4 rfl ?_
  refine k_len d_Declared_addListed_8 rI_124.1 (hL _) ?_
  refine k_join (S := Unit) (pc' := 32) (st' := fun s3 => []) (lv' := fun s3 => [none, none]) (fun s3 σ4 h => ?_) (fun J1 hJ2 h => ?_) h
  · exact k_ret d_Declared_addListed_32 h
  · refine k_icge d_Declared_addListed_9 rfl (fun c5 => ?_) (fun c5 => ?_)
    · have h := ineg c5 h
      exact k_sb (sb_n (sb_n sb_nil)) (hJ2 () _ h)
    · have h := ipos c5 h
      refine k_aload_n d_Declared_addListed_12 rfl ?_
      refine k_getR d_Declared_addListed_13 fl_4_48 ob_4 rfl ?_
      refine k_aload_n d_Declared_addListed_16 rfl ?_
      refine k_getI (x := (σ.1 4 16)) d_Declared_addListed_17 fl_4_75 ob_4 rfl rfl ?_
      refine k_iload_n d_Declared_addListed_20 rfl ?_
      obtain ⟨p7, h⟩ := h
      refine k_ist d_Declared_addListed_21 rI_124 p7 ?_
      refine k_aload_n d_Declared_addListed_22 rfl ?_
      refine k_dup d_Declared_addListed_23 ?_
      refine k_getI (x := (σ.1 4 16)) d_Declared_addListed_24 fl_4_75 ob_4 rfl rfl ?_
      refine k_iconst d_Declared_addListed_27 cI_1 ?_
      obtain ⟨p6, h⟩ := h
      refine k_iadd d_Declared_addListed_28 p6 ?_
      refine k_putI d_Declared_addListed_29 fl_4_75 ob_4 rfl ?_
      exact k_sb (sb_n (sb_n sb_nil)) (hJ2 () _ h)
theorem d_Doctype_readList_0 : decode b_Doctype_readList 0 = .ok (.aload_n 0, 1) := by decide +kernel
theorem d_Doctype_readList_1 : decode b_Doctype_readList 1 = .ok (.getfield 17, 3) := by decide +kernel
theorem d_Doctype_readList_4 : decode b_Doctype_readList 4 = .ok (.ldc 171, 2) := by decide +kernel
theorem d_Doctype_readList_6 : decode b_Doctype_readList 6 = .ok (.invokevirtual 53, 3) := by decide +kernel
theorem d_Doctype_readList_9 : decode b_Doctype_readList 9 = .ok (.iconst 1, 1) := by decide +kernel
theorem d_Doctype_readList_10 : decode b_Doctype_readList 10 = .ok (.istore_n 3, 1) := by decide +kernel
theorem d_Doctype_readList_11 : decode b_Doctype_readList 11 = .ok (.iconst 0, 1) := by decide +kernel
theorem d_Doctype_readList_12 : decode b_Doctype_readList 12 = .ok (.istore 4, 2) := by decide +kernel
theorem d_Doctype_readList_14 : decode b_Doctype_readList 14 = .ok (.iload 4, 2) := by decide +kernel
theorem d_Doctype_readList_16 : decode b_Doctype_readList 16 = .ok (.ldc 191, 2) := by decide +kernel
theorem d_Doctype_readList_18 : decode b_Doctype_readList 18 = .ok (.if_icmp .ge 102, 3) := by decide +kernel
theorem d_Doctype_readList_21 : decode b_Doctype_readList 21 = .ok (.iload_n 3, 1) := by decide +kernel
theorem d_Doctype_readList_22 : decode b_Doctype_readList 22 = .ok (.ifCond .eq 98, 3) := by decide +kernel
theorem d_Doctype_readList_25 : decode b_Doctype_readList 25 = .ok (.aload_n 0, 1) := by decide +kernel
theorem d_Doctype_readList_26 : decode b_Doctype_readList 26 = .ok (.getfield 17, 3) := by decide +kernel
theorem d_Doctype_readList_29 : decode b_Doctype_readList 29 = .ok (.getfield 140, 3) := by decide +kernel
theorem d_Doctype_readList_32 : decode b_Doctype_readList 32 = .ok (.ifCond .ne 88, 3) := by decide +kernel
theorem d_Doctype_readList_35 : decode b_Doctype_readList 35 = .ok (.aload_n 0, 1) := by decide +kernel
theorem d_Doctype_readList_36 : decode b_Doctype_readList 36 = .ok (.getfield 17, 3) := by decide +kernel
theorem d_Doctype_readList_39 : decode b_Doctype_readList 39 = .ok (.invokevirtual 69, 3) := by decide +kernel
theorem d_Doctype_readList_42 : decode b_Doctype_readList 42 = .ok (.pop, 1) := by decide +kernel
theorem d_Doctype_readList_43 : decode b_Doctype_readList 43 = .ok (.iload_n 2, 1) := by decide +kernel
theorem d_Doctype_readList_44 : decode b_Doctype_readList 44 = .ok (.ifCond .eq 13, 3) := by decide +kernel
theorem d_Doctype_readList_47 : decode b_Doctype_readList 47 = .ok (.aload_n 0, 1) := by decide +kernel
theorem d_Doctype_readList_48 : decode b_Doctype_readList 48 = .ok (.getfield 17, 3) := by decide +kernel
theorem d_Doctype_readList_51 : decode b_Doctype_readList 51 = .ok (.invokevirtual 62, 3) := by decide +kernel
theorem d_Doctype_readList_54 : decode b_Doctype_readList 54 = .ok (.goto 10, 3) := by decide +kernel
theorem d_Doctype_readList_57 : decode b_Doctype_readList 57 = .ok (.aload_n 0, 1) := by decide +kernel
theorem d_Doctype_readList_58 : decode b_Doctype_readList 58 = .ok (.getfield 17, 3) := by decide +kernel
theorem d_Doctype_readList_61 : decode b_Doctype_readList 61 = .ok (.invokevirtual 231, 3) := by decide +kernel
theorem d_Doctype_readList_64 : decode b_Doctype_readList 64 = .ok (.istore 5, 2) := by decide +kernel
theorem d_Doctype_readList_66 : decode b_Doctype_readList 66 = .ok (.iload_n 1, 1) := by decide +kernel
theorem d_Doctype_readList_67 : decode b_Doctype_readList 67 = .ok (.ifCond .eq 29, 3) := by decide +kernel
theorem d_Doctype_readList_70 : decode b_Doctype_readList 70 = .ok (.aload_n 0, 1) := by decide +kernel
theorem d_Doctype_readList_71 : decode b_Doctype_readList 71 = .ok (.getfield 25, 3) := by decide +kernel
theorem d_Doctype_readList_74 : decode b_Doctype_readList 74 = .ok (.aload_n 0, 1) := by decide +kernel
theorem d_Doctype_readList_75 : decode b_Doctype_readList 75 = .ok (.getfield 11, 3) := by decide +kernel
theorem d_Doctype_readList_78 : decode b_Doctype_readList 78 = .ok (.iload 5, 2) := by decide +kernel
theorem d_Doctype_readList_80 : decode b_Doctype_readList 80 = .ok (.aload_n 0, 1) := by decide +kernel
theorem d_Doctype_readList_81 : decode b_Doctype_readList 81 = .ok (.getfield 17, 3) := by decide +kernel
theorem d_Doctype_readList_84 : decode b_Doctype_readList 84 = .ok (.getfield 66, 3) := by decide +kernel
theorem d_Doctype_readList_87 : decode b_Doctype_readList 87 = .ok (.iload 5, 2) := by decide +kernel
theorem d_Doctype_readList_89 : decode b_Doctype_readList 89 = .ok (.isub, 1) := by decide +kernel
theorem d_Doctype_readList_90 : decode b_Doctype_readList 90 = .ok (.invokevirtual 96, 3) := by decide +kernel
theorem d_Doctype_readList_93 : decode b_Doctype_readList 93 = .ok (.invokevirtual 234, 3) := by decide +kernel
theorem d_Doctype_readList_96 : decode b_Doctype_readList 96 = .ok (.aload_n 0, 1) := by decide +kernel
theorem d_Doctype_readList_97 : decode b_Doctype_readList 97 = .ok (.getfield 17, 3) := by decide +kernel
theorem d_Doctype_readList_100 : decode b_Doctype_readList 100 = .ok (.invokevirtual 69, 3) := by decide +kernel
theorem d_Doctype_readList_103 : decode b_Doctype_readList 103 = .ok (.pop, 1) := by decide +kernel
theorem d_Doctype_readList_104 : decode b_Doctype_readList 104 = .ok (.aload_n 0, 1) := by decide +kernel
theorem d_Doctype_readList_105 : decode b_Doctype_readList 105 = .ok (.getfield 17, 3) := by decide +kernel
theorem d_Doctype_readList_108 : decode b_Doctype_readList 108 = .ok (.ldc 192, 2) := by decide +kernel
theorem d_Doctype_readList_110 : decode b_Doctype_readList 110 = .ok (.invokevirtual 87, 3) := by decide +kernel
theorem d_Doctype_readList_113 : decode b_Doctype_readList 113 = .ok (.istore_n 3, 1) := by decide +kernel
theorem d_Doctype_readList_114 : decode b_Doctype_readList 114 = .ok (.iinc 4 1, 3) := by decide +kernel
theorem d_Doctype_readList_117 : decode b_Doctype_readList 117 = .ok (.goto (-103), 3) := by decide +kernel
theorem d_Doctype_readList_120 : decode b_Doctype_readList 120 = .ok (.aload_n 0, 1) := by decide +kernel
theorem d_Doctype_readList_121 : decode b_Doctype_readList 121 = .ok (.getfield 17, 3) := by decide +kernel
theorem d_Doctype_readList_124 : decode b_Doctype_readList 124 = .ok (.ldc 194, 2) := by decide +kernel
theorem d_Doctype_readList_126 : decode b_Doctype_readList 126 = .ok (.invokevirtual 53, 3) := by decide +kernel
theorem d_Doctype_readList_129 : decode b_Doctype_readList 129 = .ok (.return_, 1) := by decide +kernel
/-- Doctype_readList -/
def w_Doctype_readList (L : Nat → Nat) (a1 : Int) (a2 : Int) (Q : IS → Prop) (σ : IS) : Prop := w_Reader_need L 1037 (fun σ1 => WL (fun (K3 : Int × Int → IS → Prop) (s5 : Int × Int) (σ6 : IS) => if s5.2 < 1000000 ∧ (¬ s5.1 = 0 ∧ ((σ6.1 2 4) = 0)) then w_Reader_skipSpace L  (fun v8 σ7 => WJ (fun (s11 : Int) (σ12 : IS) => WJ (fun (s15 : Unit) (σ16 : IS) => w_Reader_skipSpace L  (fun v18 σ17 => w_Reader_skip L 1039 (fun v20 σ19 => inR (s5.2 + 1) ∧ K3 (v20, (s5.2 + 1)) σ19) σ17) σ16) (fun J13 => if a1 = 0 then J13 () σ12 else inR ((σ12.1 2 2) - s11) ∧ w_Store_intern L s11 ((σ12.1 2 2) - s11) (fun v24 σ23 => w_Declared_addListed L v24 (fun σ25 => J13 () σ25) σ23) σ12)) (fun J9 => if a2 = 0 then w_Reader_readToken L  (fun v30 σ29 => J9 v30 σ29) σ7 else w_Reader_readName L  (fun v32 σ31 => J9 v32 σ31) σ7)) σ6 else w_Reader_need L 1040 (fun σ33 => Q σ33) σ6) (1, 0) σ1) σ
set_option maxHeartbeats 4000000 in
set_option maxRecDepth 20000 in
theorem s_Doctype_readList {L : Nat → Nat} (hL : ∀ r, L r < 2147483648) {d : Nat} (hd : 2 ≤ d) {a1 : Int} {a2 : Int} {Q : IS → Prop} {σ : IS}  (h : w_Doctype_readList L a1 a2 Q σ) : OkI BF L d 5 b_Doctype_readList 6 0 0 [] [some (.inr 5), some (.inl a1), some (.inl a2)] σ (qv Q) := by
  unfold w_Doctype_readList at h
  obtain ⟨d, rfl⟩ : ∃ e, d = e + 1 := ⟨d - 1, by omega⟩
  refine k_sb (lv' := [some (.inr 5), some (.inl a1), some (.inl a2), none, none, none]) (sb_s (sb_s (sb_s (sb_e (sb_e (sb_e sb_nil)))))) ?_
  refine k_aload_n d_Doctype_readList_0 rfl ?_
  refine k_getR d_Doctype_readList_1 fl_5_17 ob_5 rfl ?_
  refine k_ldc d_Doctype_readList_4 ks_5_171 rfl ?_
  refine k_cvv [.inr 1037] d_Doctype_readList_6 ml_5_53 rfl rfl ob_2 rfl (s_Reader_need hL (by omega) it_1037 h) (fun σ1 h => ?_)
  refine k_iconst d_Doctype_readList_9 cI_1 ?_
  refine k_istore_n (lv' := [some (.inr 5), some (.inl a1), some (.inl a2), some (.inl 1), none, none]) d_Doctype_readList_10 rfl rfl ?_
  refine k_iconst d_Doctype_readList_11 cI_0 ?_
  refine k_istore (lv' := [some (.inr 5), some (.inl a1), some (.inl a2), some (.inl 1), some (.inl 0), none]) d_Doctype_readList_12 rfl rfl ?_
  refine k_sb (lv' := [some (.inr 5), some (.inl a1), some (.inl a2), some (.inl 1), some (.inl 0), none]) (sb_s (sb_s (sb_s (sb_s (sb_s (sb_s sb_nil)))))) ?_
  refine k_loop (S := Int × Int) (st := fun _ => []) (lv := fun s5 => [some (.inr 5), some (.inl a1), some (.inl a2), some (.inl s5.1), some (.inl s5.2), none]) (fun K3 hK4 s5 σ6 h => ?_) (1, 0) _ h
  refine k_iload d_Doctype_readList_14 rfl ?_
  refine k_ldc d_Doctype_readList_16 ks_5_191 cL_1000000 ?_
  have hX35 : (s5.2 < 1000000 ∧ (¬ s5.1 = 0 ∧ ((σ6.1 2 4) = 0))) → OkI BF L (d + 1) 5 b_Doctype_readList 6 0 35 [] [some (.inr 5), some (.inl a1), some (.inl a2), some (.inl s5.1), some (.inl s5.2), none] σ6 (qv Q) := fun e37 => by
    have h := ipos e37 h
    refine k_aload_n d_Doctype_readList_35 rfl ?_
    refine k_getR d_Doctype_readList_36 fl_5_17 ob_5 rfl ?_
    refine k_cvi [] d_Doctype_readList_39 ml_5_69 rfl rfl ob_2 rfl (s_Reader_skipSpace hL (by omega)  h) (fun v8 σ7 h => ?_)
    refine k_pop d_Doctype_readList_42 ?_
    refine k_iload_n d_Doctype_readList_43 rfl ?_
    refine k_join (S := Int) (pc' := 64) (st' := fun s11 => [.inl s11]) (lv' := fun s11 => [some (.inr 5), some (.inl a1), some (.inl a2), none, some (.inl s5.2), none]) (fun s11 σ12 h => ?_) (fun J9 hJ10 h => ?_) h
    · refine k_istore (lv' := [some (.inr 5), some (.inl a1), some (.inl a2), none, some (.inl s5.2), some (.inl s11)]) d_Doctype_readList_64 rfl rfl ?_
      refine k_iload_n d_Doctype_readList_66 rfl ?_
      refine k_join (S := Unit) (pc' := 96) (st' := fun s15 => []) (lv' := fun s15 => [some (.inr 5), some (.inl a1), some (.inl a2), none, some (.inl s5.2), none]) (fun s15 σ16 h => ?_) (fun J13 hJ14 h => ?_) h
      · refine k_aload_n d_Doctype_readList_96 rfl ?_
        refine k_getR d_Doctype_readList_97 fl_5_17 ob_5 rfl ?_
        refine k_cvi [] d_Doctype_readList_100 ml_5_69 rfl rfl ob_2 rfl (s_Reader_skipSpace hL (by omega)  h) (fun v18 σ17 h => ?_)
        refine k_pop d_Doctype_readList_103 ?_
        refine k_aload_n d_Doctype_readList_104 rfl ?_
        refine k_getR d_Doctype_readList_105 fl_5_17 ob_5 rfl ?_
        refine k_ldc d_Doctype_readList_108 ks_5_192 rfl ?_
        refine k_cvi [.inr 1039] d_Doctype_readList_110 ml_5_87 rfl rfl ob_2 rfl (s_Reader_skip hL (by omega) it_1039 h) (fun v20 σ19 h => ?_)
        refine k_istore_n (lv' := [some (.inr 5), some (.inl a1), some (.inl a2), some (.inl v20), some (.inl s5.2), none]) d_Doctype_readList_113 rfl rfl ?_
        obtain ⟨p21, h⟩ := h
        refine k_iinc (lv' := [some (.inr 5), some (.inl a1), some (.inl a2), some (.inl v20), some (.inl (s5.2 + 1)), none]) d_Doctype_readList_114 cI_1 rfl rfl p21 rfl ?_
        refine k_goto d_Doctype_readList_117 rfl ?_
        exact k_sb (sb_s (sb_s (sb_s (sb_s (sb_s (sb_s sb_nil)))))) (hK4 (v20, (s5.2 + 1)) _ h)
      · refine k_ifeq d_Doctype_readList_67 rfl (fun c22 => ?_) (fun c22 => ?_)
        · have h := ipos c22 h
          exact k_sb (sb_s (sb_s (sb_s (sb_s (sb_s (sb_n sb_nil)))))) (hJ14 () _ h)
        · have h := ineg c22 h
          refine k_aload_n d_Doctype_readList_70 rfl ?_
          refine k_getR d_Doctype_readList_71 fl_5_25 ob_5 rfl ?_
          refine k_aload_n d_Doctype_readList_74 rfl ?_
          refine k_getR d_Doctype_readList_75 fl_5_11 ob_5 rfl ?_
          refine k_iload d_Doctype_readList_78 rfl ?_
          refine k_aload_n d_Doctype_readList_80 rfl ?_
          refine k_getR d_Doctype_readList_81 fl_5_17 ob_5 rfl ?_
          refine k_getI (x := (σ12.1 2 2)) d_Doctype_readList_84 fl_5_66 ob_2 rfl rfl ?_
          refine k_iload d_Doctype_readList_87 rfl ?_
          obtain ⟨p27, h⟩ := h
          refine k_isub d_Doctype_readList_89 p27 ?_
          refine k_cvi [.inl s11, .inl ((σ12.1 2 2) - s11)] d_Doctype_readList_90 ml_5_96 rfl rfl ob_1 rfl (s_Store_intern hL (by omega) stB_BF h) (fun v24 σ23 h => ?_)
          refine k_cvv [.inl v24] d_Doctype_readList_93 ml_5_234 rfl rfl ob_4 rfl (s_Declared_addListed hL (by omega)  h) (fun σ25 h => ?_)
          exact k_sb (sb_s (sb_s (sb_s (sb_s (sb_s (sb_n sb_nil)))))) (hJ14 () _ h)
    · refine k_ifeq d_Doctype_readList_44 rfl (fun c28 => ?_) (fun c28 => ?_)
      · have h := ipos c28 h
        refine k_aload_n d_Doctype_readList_57 rfl ?_
        refine k_getR d_Doctype_readList_58 fl_5_17 ob_5 rfl ?_
        refine k_cvi [] d_Doctype_readList_61 ml_5_231 rfl rfl ob_2 rfl (s_Reader_readToken hL (by omega)  h) (fun v30 σ29 h => ?_)
        exact k_sb (sb_s (sb_s (sb_s (sb_n (sb_s (sb_s sb_nil)))))) (hJ10 v30 _ h)
      · have h := ineg c28 h
        refine k_aload_n d_Doctype_readList_47 rfl ?_
        refine k_getR d_Doctype_readList_48 fl_5_17 ob_5 rfl ?_
        refine k_cvi [] d_Doctype_readList_51 ml_5_62 rfl rfl ob_2 rfl (s_Reader_readName hL (by omega)  h) (fun v32 σ31 h => ?_)
        refine k_goto d_Doctype_readList_54 rfl ?_
        exact k_sb (sb_s (sb_s (sb_s (sb_n (sb_s (sb_s sb_nil)))))) (hJ10 v32 _ h)
  have hY36 : ¬ (s5.2 < 1000000 ∧ (¬ s5.1 = 0 ∧ ((σ6.1 2 4) = 0))) → OkI BF L (d + 1) 5 b_Doctype_readList 6 0 120 [] [some (.inr 5), some (.inl a1), some (.inl a2), some (.inl s5.1), some (.inl s5.2), none] σ6 (qv Q) := fun e37 => by
    have h := ineg e37 h
    refine k_aload_n d_Doctype_readList_120 rfl ?_
    refine k_getR d_Doctype_readList_121 fl_5_17 ob_5 rfl ?_
    refine k_ldc d_Doctype_readList_124 ks_5_194 rfl ?_
    refine k_cvv [.inr 1040] d_Doctype_readList_126 ml_5_53 rfl rfl ob_2 rfl (s_Reader_need hL (by omega) it_1040 h) (fun σ33 h => ?_)
    exact k_ret d_Doctype_readList_129 h
  refine k_icge d_Doctype_readList_18 rfl (fun c38 => ?_) (fun c38 => ?_)
  · exact hY36 (fun z => c38 z.1)
  · refine k_iload_n d_Doctype_readList_21 rfl ?_
    refine k_ifeq d_Doctype_readList_22 rfl (fun c39 => ?_) (fun c39 => ?_)
    · exact hY36 (fun z => (fun z => z.1 c39) z.2)
    · refine k_aload_n d_Doctype_readList_25 rfl ?_
      refine k_getR d_Doctype_readList_26 fl_5_17 ob_5 rfl ?_
      refine k_getI (x := (σ6.1 2 4)) d_Doctype_readList_29 fl_5_140 ob_2 rfl rfl ?_
      refine k_ifne d_Doctype_readList_32 rfl (fun c40 => ?_) (fun c40 => ?_)
      · exact hY36 (fun z => (fun z => (c40) z.2) z.2)
      · exact hX35 (⟨c38, ⟨c39, c40⟩⟩)
theorem d_Doctype_readType_0 : decode b_Doctype_readType 0 = .ok (.aload_n 0, 1) := by decide +kernel
theorem d_Doctype_readType_1 : decode b_Doctype_readType 1 = .ok (.getfield 17, 3) := by decide +kernel
theorem d_Doctype_readType_4 : decode b_Doctype_readType 4 = .ok (.invokevirtual 102, 3) := by decide +kernel
theorem d_Doctype_readType_7 : decode b_Doctype_readType 7 = .ok (.bipush 40, 2) := by decide +kernel
theorem d_Doctype_readType_9 : decode b_Doctype_readType 9 = .ok (.if_icmp .ne 12, 3) := by decide +kernel
theorem d_Doctype_readType_12 : decode b_Doctype_readType 12 = .ok (.aload_n 0, 1) := by decide +kernel
theorem d_Doctype_readType_13 : decode b_Doctype_readType 13 = .ok (.iload_n 1, 1) := by decide +kernel
theorem d_Doctype_readType_14 : decode b_Doctype_readType 14 = .ok (.iconst 0, 1) := by decide +kernel
theorem d_Doctype_readType_15 : decode b_Doctype_readType 15 = .ok (.invokevirtual 227, 3) := by decide +kernel
theorem d_Doctype_readType_18 : decode b_Doctype_readType 18 = .ok (.bipush 19, 2) := by decide +kernel
theorem d_Doctype_readType_20 : decode b_Doctype_readType 20 = .ok (.ireturn, 1) := by decide +kernel
theorem d_Doctype_readType_21 : decode b_Doctype_readType 21 = .ok (.aload_n 0, 1) := by decide +kernel
theorem d_Doctype_readType_22 : decode b_Doctype_readType 22 = .ok (.getfield 17, 3) := by decide +kernel
theorem d_Doctype_readType_25 : decode b_Doctype_readType 25 = .ok (.invokevirtual 62, 3) := by decide +kernel
theorem d_Doctype_readType_28 : decode b_Doctype_readType 28 = .ok (.istore_n 2, 1) := by decide +kernel
theorem d_Doctype_readType_29 : decode b_Doctype_readType 29 = .ok (.aload_n 0, 1) := by decide +kernel
theorem d_Doctype_readType_30 : decode b_Doctype_readType 30 = .ok (.getfield 11, 3) := by decide +kernel
theorem d_Doctype_readType_33 : decode b_Doctype_readType 33 = .ok (.iload_n 2, 1) := by decide +kernel
theorem d_Doctype_readType_34 : decode b_Doctype_readType 34 = .ok (.aload_n 0, 1) := by decide +kernel
theorem d_Doctype_readType_35 : decode b_Doctype_readType 35 = .ok (.getfield 17, 3) := by decide +kernel
theorem d_Doctype_readType_38 : decode b_Doctype_readType 38 = .ok (.getfield 66, 3) := by decide +kernel
theorem d_Doctype_readType_41 : decode b_Doctype_readType 41 = .ok (.iload_n 2, 1) := by decide +kernel
theorem d_Doctype_readType_42 : decode b_Doctype_readType 42 = .ok (.isub, 1) := by decide +kernel
theorem d_Doctype_readType_43 : decode b_Doctype_readType 43 = .ok (.invokevirtual 159, 3) := by decide +kernel
theorem d_Doctype_readType_46 : decode b_Doctype_readType 46 = .ok (.istore_n 3, 1) := by decide +kernel
theorem d_Doctype_readType_47 : decode b_Doctype_readType 47 = .ok (.iload_n 3, 1) := by decide +kernel
theorem d_Doctype_readType_48 : decode b_Doctype_readType 48 = .ok (.bipush 10, 2) := by decide +kernel
theorem d_Doctype_readType_50 : decode b_Doctype_readType 50 = .ok (.if_icmp .lt 9, 3) := by decide +kernel
theorem d_Doctype_readType_53 : decode b_Doctype_readType 53 = .ok (.iload_n 3, 1) := by decide +kernel
theorem d_Doctype_readType_54 : decode b_Doctype_readType 54 = .ok (.bipush 18, 2) := by decide +kernel
theorem d_Doctype_readType_56 : decode b_Doctype_readType 56 = .ok (.if_icmp .le 11, 3) := by decide +kernel
theorem d_Doctype_readType_59 : decode b_Doctype_readType 59 = .ok (.aload_n 0, 1) := by decide +kernel
theorem d_Doctype_readType_60 : decode b_Doctype_readType 60 = .ok (.getfield 17, 3) := by decide +kernel
theorem d_Doctype_readType_63 : decode b_Doctype_readType 63 = .ok (.iconst 5, 1) := by decide +kernel
theorem d_Doctype_readType_64 : decode b_Doctype_readType 64 = .ok (.invokevirtual 92, 3) := by decide +kernel
theorem d_Doctype_readType_67 : decode b_Doctype_readType 67 = .ok (.iload_n 3, 1) := by decide +kernel
theorem d_Doctype_readType_68 : decode b_Doctype_readType 68 = .ok (.bipush 18, 2) := by decide +kernel
theorem d_Doctype_readType_70 : decode b_Doctype_readType 70 = .ok (.if_icmp .ne 16, 3) := by decide +kernel
theorem d_Doctype_readType_73 : decode b_Doctype_readType 73 = .ok (.aload_n 0, 1) := by decide +kernel
theorem d_Doctype_readType_74 : decode b_Doctype_readType 74 = .ok (.getfield 17, 3) := by decide +kernel
theorem d_Doctype_readType_77 : decode b_Doctype_readType 77 = .ok (.invokevirtual 59, 3) := by decide +kernel
theorem d_Doctype_readType_80 : decode b_Doctype_readType 80 = .ok (.aload_n 0, 1) := by decide +kernel
theorem d_Doctype_readType_81 : decode b_Doctype_readType 81 = .ok (.iload_n 1, 1) := by decide +kernel
theorem d_Doctype_readType_82 : decode b_Doctype_readType 82 = .ok (.iconst 1, 1) := by decide +kernel
theorem d_Doctype_readType_83 : decode b_Doctype_readType 83 = .ok (.invokevirtual 227, 3) := by decide +kernel
theorem d_Doctype_readType_86 : decode b_Doctype_readType 86 = .ok (.iload_n 3, 1) := by decide +kernel
theorem d_Doctype_readType_87 : decode b_Doctype_readType 87 = .ok (.ireturn, 1) := by decide +kernel
/-- Doctype_readType -/
def w_Doctype_readType (L : Nat → Nat) (a1 : Int) (Q : Int → IS → Prop) (σ : IS) : Prop := w_Reader_peek L  (fun v2 σ1 => if v2 = 40 then w_Doctype_readList L a1 0 (fun σ29 => Q 19 σ29) σ1 else w_Reader_readName L  (fun v5 σ4 => inR ((σ4.1 2 2) - v5) ∧ w_Store_find L v5 ((σ4.1 2 2) - v5) (fun v7 σ6 => WJ (fun (s10 : Unit) (σ11 : IS) => WJ (fun (s14 : Unit) (σ15 : IS) => Q v7 σ15) (fun J12 => if v7 = 18 then w_Reader_needSpace L  (fun σ17 => w_Doctype_readList L a1 1 (fun σ19 => J12 () σ19) σ17) σ11 else J12 () σ11)) (fun J8 => if v7 < 10 ∨ (18 < v7) then w_Reader_fail L 5 (fun σ21 => J8 () σ21) σ6 else J8 () σ6)) σ4) σ1) σ
set_option maxHeartbeats 4000000 in
set_option maxRecDepth 20000 in
theorem s_Doctype_readType {L : Nat → Nat} (hL : ∀ r, L r < 2147483648) {d : Nat} (hd : 3 ≤ d) {a1 : Int} {Q : Int → IS → Prop} {σ : IS}  (h : w_Doctype_readType L a1 Q σ) : OkI BF L d 5 b_Doctype_readType 4 1 0 [] [some (.inr 5), some (.inl a1)] σ (qi Q) := by
  unfold w_Doctype_readType at h
  obtain ⟨d, rfl⟩ : ∃ e, d = e + 1 := ⟨d - 1, by omega⟩
  refine k_sb (lv' := [some (.inr 5), some (.inl a1), none, none]) (sb_s (sb_s (sb_e (sb_e sb_nil)))) ?_
  refine k_aload_n d_Doctype_readType_0 rfl ?_
  refine k_getR d_Doctype_readType_1 fl_5_17 ob_5 rfl ?_
  refine k_cvi [] d_Doctype_readType_4 ml_5_102 rfl rfl ob_2 rfl (s_Reader_peek hL (by omega)  h) (fun v2 σ1 h => ?_)
  refine k_bipush d_Doctype_readType_7 cB_40 ?_
  refine k_icne d_Doctype_readType_9 rfl (fun c3 => ?_) (fun c3 => ?_)
  · have h := ineg c3 h
    refine k_aload_n d_Doctype_readType_21 rfl ?_
    refine k_getR d_Doctype_readType_22 fl_5_17 ob_5 rfl ?_
    refine k_cvi [] d_Doctype_readType_25 ml_5_62 rfl rfl ob_2 rfl (s_Reader_readName hL (by omega)  h) (fun v5 σ4 h => ?_)
    refine k_istore_n (lv' := [some (.inr 5), some (.inl a1), some (.inl v5), none]) d_Doctype_readType_28 rfl rfl ?_
    refine k_aload_n d_Doctype_readType_29 rfl ?_
    refine k_getR d_Doctype_readType_30 fl_5_11 ob_5 rfl ?_
    refine k_iload_n d_Doctype_readType_33 rfl ?_
    refine k_aload_n d_Doctype_readType_34 rfl ?_
    refine k_getR d_Doctype_readType_35 fl_5_17 ob_5 rfl ?_
    refine k_getI (x := (σ4.1 2 2)) d_Doctype_readType_38 fl_5_66 ob_2 rfl rfl ?_
    refine k_iload_n d_Doctype_readType_41 rfl ?_
    obtain ⟨p28, h⟩ := h
    refine k_isub d_Doctype_readType_42 p28 ?_
    refine k_cvi [.inl v5, .inl ((σ4.1 2 2) - v5)] d_Doctype_readType_43 ml_5_159 rfl rfl ob_1 rfl (s_Store_find hL (by omega) stB_BF h) (fun v7 σ6 h => ?_)
    refine k_istore_n (lv' := [some (.inr 5), some (.inl a1), some (.inl v5), some (.inl v7)]) d_Doctype_readType_46 rfl rfl ?_
    refine k_iload_n d_Doctype_readType_47 rfl ?_
    refine k_bipush d_Doctype_readType_48 cB_10 ?_
    refine k_join (S := Unit) (pc' := 67) (st' := fun s10 => []) (lv' := fun s10 => [some (.inr 5), some (.inl a1), none, some (.inl v7)]) (fun s10 σ11 h => ?_) (fun J8 hJ9 h => ?_) h
    · refine k_iload_n d_Doctype_readType_67 rfl ?_
      refine k_bipush d_Doctype_readType_68 cB_18 ?_
      refine k_join (S := Unit) (pc' := 86) (st' := fun s14 => []) (lv' := fun s14 => [none, none, none, some (.inl v7)]) (fun s14 σ15 h => ?_) (fun J12 hJ13 h => ?_) h
      · refine k_iload_n d_Doctype_readType_86 rfl ?_
        exact k_iret d_Doctype_readType_87 (Or.inl rfl) h
      · refine k_icne d_Doctype_readType_70 rfl (fun c16 => ?_) (fun c16 => ?_)
        · have h := ineg c16 h
          exact k_sb (sb_n (sb_n (sb_s (sb_s sb_nil)))) (hJ13 () _ h)
        · have h := ipos c16 h
          refine k_aload_n d_Doctype_readType_73 rfl ?_
          refine k_getR d_Doctype_readType_74 fl_5_17 ob_5 rfl ?_
          refine k_cvv [] d_Doctype_readType_77 ml_5_59 rfl rfl ob_2 rfl (s_Reader_needSpace hL (by omega)  h) (fun σ17 h => ?_)
          refine k_aload_n d_Doctype_readType_80 rfl ?_
          refine k_iload_n d_Doctype_readType_81 rfl ?_
          refine k_iconst d_Doctype_readType_82 cI_1 ?_
          refine k_cvv [.inl a1, .inl 1] d_Doctype_readType_83 ml_5_227 rfl rfl ob_5 rfl (s_Doctype_readList hL (by omega)  h) (fun σ19 h => ?_)
          exact k_sb (sb_n (sb_n (sb_s (sb_s sb_nil)))) (hJ13 () _ h)
    · have hX23 : (v7 < 10 ∨ (18 < v7)) → OkI BF L (d + 1) 5 b_Doctype_readType 4 1 59 [] [some (.inr 5), some (.inl a1), some (.inl v5), some (.inl v7)] σ6 (qi Q) := fun e25 => by
        have h := ipos e25 h
        refine k_aload_n d_Doctype_readType_59 rfl ?_
        refine k_getR d_Doctype_readType_60 fl_5_17 ob_5 rfl ?_
        refine k_iconst d_Doctype_readType_63 cI_5 ?_
        refine k_cvv [.inl 5] d_Doctype_readType_64 ml_5_92 rfl rfl ob_2 rfl (s_Reader_fail hL (by omega)  h) (fun σ21 h => ?_)
        exact k_sb (sb_s (sb_s (sb_n (sb_s sb_nil)))) (hJ9 () _ h)
      have hY24 : ¬ (v7 < 10 ∨ (18 < v7)) → OkI BF L (d + 1) 5 b_Doctype_readType 4 1 67 [] [some (.inr 5), some (.inl a1), some (.inl v5), some (.inl v7)] σ6 (qi Q) := fun e25 => by
        have h := ineg e25 h
        exact k_sb (sb_s (sb_s (sb_n (sb_s sb_nil)))) (hJ9 () _ h)
      refine k_iclt d_Doctype_readType_50 rfl (fun c26 => ?_) (fun c26 => ?_)
      · exact hX23 (Or.inl c26)
      · refine k_iload_n d_Doctype_readType_53 rfl ?_
        refine k_bipush d_Doctype_readType_54 cB_18 ?_
        refine k_icle d_Doctype_readType_56 rfl (fun c27 => ?_) (fun c27 => ?_)
        · exact hY24 (fun z => z.elim c26 (c27))
        · exact hX23 (Or.inr (c27))
  · have h := ipos c3 h
    refine k_aload_n d_Doctype_readType_12 rfl ?_
    refine k_iload_n d_Doctype_readType_13 rfl ?_
    refine k_iconst d_Doctype_readType_14 cI_0 ?_
    refine k_cvv [.inl a1, .inl 0] d_Doctype_readType_15 ml_5_227 rfl rfl ob_5 rfl (s_Doctype_readList hL (by omega)  h) (fun σ29 h => ?_)
    refine k_bipush d_Doctype_readType_18 cB_19 ?_
    exact k_iret d_Doctype_readType_20 (Or.inl rfl) h
theorem d_Doctype_readHow_0 : decode b_Doctype_readHow 0 = .ok (.aload_n 0, 1) := by decide +kernel
theorem d_Doctype_readHow_1 : decode b_Doctype_readHow 1 = .ok (.getfield 17, 3) := by decide +kernel
theorem d_Doctype_readHow_4 : decode b_Doctype_readHow 4 = .ok (.ldc 237, 2) := by decide +kernel
theorem d_Doctype_readHow_6 : decode b_Doctype_readHow 6 = .ok (.invokevirtual 87, 3) := by decide +kernel
theorem d_Doctype_readHow_9 : decode b_Doctype_readHow 9 = .ok (.ifCond .eq 5, 3) := by decide +kernel
theorem d_Doctype_readHow_12 : decode b_Doctype_readHow 12 = .ok (.iconst 1, 1) := by decide +kernel
theorem d_Doctype_readHow_13 : decode b_Doctype_readHow 13 = .ok (.ireturn, 1) := by decide +kernel
theorem d_Doctype_readHow_14 : decode b_Doctype_readHow 14 = .ok (.aload_n 0, 1) := by decide +kernel
theorem d_Doctype_readHow_15 : decode b_Doctype_readHow 15 = .ok (.getfield 17, 3) := by decide +kernel
theorem d_Doctype_readHow_18 : decode b_Doctype_readHow 18 = .ok (.ldc 239, 2) := by decide +kernel
theorem d_Doctype_readHow_20 : decode b_Doctype_readHow 20 = .ok (.invokevirtual 87, 3) := by decide +kernel
theorem d_Doctype_readHow_23 : decode b_Doctype_readHow 23 = .ok (.ifCond .eq 5, 3) := by decide +kernel
theorem d_Doctype_readHow_26 : decode b_Doctype_readHow 26 = .ok (.iconst 0, 1) := by decide +kernel
theorem d_Doctype_readHow_27 : decode b_Doctype_readHow 27 = .ok (.ireturn, 1) := by decide +kernel
theorem d_Doctype_readHow_28 : decode b_Doctype_readHow 28 = .ok (.aload_n 0, 1) := by decide +kernel
theorem d_Doctype_readHow_29 : decode b_Doctype_readHow 29 = .ok (.getfield 17, 3) := by decide +kernel
theorem d_Doctype_readHow_32 : decode b_Doctype_readHow 32 = .ok (.ldc 241, 2) := by decide +kernel
theorem d_Doctype_readHow_34 : decode b_Doctype_readHow 34 = .ok (.invokevirtual 87, 3) := by decide +kernel
theorem d_Doctype_readHow_37 : decode b_Doctype_readHow 37 = .ok (.ifCond .eq 12, 3) := by decide +kernel
theorem d_Doctype_readHow_40 : decode b_Doctype_readHow 40 = .ok (.aload_n 0, 1) := by decide +kernel
theorem d_Doctype_readHow_41 : decode b_Doctype_readHow 41 = .ok (.getfield 17, 3) := by decide +kernel
theorem d_Doctype_readHow_44 : decode b_Doctype_readHow 44 = .ok (.invokevirtual 59, 3) := by decide +kernel
theorem d_Doctype_readHow_47 : decode b_Doctype_readHow 47 = .ok (.iconst 2, 1) := by decide +kernel
theorem d_Doctype_readHow_48 : decode b_Doctype_readHow 48 = .ok (.ireturn, 1) := by decide +kernel
theorem d_Doctype_readHow_49 : decode b_Doctype_readHow 49 = .ok (.iconst 3, 1) := by decide +kernel
theorem d_Doctype_readHow_50 : decode b_Doctype_readHow 50 = .ok (.ireturn, 1) := by decide +kernel
/-- Doctype_readHow -/
def w_Doctype_readHow (L : Nat → Nat)  (Q : Int → IS → Prop) (σ : IS) : Prop := w_Reader_skip L 1042 (fun v2 σ1 => if v2 = 0 then w_Reader_skip L 1043 (fun v5 σ4 => if v5 = 0 then w_Reader_skip L 1044 (fun v8 σ7 => if v8 = 0 then Q 3 σ7 else w_Reader_needSpace L  (fun σ10 => Q 2 σ10) σ7) σ4 else Q 0 σ4) σ1 else Q 1 σ1) σ
set_option maxHeartbeats 4000000 in
set_option maxRecDepth 20000 in
theorem s_Doctype_readHow {L : Nat → Nat} (hL : ∀ r, L r < 2147483648) {d : Nat} (hd : 3 ≤ d)  {Q : Int → IS → Prop} {σ : IS}  (h : w_Doctype_readHow L  Q σ) : OkI BF L d 5 b_Doctype_readHow 1 1 0 [] [some (.inr 5)] σ (qi Q) := by
  unfold w_Doctype_readHow at h
  obtain ⟨d, rfl⟩ : ∃ e, d = e + 1 := ⟨d - 1, by omega⟩
  refine k_sb (lv' := [some (.inr 5)]) (sb_s sb_nil) ?_
  refine k_aload_n d_Doctype_readHow_0 rfl ?_
  refine k_getR d_Doctype_readHow_1 fl_5_17 ob_5 rfl ?_
  refine k_ldc d_Doctype_readHow_4 ks_5_237 rfl ?_
  refine k_cvi [.inr 1042] d_Doctype_readHow_6 ml_5_87 rfl rfl ob_2 rfl (s_Reader_skip hL (by omega) it_1042 h) (fun v2 σ1 h => ?_)
  refine k_ifeq d_Doctype_readHow_9 rfl (fun c3 => ?_) (fun c3 => ?_)
  · have h := ipos c3 h
    refine k_aload_n d_Doctype_readHow_14 rfl ?_
    refine k_getR d_Doctype_readHow_15 fl_5_17 ob_5 rfl ?_
    refine k_ldc d_Doctype_readHow_18 ks_5_239 rfl ?_
    refine k_cvi [.inr 1043] d_Doctype_readHow_20 ml_5_87 rfl rfl ob_2 rfl (s_Reader_skip hL (by omega) it_1043 h) (fun v5 σ4 h => ?_)
    refine k_ifeq d_Doctype_readHow_23 rfl (fun c6 => ?_) (fun c6 => ?_)
    · have h := ipos c6 h
      refine k_aload_n d_Doctype_readHow_28 rfl ?_
      refine k_getR d_Doctype_readHow_29 fl_5_17 ob_5 rfl ?_
      refine k_ldc d_Doctype_readHow_32 ks_5_241 rfl ?_
      refine k_cvi [.inr 1044] d_Doctype_readHow_34 ml_5_87 rfl rfl ob_2 rfl (s_Reader_skip hL (by omega) it_1044 h) (fun v8 σ7 h => ?_)
      refine k_ifeq d_Doctype_readHow_37 rfl (fun c9 => ?_) (fun c9 => ?_)
      · have h := ipos c9 h
        refine k_iconst d_Doctype_readHow_49 cI_3 ?_
        exact k_iret d_Doctype_readHow_50 (Or.inl rfl) h
      · have h := ineg c9 h
        refine k_aload_n d_Doctype_readHow_40 rfl ?_
        refine k_getR d_Doctype_readHow_41 fl_5_17 ob_5 rfl ?_
        refine k_cvv [] d_Doctype_readHow_44 ml_5_59 rfl rfl ob_2 rfl (s_Reader_needSpace hL (by omega)  h) (fun σ10 h => ?_)
        refine k_iconst d_Doctype_readHow_47 cI_2 ?_
        exact k_iret d_Doctype_readHow_48 (Or.inl rfl) h
    · have h := ineg c6 h
      refine k_iconst d_Doctype_readHow_26 cI_0 ?_
      exact k_iret d_Doctype_readHow_27 (Or.inl rfl) h
  · have h := ineg c3 h
    refine k_iconst d_Doctype_readHow_12 cI_1 ?_
    exact k_iret d_Doctype_readHow_13 (Or.inl rfl) h
theorem d_Reader_readNumber_0 : decode b_Reader_readNumber 0 = .ok (.aload_n 0, 1) := by decide +kernel
theorem d_Reader_readNumber_1 : decode b_Reader_readNumber 1 = .ok (.getfield 26, 3) := by decide +kernel
theorem d_Reader_readNumber_4 : decode b_Reader_readNumber 4 = .ok (.istore_n 2, 1) := by decide +kernel
theorem d_Reader_readNumber_5 : decode b_Reader_readNumber 5 = .ok (.aload_n 0, 1) := by decide +kernel
theorem d_Reader_readNumber_6 : decode b_Reader_readNumber 6 = .ok (.iconst 0, 1) := by decide +kernel
theorem d_Reader_readNumber_7 : decode b_Reader_readNumber 7 = .ok (.putfield 130, 3) := by decide +kernel
theorem d_Reader_readNumber_10 : decode b_Reader_readNumber 10 = .ok (.aload_n 0, 1) := by decide +kernel
theorem d_Reader_readNumber_11 : decode b_Reader_readNumber 11 = .ok (.getfield 26, 3) := by decide +kernel
theorem d_Reader_readNumber_14 : decode b_Reader_readNumber 14 = .ok (.istore_n 3, 1) := by decide +kernel
theorem d_Reader_readNumber_15 : decode b_Reader_readNumber 15 = .ok (.iload_n 3, 1) := by decide +kernel
theorem d_Reader_readNumber_16 : decode b_Reader_readNumber 16 = .ok (.aload_n 0, 1) := by decide +kernel
theorem d_Reader_readNumber_17 : decode b_Reader_readNumber 17 = .ok (.getfield 32, 3) := by decide +kernel
theorem d_Reader_readNumber_20 : decode b_Reader_readNumber 20 = .ok (.if_icmp .ge 131, 3) := by decide +kernel
theorem d_Reader_readNumber_23 : decode b_Reader_readNumber 23 = .ok (.aload_n 0, 1) := by decide +kernel
theorem d_Reader_readNumber_24 : decode b_Reader_readNumber 24 = .ok (.getfield 21, 3) := by decide +kernel
theorem d_Reader_readNumber_27 : decode b_Reader_readNumber 27 = .ok (.iload_n 3, 1) := by decide +kernel
theorem d_Reader_readNumber_28 : decode b_Reader_readNumber 28 = .ok (.iaload, 1) := by decide +kernel
theorem d_Reader_readNumber_29 : decode b_Reader_readNumber 29 = .ok (.istore 4, 2) := by decide +kernel
theorem d_Reader_readNumber_31 : decode b_Reader_readNumber 31 = .ok (.iload 4, 2) := by decide +kernel
theorem d_Reader_readNumber_33 : decode b_Reader_readNumber 33 = .ok (.bipush 65, 2) := by decide +kernel
theorem d_Reader_readNumber_35 : decode b_Reader_readNumber 35 = .ok (.if_icmp .lt 18, 3) := by decide +kernel
theorem d_Reader_readNumber_38 : decode b_Reader_readNumber 38 = .ok (.iload 4, 2) := by decide +kernel
theorem d_Reader_readNumber_40 : decode b_Reader_readNumber 40 = .ok (.bipush 90, 2) := by decide +kernel
theorem d_Reader_readNumber_42 : decode b_Reader_readNumber 42 = .ok (.if_icmp .gt 11, 3) := by decide +kernel
theorem d_Reader_readNumber_45 : decode b_Reader_readNumber 45 = .ok (.iload 4, 2) := by decide +kernel
theorem d_Reader_readNumber_47 : decode b_Reader_readNumber 47 = .ok (.bipush 32, 2) := by decide +kernel
theorem d_Reader_readNumber_49 : decode b_Reader_readNumber 49 = .ok (.iadd, 1) := by decide +kernel
theorem d_Reader_readNumber_50 : decode b_Reader_readNumber 50 = .ok (.goto 5, 3) := by decide +kernel
theorem d_Reader_readNumber_53 : decode b_Reader_readNumber 53 = .ok (.iload 4, 2) := by decide +kernel
theorem d_Reader_readNumber_55 : decode b_Reader_readNumber 55 = .ok (.istore 5, 2) := by decide +kernel
theorem d_Reader_readNumber_57 : decode b_Reader_readNumber 57 = .ok (.iload 4, 2) := by decide +kernel
theorem d_Reader_readNumber_59 : decode b_Reader_readNumber 59 = .ok (.bipush 48, 2) := by decide +kernel
theorem d_Reader_readNumber_61 : decode b_Reader_readNumber 61 = .ok (.if_icmp .lt 18, 3) := by decide +kernel
theorem d_Reader_readNumber_64 : decode b_Reader_readNumber 64 = .ok (.iload 4, 2) := by decide +kernel
theorem d_Reader_readNumber_66 : decode b_Reader_readNumber 66 = .ok (.bipush 57, 2) := by decide +kernel
theorem d_Reader_readNumber_68 : decode b_Reader_readNumber 68 = .ok (.if_icmp .gt 11, 3) := by decide +kernel
theorem d_Reader_readNumber_71 : decode b_Reader_readNumber 71 = .ok (.iload 4, 2) := by decide +kernel
theorem d_Reader_readNumber_73 : decode b_Reader_readNumber 73 = .ok (.bipush 48, 2) := by decide +kernel
theorem d_Reader_readNumber_75 : decode b_Reader_readNumber 75 = .ok (.isub, 1) := by decide +kernel
theorem d_Reader_readNumber_76 : decode b_Reader_readNumber 76 = .ok (.goto 30, 3) := by decide +kernel
theorem d_Reader_readNumber_79 : decode b_Reader_readNumber 79 = .ok (.iload 5, 2) := by decide +kernel
theorem d_Reader_readNumber_81 : decode b_Reader_readNumber 81 = .ok (.bipush 97, 2) := by decide +kernel
theorem d_Reader_readNumber_83 : decode b_Reader_readNumber 83 = .ok (.if_icmp .lt 21, 3) := by decide +kernel
theorem d_Reader_readNumber_86 : decode b_Reader_readNumber 86 = .ok (.iload 5, 2) := by decide +kernel
theorem d_Reader_readNumber_88 : decode b_Reader_readNumber 88 = .ok (.bipush 102, 2) := by decide +kernel
theorem d_Reader_readNumber_90 : decode b_Reader_readNumber 90 = .ok (.if_icmp .gt 14, 3) := by decide +kernel
theorem d_Reader_readNumber_93 : decode b_Reader_readNumber 93 = .ok (.iload 5, 2) := by decide +kernel
theorem d_Reader_readNumber_95 : decode b_Reader_readNumber 95 = .ok (.bipush 97, 2) := by decide +kernel
theorem d_Reader_readNumber_97 : decode b_Reader_readNumber 97 = .ok (.isub, 1) := by decide +kernel
theorem d_Reader_readNumber_98 : decode b_Reader_readNumber 98 = .ok (.bipush 10, 2) := by decide +kernel
theorem d_Reader_readNumber_100 : decode b_Reader_readNumber 100 = .ok (.iadd, 1) := by decide +kernel
theorem d_Reader_readNumber_101 : decode b_Reader_readNumber 101 = .ok (.goto 5, 3) := by decide +kernel
theorem d_Reader_readNumber_104 : decode b_Reader_readNumber 104 = .ok (.bipush 16, 2) := by decide +kernel
theorem d_Reader_readNumber_106 : decode b_Reader_readNumber 106 = .ok (.istore 6, 2) := by decide +kernel
theorem d_Reader_readNumber_108 : decode b_Reader_readNumber 108 = .ok (.iload 6, 2) := by decide +kernel
theorem d_Reader_readNumber_110 : decode b_Reader_readNumber 110 = .ok (.iload_n 1, 1) := by decide +kernel
theorem d_Reader_readNumber_111 : decode b_Reader_readNumber 111 = .ok (.if_icmp .lt 6, 3) := by decide +kernel
theorem d_Reader_readNumber_114 : decode b_Reader_readNumber 114 = .ok (.goto 37, 3) := by decide +kernel
theorem d_Reader_readNumber_117 : decode b_Reader_readNumber 117 = .ok (.aload_n 0, 1) := by decide +kernel
theorem d_Reader_readNumber_118 : decode b_Reader_readNumber 118 = .ok (.aload_n 0, 1) := by decide +kernel
theorem d_Reader_readNumber_119 : decode b_Reader_readNumber 119 = .ok (.getfield 130, 3) := by decide +kernel
theorem d_Reader_readNumber_122 : decode b_Reader_readNumber 122 = .ok (.iload_n 1, 1) := by decide +kernel
theorem d_Reader_readNumber_123 : decode b_Reader_readNumber 123 = .ok (.imul, 1) := by decide +kernel
theorem d_Reader_readNumber_124 : decode b_Reader_readNumber 124 = .ok (.iload 6, 2) := by decide +kernel
theorem d_Reader_readNumber_126 : decode b_Reader_readNumber 126 = .ok (.iadd, 1) := by decide +kernel
theorem d_Reader_readNumber_127 : decode b_Reader_readNumber 127 = .ok (.ldc 145, 2) := by decide +kernel
theorem d_Reader_readNumber_129 : decode b_Reader_readNumber 129 = .ok (.invokestatic 146, 3) := by decide +kernel
theorem d_Reader_readNumber_132 : decode b_Reader_readNumber 132 = .ok (.putfield 130, 3) := by decide +kernel
theorem d_Reader_readNumber_135 : decode b_Reader_readNumber 135 = .ok (.aload_n 0, 1) := by decide +kernel
theorem d_Reader_readNumber_136 : decode b_Reader_readNumber 136 = .ok (.dup, 1) := by decide +kernel
theorem d_Reader_readNumber_137 : decode b_Reader_readNumber 137 = .ok (.getfield 26, 3) := by decide +kernel
theorem d_Reader_readNumber_140 : decode b_Reader_readNumber 140 = .ok (.iconst 1, 1) := by decide +kernel
theorem d_Reader_readNumber_141 : decode b_Reader_readNumber 141 = .ok (.iadd, 1) := by decide +kernel
theorem d_Reader_readNumber_142 : decode b_Reader_readNumber 142 = .ok (.putfield 26, 3) := by decide +kernel
theorem d_Reader_readNumber_145 : decode b_Reader_readNumber 145 = .ok (.iinc 3 1, 3) := by decide +kernel
theorem d_Reader_readNumber_148 : decode b_Reader_readNumber 148 = .ok (.goto (-133), 3) := by decide +kernel
theorem d_Reader_readNumber_151 : decode b_Reader_readNumber 151 = .ok (.aload_n 0, 1) := by decide +kernel
theorem d_Reader_readNumber_152 : decode b_Reader_readNumber 152 = .ok (.getfield 26, 3) := by decide +kernel
theorem d_Reader_readNumber_155 : decode b_Reader_readNumber 155 = .ok (.iload_n 2, 1) := by decide +kernel
theorem d_Reader_readNumber_156 : decode b_Reader_readNumber 156 = .ok (.if_icmp .ne 8, 3) := by decide +kernel
theorem d_Reader_readNumber_159 : decode b_Reader_readNumber 159 = .ok (.aload_n 0, 1) := by decide +kernel
theorem d_Reader_readNumber_160 : decode b_Reader_readNumber 160 = .ok (.iconst 5, 1) := by decide +kernel
theorem d_Reader_readNumber_161 : decode b_Reader_readNumber 161 = .ok (.invokevirtual 66, 3) := by decide +kernel
theorem d_Reader_readNumber_164 : decode b_Reader_readNumber 164 = .ok (.return_, 1) := by decide +kernel
/-- Reader_readNumber -/
def w_Reader_readNumber (L : Nat → Nat) (a1 : Int) (Q : IS → Prop) (σ : IS) : Prop := WL (fun (K1 : Int → IS → Prop) (s3 : Int) (σ4 : IS) => WJ (fun (s7 : Unit) (σ8 : IS) => WJ (fun (s11 : Unit) (σ12 : IS) => Q σ12) (fun J9 => if (σ8.1 2 2) = (σ.1 2 2) then w_Reader_fail L 5 (fun σ14 => J9 () σ14) σ8 else J9 () σ8)) (fun J5 => if s3 < (σ4.1 2 3) then inL L 101 s3 ∧ ((¬ (σ4.2 101 (Int.toNat s3)) < 65 → (¬ 90 < (σ4.2 101 (Int.toNat s3)) → inR ((σ4.2 101 (Int.toNat s3)) + 32)))) ∧ LETI (if (σ4.2 101 (Int.toNat s3)) < 65 then (σ4.2 101 (Int.toNat s3)) else (if 90 < (σ4.2 101 (Int.toNat s3)) then (σ4.2 101 (Int.toNat s3)) else ((σ4.2 101 (Int.toNat s3)) + 32))) (fun t18 => ((((σ4.2 101 (Int.toNat s3)) < 48 → (¬ t18 < 97 → (¬ 102 < t18 → (inR (t18 - 97) ∧ inR ((t18 - 97) + 10))))) ∧ (¬ (σ4.2 101 (Int.toNat s3)) < 48 → ((57 < (σ4.2 101 (Int.toNat s3)) → (¬ t18 < 97 → (¬ 102 < t18 → (inR (t18 - 97) ∧ inR ((t18 - 97) + 10))))) ∧ (¬ 57 < (σ4.2 101 (Int.toNat s3)) → inR ((σ4.2 101 (Int.toNat s3)) - 48)))))) ∧ LETI (if (σ4.2 101 (Int.toNat s3)) < 48 then (if t18 < 97 then (16 : Int) else (if 102 < t18 then (16 : Int) else ((t18 - 97) + 10))) else (if 57 < (σ4.2 101 (Int.toNat s3)) then (if t18 < 97 then (16 : Int) else (if 102 < t18 then (16 : Int) else ((t18 - 97) + 10))) else ((σ4.2 101 (Int.toNat s3)) - 48))) (fun t25 => if t25 < a1 then inR ((σ4.1 2 7) * a1) ∧ inR (((σ4.1 2 7) * a1) + t25) ∧ inR ((σ4.1 2 2) + 1) ∧ inR (s3 + 1) ∧ K1 (s3 + 1) (pf (pf σ4 2 7 (if 1114112 < (((σ4.1 2 7) * a1) + t25) then 1114112 else (((σ4.1 2 7) * a1) + t25))) 2 2 ((σ4.1 2 2) + 1)) else J5 () σ4)) else J5 () σ4)) (σ.1 2 2) (pf σ 2 7 0)
set_option maxHeartbeats 4000000 in
set_option maxRecDepth 20000 in
theorem s_Reader_readNumber {L : Nat → Nat} (hL : ∀ r, L r < 2147483648) {d : Nat} (hd : 1 ≤ d) {a1 : Int} {Q : IS → Prop} {σ : IS}  (h : w_Reader_readNumber L a1 Q σ) : OkI BF L d 2 b_Reader_readNumber 7 0 0 [] [some (.inr 2), some (.inl a1)] σ (qv Q) := by
  unfold w_Reader_readNumber at h
  obtain ⟨d, rfl⟩ : ∃ e, d = e + 1 := ⟨d - 1, by omega⟩
  refine k_sb (lv' := [some (.inr 2), some (.inl a1), none, none, none, none, none]) (sb_s (sb_s (sb_e (sb_e (sb_e (sb_e (sb_e sb_nil))))))) ?_
  refine k_aload_n d_Reader_readNumber_0 rfl ?_
  refine k_getI (x := (σ.1 2 2)) d_Reader_readNumber_1 fl_2_26 ob_2 rfl rfl ?_
  refine k_istore_n (lv' := [some (.inr 2), some (.inl a1), some (.inl (σ.1 2 2)), none, none, none, none]) d_Reader_readNumber_4 rfl rfl ?_
  refine k_aload_n d_Reader_readNumber_5 rfl ?_
  refine k_iconst d_Reader_readNumber_6 cI_0 ?_
  refine k_putI d_Reader_readNumber_7 fl_2_130 ob_2 rfl ?_
  refine k_aload_n d_Reader_readNumber_10 rfl ?_
  refine k_getI (x := (σ.1 2 2)) d_Reader_readNumber_11 fl_2_26 ob_2 rfl rfl ?_
  refine k_istore_n (lv' := [some (.inr 2), some (.inl a1), some (.inl (σ.1 2 2)), some (.inl (σ.1 2 2)), none, none, none]) d_Reader_readNumber_14 rfl rfl ?_
  refine k_sb (lv' := [some (.inr 2), some (.inl a1), some (.inl (σ.1 2 2)), some (.inl (σ.1 2 2)), none, none, none]) (sb_s (sb_s (sb_s (sb_s (sb_s (sb_s (sb_s sb_nil))))))) ?_
  refine k_loop (S := Int) (st := fun _ => []) (lv := fun s3 => [some (.inr 2), some (.inl a1), some (.inl (σ.1 2 2)), some (.inl s3), none, none, none]) (fun K1 hK2 s3 σ4 h => ?_) (σ.1 2 2) _ h
  refine k_iload_n d_Reader_readNumber_15 rfl ?_
  refine k_aload_n d_Reader_readNumber_16 rfl ?_
  refine k_getI (x := (σ4.1 2 3)) d_Reader_readNumber_17 fl_2_32 ob_2 rfl rfl ?_
  refine k_join (S := Unit) (pc' := 151) (st' := fun s7 => []) (lv' := fun s7 => [some (.inr 2), none, some (.inl (σ.1 2 2)), none, none, none, none]) (fun s7 σ8 h => ?_) (fun J5 hJ6 h => ?_) h
  · refine k_aload_n d_Reader_readNumber_151 rfl ?_
    refine k_getI (x := (σ8.1 2 2)) d_Reader_readNumber_152 fl_2_26 ob_2 rfl rfl ?_
    refine k_iload_n d_Reader_readNumber_155 rfl ?_
    refine k_join (S := Unit) (pc' := 164) (st' := fun s11 => []) (lv' := fun s11 => [none, none, none, none, none, none, none]) (fun s11 σ12 h => ?_) (fun J9 hJ10 h => ?_) h
    · exact k_ret d_Reader_readNumber_164 h
    · refine k_icne d_Reader_readNumber_156 rfl (fun c13 => ?_) (fun c13 => ?_)
      · have h := ineg c13 h
        exact k_sb (sb_n (sb_s (sb_n (sb_s (sb_s (sb_s (sb_s sb_nil))))))) (hJ10 () _ h)
      · have h := ipos c13 h
        refine k_aload_n d_Reader_readNumber_159 rfl ?_
        refine k_iconst d_Reader_readNumber_160 cI_5 ?_
        refine k_cvv [.inl 5] d_Reader_readNumber_161 ml_2_66 rfl rfl ob_2 rfl (s_Reader_fail hL (by omega)  h) (fun σ14 h => ?_)
        exact k_sb (sb_n (sb_s (sb_n (sb_s (sb_s (sb_s (sb_s sb_nil))))))) (hJ10 () _ h)
  · refine k_icge d_Reader_readNumber_20 rfl (fun c16 => ?_) (fun c16 => ?_)
    · have h := ineg c16 h
      exact k_sb (sb_s (sb_n (sb_s (sb_n (sb_s (sb_s (sb_s sb_nil))))))) (hJ6 () _ h)
    · have h := ipos c16 h
      refine k_aload_n d_Reader_readNumber_23 rfl ?_
      refine k_getR d_Reader_readNumber_24 fl_2_21 ob_2 rfl ?_
      refine k_iload_n d_Reader_readNumber_27 rfl ?_
      obtain ⟨p70, h⟩ := h
      refine k_ild (x := (σ4.2 101 (Int.toNat s3))) d_Reader_readNumber_28 rI_101 p70 rfl ?_
      refine k_istore (lv' := [some (.inr 2), some (.inl a1), some (.inl (σ.1 2 2)), some (.inl s3), some (.inl (σ4.2 101 (Int.toNat s3))), none, none]) d_Reader_readNumber_29 rfl rfl ?_
      refine k_iload d_Reader_readNumber_31 rfl ?_
      refine k_bipush d_Reader_readNumber_33 cB_65 ?_
      obtain ⟨pt61, h⟩ := h
      have hV60 : OkI BF L (d + 1) 2 b_Reader_readNumber 7 0 55 [.inl (if (σ4.2 101 (Int.toNat s3)) < 65 then (σ4.2 101 (Int.toNat s3)) else (if 90 < (σ4.2 101 (Int.toNat s3)) then (σ4.2 101 (Int.toNat s3)) else ((σ4.2 101 (Int.toNat s3)) + 32)))] [some (.inr 2), some (.inl a1), some (.inl (σ.1 2 2)), some (.inl s3), some (.inl (σ4.2 101 (Int.toNat s3))), none, none] σ4 (qv Q) := by
        refine k_letI (fun t18 ht19 h => ?_) h
        refine k_istore (lv' := [some (.inr 2), some (.inl a1), some (.inl (σ.1 2 2)), some (.inl s3), some (.inl (σ4.2 101 (Int.toNat s3))), some (.inl t18), none]) d_Reader_readNumber_55 rfl rfl ?_
        refine k_iload d_Reader_readNumber_57 rfl ?_
        refine k_bipush d_Reader_readNumber_59 cB_48 ?_
        obtain ⟨pt33, h⟩ := h
        have hV32 : OkI BF L (d + 1) 2 b_Reader_readNumber 7 0 106 [.inl (if (σ4.2 101 (Int.toNat s3)) < 48 then (if t18 < 97 then (16 : Int) else (if 102 < t18 then (16 : Int) else ((t18 - 97) + 10))) else (if 57 < (σ4.2 101 (Int.toNat s3)) then (if t18 < 97 then (16 : Int) else (if 102 < t18 then (16 : Int) else ((t18 - 97) + 10))) else ((σ4.2 101 (Int.toNat s3)) - 48)))] [some (.inr 2), some (.inl a1), some (.inl (σ.1 2 2)), some (.inl s3), some (.inl (σ4.2 101 (Int.toNat s3))), some (.inl t18), none] σ4 (qv Q) := by
          refine k_letI (fun t25 ht26 h => ?_) h
          refine k_istore (lv' := [some (.inr 2), some (.inl a1), some (.inl (σ.1 2 2)), some (.inl s3), some (.inl (σ4.2 101 (Int.toNat s3))), some (.inl t18), some (.inl t25)]) d_Reader_readNumber_106 rfl rfl ?_
          refine k_iload d_Reader_readNumber_108 rfl ?_
          refine k_iload_n d_Reader_readNumber_110 rfl ?_
          refine k_iclt d_Reader_readNumber_111 rfl (fun c27 => ?_) (fun c27 => ?_)
          · have h := ipos c27 h
            refine k_aload_n d_Reader_readNumber_117 rfl ?_
            refine k_aload_n d_Reader_readNumber_118 rfl ?_
            refine k_getI (x := (σ4.1 2 7)) d_Reader_readNumber_119 fl_2_130 ob_2 rfl rfl ?_
            refine k_iload_n d_Reader_readNumber_122 rfl ?_
            obtain ⟨p31, h⟩ := h
            refine k_imul d_Reader_readNumber_123 p31 ?_
            refine k_iload d_Reader_readNumber_124 rfl ?_
            obtain ⟨p30, h⟩ := h
            refine k_iadd d_Reader_readNumber_126 p30 ?_
            refine k_ldc d_Reader_readNumber_127 ks_2_145 cL_1114112 ?_
            refine k_min d_Reader_readNumber_129 ml_2_146 rfl ?_
            refine k_putI d_Reader_readNumber_132 fl_2_130 ob_2 rfl ?_
            refine k_aload_n d_Reader_readNumber_135 rfl ?_
            refine k_dup d_Reader_readNumber_136 ?_
            refine k_getI (x := (σ4.1 2 2)) d_Reader_readNumber_137 fl_2_26 ob_2 rfl rfl ?_
            refine k_iconst d_Reader_readNumber_140 cI_1 ?_
            obtain ⟨p29, h⟩ := h
            refine k_iadd d_Reader_readNumber_141 p29 ?_
            refine k_putI d_Reader_readNumber_142 fl_2_26 ob_2 rfl ?_
            obtain ⟨p28, h⟩ := h
            refine k_iinc (lv' := [some (.inr 2), some (.inl a1), some (.inl (σ.1 2 2)), some (.inl (s3 + 1)), some (.inl (σ4.2 101 (Int.toNat s3))), some (.inl t18), some (.inl t25)]) d_Reader_readNumber_145 cI_1 rfl rfl p28 rfl ?_
            refine k_goto d_Reader_readNumber_148 rfl ?_
            exact k_sb (sb_s (sb_s (sb_s (sb_s (sb_n (sb_n (sb_n sb_nil))))))) (hK2 (s3 + 1) _ h)
          · have h := ineg c27 h
            refine k_goto d_Reader_readNumber_114 rfl ?_
            exact k_sb (sb_s (sb_n (sb_s (sb_n (sb_n (sb_n (sb_n sb_nil))))))) (hJ6 () _ h)
        obtain ⟨pa34, pb35⟩ := pt33
        refine k_iclt d_Reader_readNumber_61 rfl (fun c36 => ?_) (fun c36 => ?_)
        · have pa34 := pa34 c36
          have hV37 := k_eqI (if_pos c36) hV32
          have pb38 := pa34
          refine k_iload d_Reader_readNumber_79 rfl ?_
          refine k_bipush d_Reader_readNumber_81 cB_97 ?_
          refine k_iclt d_Reader_readNumber_83 rfl (fun c39 => ?_) (fun c39 => ?_)
          · have hV40 := k_eqI (if_pos c39) hV37
            refine k_bipush d_Reader_readNumber_104 cB_16 ?_
            exact hV40
          · have pb38 := pb38 c39
            have hV41 := k_eqI (if_neg c39) hV37
            have pb42 := pb38
            refine k_iload d_Reader_readNumber_86 rfl ?_
            refine k_bipush d_Reader_readNumber_88 cB_102 ?_
            refine k_icgt d_Reader_readNumber_90 rfl (fun c43 => ?_) (fun c43 => ?_)
            · have hV44 := k_eqI (if_pos c43) hV41
              refine k_bipush d_Reader_readNumber_104 cB_16 ?_
              exact hV44
            · have pb42 := pb42 c43
              have hV45 := k_eqI (if_neg c43) hV41
              obtain ⟨p20, p21⟩ := pb42
              refine k_iload d_Reader_readNumber_93 rfl ?_
              refine k_bipush d_Reader_readNumber_95 cB_97 ?_
              refine k_isub d_Reader_readNumber_97 p20 ?_
              refine k_bipush d_Reader_readNumber_98 cB_10 ?_
              refine k_iadd d_Reader_readNumber_100 p21 ?_
              refine k_goto d_Reader_readNumber_101 rfl ?_
              exact hV45
        · have pb35 := pb35 c36
          have hV46 := k_eqI (if_neg c36) hV32
          obtain ⟨pa47, pb48⟩ := pb35
          refine k_iload d_Reader_readNumber_64 rfl ?_
          refine k_bipush d_Reader_readNumber_66 cB_57 ?_
          refine k_icgt d_Reader_readNumber_68 rfl (fun c49 => ?_) (fun c49 => ?_)
          · have pa47 := pa47 c49
            have hV50 := k_eqI (if_pos c49) hV46
            have pb51 := pa47
            refine k_iload d_Reader_readNumber_79 rfl ?_
            refine k_bipush d_Reader_readNumber_81 cB_97 ?_
            refine k_iclt d_Reader_readNumber_83 rfl (fun c52 => ?_) (fun c52 => ?_)
            · have hV53 := k_eqI (if_pos c52) hV50
              refine k_bipush d_Reader_readNumber_104 cB_16 ?_
              exact hV53
            · have pb51 := pb51 c52
              have hV54 := k_eqI (if_neg c52) hV50
              have pb55 := pb51
              refine k_iload d_Reader_readNumber_86 rfl ?_
              refine k_bipush d_Reader_readNumber_88 cB_102 ?_
              refine k_icgt d_Reader_readNumber_90 rfl (fun c56 => ?_) (fun c56 => ?_)
              · have hV57 := k_eqI (if_pos c56) hV54
                refine k_bipush d_Reader_readNumber_104 cB_16 ?_
                exact hV57
              · have pb55 := pb55 c56
                have hV58 := k_eqI (if_neg c56) hV54
                obtain ⟨p22, p23⟩ := pb55
                refine k_iload d_Reader_readNumber_93 rfl ?_
                refine k_bipush d_Reader_readNumber_95 cB_97 ?_
                refine k_isub d_Reader_readNumber_97 p22 ?_
                refine k_bipush d_Reader_readNumber_98 cB_10 ?_
                refine k_iadd d_Reader_readNumber_100 p23 ?_
                refine k_goto d_Reader_readNumber_101 rfl ?_
                exact hV58
          · have pb48 := pb48 c49
            have hV59 := k_eqI (if_neg c49) hV46
            have p24 := pb48
            refine k_iload d_Reader_readNumber_71 rfl ?_
            refine k_bipush d_Reader_readNumber_73 cB_48 ?_
            refine k_isub d_Reader_readNumber_75 p24 ?_
            refine k_goto d_Reader_readNumber_76 rfl ?_
            exact hV59
      have pb62 := pt61
      refine k_iclt d_Reader_readNumber_35 rfl (fun c63 => ?_) (fun c63 => ?_)
      · have hV64 := k_eqI (if_pos c63) hV60
        refine k_iload d_Reader_readNumber_53 rfl ?_
        exact hV64
      · have pb62 := pb62 c63
        have hV65 := k_eqI (if_neg c63) hV60
        have pb66 := pb62
        refine k_iload d_Reader_readNumber_38 rfl ?_
        refine k_bipush d_Reader_readNumber_40 cB_90 ?_
        refine k_icgt d_Reader_readNumber_42 rfl (fun c67 => ?_) (fun c67 => ?_)
        · have hV68 := k_eqI (if_pos c67) hV65
          refine k_iload d_Reader_readNumber_53 rfl ?_
          exact hV68
        · have pb66 := pb66 c67
          have hV69 := k_eqI (if_neg c67) hV65
          have p17 := pb66
          refine k_iload d_Reader_readNumber_45 rfl ?_
          refine k_bipush d_Reader_readNumber_47 cB_32 ?_
          refine k_iadd d_Reader_readNumber_49 p17 ?_
          refine k_goto d_Reader_readNumber_50 rfl ?_
          exact hV69
theorem d_Reader_readReference_0 : decode b_Reader_readReference 0 = .ok (.aload_n 0, 1) := by decide +kernel
theorem d_Reader_readReference_1 : decode b_Reader_readReference 1 = .ok (.dup, 1) := by decide +kernel
theorem d_Reader_readReference_2 : decode b_Reader_readReference 2 = .ok (.getfield 26, 3) := by decide +kernel
theorem d_Reader_readReference_5 : decode b_Reader_readReference 5 = .ok (.iconst 1, 1) := by decide +kernel
theorem d_Reader_readReference_6 : decode b_Reader_readReference 6 = .ok (.iadd, 1) := by decide +kernel
theorem d_Reader_readReference_7 : decode b_Reader_readReference 7 = .ok (.putfield 26, 3) := by decide +kernel
theorem d_Reader_readReference_10 : decode b_Reader_readReference 10 = .ok (.aload_n 0, 1) := by decide +kernel
theorem d_Reader_readReference_11 : decode b_Reader_readReference 11 = .ok (.iconst (-1), 1) := by decide +kernel
theorem d_Reader_readReference_12 : decode b_Reader_readReference 12 = .ok (.putfield 130, 3) := by decide +kernel
theorem d_Reader_readReference_15 : decode b_Reader_readReference 15 = .ok (.aload_n 0, 1) := by decide +kernel
theorem d_Reader_readReference_16 : decode b_Reader_readReference 16 = .ok (.ldc 133, 2) := by decide +kernel
theorem d_Reader_readReference_18 : decode b_Reader_readReference 18 = .ok (.invokevirtual 135, 3) := by decide +kernel
theorem d_Reader_readReference_21 : decode b_Reader_readReference 21 = .ok (.ifCond .eq 12, 3) := by decide +kernel
theorem d_Reader_readReference_24 : decode b_Reader_readReference 24 = .ok (.aload_n 0, 1) := by decide +kernel
theorem d_Reader_readReference_25 : decode b_Reader_readReference 25 = .ok (.bipush 16, 2) := by decide +kernel
theorem d_Reader_readReference_27 : decode b_Reader_readReference 27 = .ok (.invokevirtual 138, 3) := by decide +kernel
theorem d_Reader_readReference_30 : decode b_Reader_readReference 30 = .ok (.goto 42, 3) := by decide +kernel
theorem d_Reader_readReference_33 : decode b_Reader_readReference 33 = .ok (.aload_n 0, 1) := by decide +kernel
theorem d_Reader_readReference_34 : decode b_Reader_readReference 34 = .ok (.ldc 141, 2) := by decide +kernel
theorem d_Reader_readReference_36 : decode b_Reader_readReference 36 = .ok (.invokevirtual 135, 3) := by decide +kernel
theorem d_Reader_readReference_39 : decode b_Reader_readReference 39 = .ok (.ifCond .eq 12, 3) := by decide +kernel
theorem d_Reader_readReference_42 : decode b_Reader_readReference 42 = .ok (.aload_n 0, 1) := by decide +kernel
theorem d_Reader_readReference_43 : decode b_Reader_readReference 43 = .ok (.bipush 10, 2) := by decide +kernel
theorem d_Reader_readReference_45 : decode b_Reader_readReference 45 = .ok (.invokevirtual 138, 3) := by decide +kernel
theorem d_Reader_readReference_48 : decode b_Reader_readReference 48 = .ok (.goto 24, 3) := by decide +kernel
theorem d_Reader_readReference_51 : decode b_Reader_readReference 51 = .ok (.aload_n 0, 1) := by decide +kernel
theorem d_Reader_readReference_52 : decode b_Reader_readReference 52 = .ok (.aload_n 0, 1) := by decide +kernel
theorem d_Reader_readReference_53 : decode b_Reader_readReference 53 = .ok (.invokevirtual 99, 3) := by decide +kernel
theorem d_Reader_readReference_56 : decode b_Reader_readReference 56 = .ok (.putfield 102, 3) := by decide +kernel
theorem d_Reader_readReference_59 : decode b_Reader_readReference 59 = .ok (.aload_n 0, 1) := by decide +kernel
theorem d_Reader_readReference_60 : decode b_Reader_readReference 60 = .ok (.aload_n 0, 1) := by decide +kernel
theorem d_Reader_readReference_61 : decode b_Reader_readReference 61 = .ok (.getfield 26, 3) := by decide +kernel
theorem d_Reader_readReference_64 : decode b_Reader_readReference 64 = .ok (.aload_n 0, 1) := by decide +kernel
theorem d_Reader_readReference_65 : decode b_Reader_readReference 65 = .ok (.getfield 102, 3) := by decide +kernel
theorem d_Reader_readReference_68 : decode b_Reader_readReference 68 = .ok (.isub, 1) := by decide +kernel
theorem d_Reader_readReference_69 : decode b_Reader_readReference 69 = .ok (.putfield 105, 3) := by decide +kernel
theorem d_Reader_readReference_72 : decode b_Reader_readReference 72 = .ok (.aload_n 0, 1) := by decide +kernel
theorem d_Reader_readReference_73 : decode b_Reader_readReference 73 = .ok (.ldc 143, 2) := by decide +kernel
theorem d_Reader_readReference_75 : decode b_Reader_readReference 75 = .ok (.invokevirtual 86, 3) := by decide +kernel
theorem d_Reader_readReference_78 : decode b_Reader_readReference 78 = .ok (.return_, 1) := by decide +kernel
/-- Reader_readReference -/
def w_Reader_readReference (L : Nat → Nat)  (Q : IS → Prop) (σ : IS) : Prop := inR ((σ.1 2 2) + 1) ∧ w_Reader_skip L 1058 (fun v2 σ1 => WJ (fun (s5 : Unit) (σ6 : IS) => w_Reader_need L 1060 (fun σ7 => Q σ7) σ6) (fun J3 => if v2 = 0 then w_Reader_skip L 1059 (fun v11 σ10 => if v11 = 0 then w_Reader_readName L  (fun v14 σ13 => inR ((σ13.1 2 2) - v14) ∧ J3 () (pf (pf σ13 2 8 v14) 2 9 ((σ13.1 2 2) - v14))) σ10 else w_Reader_readNumber L 10 (fun σ16 => J3 () σ16) σ10) σ1 else w_Reader_readNumber L 16 (fun σ18 => J3 () σ18) σ1)) (pf (pf σ 2 2 ((σ.1 2 2) + 1)) 2 7 (-1))
set_option maxHeartbeats 4000000 in
set_option maxRecDepth 20000 in
theorem s_Reader_readReference {L : Nat → Nat} (hL : ∀ r, L r < 2147483648) {d : Nat} (hd : 2 ≤ d)  {Q : IS → Prop} {σ : IS}  (h : w_Reader_readReference L  Q σ) : OkI BF L d 2 b_Reader_readReference 1 0 0 [] [some (.inr 2)] σ (qv Q) := by
  unfold w_Reader_readReference at h
  obtain ⟨d, rfl⟩ : ∃ e, d = e + 1 := ⟨d - 1, by omega⟩
  refine k_sb (lv' := [some (.inr 2)]) (sb_s sb_nil) ?_
  refine k_aload_n d_Reader_readReference_0 rfl ?_
  refine k_dup d_Reader_readReference_1 ?_
  refine k_getI (x := (σ.1 2 2)) d_Reader_readReference_2 fl_2_26 ob_2 rfl rfl ?_
  refine k_iconst d_Reader_readReference_5 cI_1 ?_
  obtain ⟨p20, h⟩ := h
  refine k_iadd d_Reader_readReference_6 p20 ?_
  refine k_putI d_Reader_readReference_7 fl_2_26 ob_2 rfl ?_
  refine k_aload_n d_Reader_readReference_10 rfl ?_
  refine k_iconst d_Reader_readReference_11 cI_m1 ?_
  refine k_putI d_Reader_readReference_12 fl_2_130 ob_2 rfl ?_
  refine k_aload_n d_Reader_readReference_15 rfl ?_
  refine k_ldc d_Reader_readReference_16 ks_2_133 rfl ?_
  refine k_cvi [.inr 1058] d_Reader_readReference_18 ml_2_135 rfl rfl ob_2 rfl (s_Reader_skip hL (by omega) it_1058 h) (fun v2 σ1 h => ?_)
  refine k_join (S := Unit) (pc' := 72) (st' := fun s5 => []) (lv' := fun s5 => [some (.inr 2)]) (fun s5 σ6 h => ?_) (fun J3 hJ4 h => ?_) h
  · refine k_aload_n d_Reader_readReference_72 rfl ?_
    refine k_ldc d_Reader_readReference_73 ks_2_143 rfl ?_
    refine k_cvv [.inr 1060] d_Reader_readReference_75 ml_2_86 rfl rfl ob_2 rfl (s_Reader_need hL (by omega) it_1060 h) (fun σ7 h => ?_)
    exact k_ret d_Reader_readReference_78 h
  · refine k_ifeq d_Reader_readReference_21 rfl (fun c9 => ?_) (fun c9 => ?_)
    · have h := ipos c9 h
      refine k_aload_n d_Reader_readReference_33 rfl ?_
      refine k_ldc d_Reader_readReference_34 ks_2_141 rfl ?_
      refine k_cvi [.inr 1059] d_Reader_readReference_36 ml_2_135 rfl rfl ob_2 rfl (s_Reader_skip hL (by omega) it_1059 h) (fun v11 σ10 h => ?_)
      refine k_ifeq d_Reader_readReference_39 rfl (fun c12 => ?_) (fun c12 => ?_)
      · have h := ipos c12 h
        refine k_aload_n d_Reader_readReference_51 rfl ?_
        refine k_aload_n d_Reader_readReference_52 rfl ?_
        refine k_cvi [] d_Reader_readReference_53 ml_2_99 rfl rfl ob_2 rfl (s_Reader_readName hL (by omega)  h) (fun v14 σ13 h => ?_)
        refine k_putI d_Reader_readReference_56 fl_2_102 ob_2 rfl ?_
        refine k_aload_n d_Reader_readReference_59 rfl ?_
        refine k_aload_n d_Reader_readReference_60 rfl ?_
        refine k_getI (x := (σ13.1 2 2)) d_Reader_readReference_61 fl_2_26 ob_2 rfl rfl ?_
        refine k_aload_n d_Reader_readReference_64 rfl ?_
        refine k_getI (x := v14) d_Reader_readReference_65 fl_2_102 ob_2 rfl rfl ?_
        obtain ⟨p15, h⟩ := h
        refine k_isub d_Reader_readReference_68 p15 ?_
        refine k_putI d_Reader_readReference_69 fl_2_105 ob_2 rfl ?_
        exact k_sb (sb_s sb_nil) (hJ4 () _ h)
      · have h := ineg c12 h
        refine k_aload_n d_Reader_readReference_42 rfl ?_
        refine k_bipush d_Reader_readReference_43 cB_10 ?_
        refine k_cvv [.inl 10] d_Reader_readReference_45 ml_2_138 rfl rfl ob_2 rfl (s_Reader_readNumber hL (by omega)  h) (fun σ16 h => ?_)
        refine k_goto d_Reader_readReference_48 rfl ?_
        exact k_sb (sb_s sb_nil) (hJ4 () _ h)
    · have h := ineg c9 h
      refine k_aload_n d_Reader_readReference_24 rfl ?_
      refine k_bipush d_Reader_readReference_25 cB_16 ?_
      refine k_cvv [.inl 16] d_Reader_readReference_27 ml_2_138 rfl rfl ob_2 rfl (s_Reader_readNumber hL (by omega)  h) (fun σ18 h => ?_)
      refine k_goto d_Reader_readReference_30 rfl ?_
      exact k_sb (sb_s sb_nil) (hJ4 () _ h)
theorem d_Entities_mean_0 : decode b_Entities_mean 0 = .ok (.aload_n 0, 1) := by decide +kernel
theorem d_Entities_mean_1 : decode b_Entities_mean 1 = .ok (.getfield 15, 3) := by decide +kernel
theorem d_Entities_mean_4 : decode b_Entities_mean 4 = .ok (.getfield 113, 3) := by decide +kernel
theorem d_Entities_mean_7 : decode b_Entities_mean 7 = .ok (.iconst (-1), 1) := by decide +kernel
theorem d_Entities_mean_8 : decode b_Entities_mean 8 = .ok (.if_icmp .eq 35, 3) := by decide +kernel
theorem d_Entities_mean_11 : decode b_Entities_mean 11 = .ok (.aload_n 0, 1) := by decide +kernel
theorem d_Entities_mean_12 : decode b_Entities_mean 12 = .ok (.getfield 15, 3) := by decide +kernel
theorem d_Entities_mean_15 : decode b_Entities_mean 15 = .ok (.getfield 113, 3) := by decide +kernel
theorem d_Entities_mean_18 : decode b_Entities_mean 18 = .ok (.invokestatic 119, 3) := by decide +kernel
theorem d_Entities_mean_21 : decode b_Entities_mean 21 = .ok (.ifCond .eq 11, 3) := by decide +kernel
theorem d_Entities_mean_24 : decode b_Entities_mean 24 = .ok (.aload_n 0, 1) := by decide +kernel
theorem d_Entities_mean_25 : decode b_Entities_mean 25 = .ok (.getfield 15, 3) := by decide +kernel
theorem d_Entities_mean_28 : decode b_Entities_mean 28 = .ok (.getfield 113, 3) := by decide +kernel
theorem d_Entities_mean_31 : decode b_Entities_mean 31 = .ok (.ireturn, 1) := by decide +kernel
theorem d_Entities_mean_32 : decode b_Entities_mean 32 = .ok (.aload_n 0, 1) := by decide +kernel
theorem d_Entities_mean_33 : decode b_Entities_mean 33 = .ok (.getfield 15, 3) := by decide +kernel
theorem d_Entities_mean_36 : decode b_Entities_mean 36 = .ok (.bipush 12, 2) := by decide +kernel
theorem d_Entities_mean_38 : decode b_Entities_mean 38 = .ok (.invokevirtual 107, 3) := by decide +kernel
theorem d_Entities_mean_41 : decode b_Entities_mean 41 = .ok (.iconst (-1), 1) := by decide +kernel
theorem d_Entities_mean_42 : decode b_Entities_mean 42 = .ok (.ireturn, 1) := by decide +kernel
theorem d_Entities_mean_43 : decode b_Entities_mean 43 = .ok (.aload_n 0, 1) := by decide +kernel
theorem d_Entities_mean_44 : decode b_Entities_mean 44 = .ok (.getfield 9, 3) := by decide +kernel
theorem d_Entities_mean_47 : decode b_Entities_mean 47 = .ok (.aload_n 0, 1) := by decide +kernel
theorem d_Entities_mean_48 : decode b_Entities_mean 48 = .ok (.getfield 15, 3) := by decide +kernel
theorem d_Entities_mean_51 : decode b_Entities_mean 51 = .ok (.getfield 127, 3) := by decide +kernel
theorem d_Entities_mean_54 : decode b_Entities_mean 54 = .ok (.aload_n 0, 1) := by decide +kernel
theorem d_Entities_mean_55 : decode b_Entities_mean 55 = .ok (.getfield 15, 3) := by decide +kernel
theorem d_Entities_mean_58 : decode b_Entities_mean 58 = .ok (.getfield 130, 3) := by decide +kernel
theorem d_Entities_mean_61 : decode b_Entities_mean 61 = .ok (.invokevirtual 133, 3) := by decide +kernel
theorem d_Entities_mean_64 : decode b_Entities_mean 64 = .ok (.istore_n 2, 1) := by decide +kernel
theorem d_Entities_mean_65 : decode b_Entities_mean 65 = .ok (.iload_n 2, 1) := by decide +kernel
theorem d_Entities_mean_66 : decode b_Entities_mean 66 = .ok (.iconst 1, 1) := by decide +kernel
theorem d_Entities_mean_67 : decode b_Entities_mean 67 = .ok (.if_icmp .lt 17, 3) := by decide +kernel
theorem d_Entities_mean_70 : decode b_Entities_mean 70 = .ok (.iload_n 2, 1) := by decide +kernel
theorem d_Entities_mean_71 : decode b_Entities_mean 71 = .ok (.iconst 5, 1) := by decide +kernel
theorem d_Entities_mean_72 : decode b_Entities_mean 72 = .ok (.if_icmp .gt 12, 3) := by decide +kernel
theorem d_Entities_mean_75 : decode b_Entities_mean 75 = .ok (.ldc 137, 2) := by decide +kernel
theorem d_Entities_mean_77 : decode b_Entities_mean 77 = .ok (.iload_n 2, 1) := by decide +kernel
theorem d_Entities_mean_78 : decode b_Entities_mean 78 = .ok (.iconst 1, 1) := by decide +kernel
theorem d_Entities_mean_79 : decode b_Entities_mean 79 = .ok (.isub, 1) := by decide +kernel
theorem d_Entities_mean_80 : decode b_Entities_mean 80 = .ok (.invokevirtual 139, 3) := by decide +kernel
theorem d_Entities_mean_83 : decode b_Entities_mean 83 = .ok (.ireturn, 1) := by decide +kernel
theorem d_Entities_mean_84 : decode b_Entities_mean 84 = .ok (.iload_n 2, 1) := by decide +kernel
theorem d_Entities_mean_85 : decode b_Entities_mean 85 = .ok (.iconst (-1), 1) := by decide +kernel
theorem d_Entities_mean_86 : decode b_Entities_mean 86 = .ok (.if_icmp .ne 7, 3) := by decide +kernel
theorem d_Entities_mean_89 : decode b_Entities_mean 89 = .ok (.iconst 0, 1) := by decide +kernel
theorem d_Entities_mean_90 : decode b_Entities_mean 90 = .ok (.goto 9, 3) := by decide +kernel
theorem d_Entities_mean_93 : decode b_Entities_mean 93 = .ok (.aload_n 0, 1) := by decide +kernel
theorem d_Entities_mean_94 : decode b_Entities_mean 94 = .ok (.getfield 51, 3) := by decide +kernel
theorem d_Entities_mean_97 : decode b_Entities_mean 97 = .ok (.iload_n 2, 1) := by decide +kernel
theorem d_Entities_mean_98 : decode b_Entities_mean 98 = .ok (.iaload, 1) := by decide +kernel
theorem d_Entities_mean_99 : decode b_Entities_mean 99 = .ok (.istore_n 3, 1) := by decide +kernel
theorem d_Entities_mean_100 : decode b_Entities_mean 100 = .ok (.iload_n 3, 1) := by decide +kernel
theorem d_Entities_mean_101 : decode b_Entities_mean 101 = .ok (.ifCond .eq 14, 3) := by decide +kernel
theorem d_Entities_mean_104 : decode b_Entities_mean 104 = .ok (.aload_n 0, 1) := by decide +kernel
theorem d_Entities_mean_105 : decode b_Entities_mean 105 = .ok (.iload_n 3, 1) := by decide +kernel
theorem d_Entities_mean_106 : decode b_Entities_mean 106 = .ok (.iconst 1, 1) := by decide +kernel
theorem d_Entities_mean_107 : decode b_Entities_mean 107 = .ok (.isub, 1) := by decide +kernel
theorem d_Entities_mean_108 : decode b_Entities_mean 108 = .ok (.iload_n 1, 1) := by decide +kernel
theorem d_Entities_mean_109 : decode b_Entities_mean 109 = .ok (.invokevirtual 123, 3) := by decide +kernel
theorem d_Entities_mean_112 : decode b_Entities_mean 112 = .ok (.goto 39, 3) := by decide +kernel
theorem d_Entities_mean_115 : decode b_Entities_mean 115 = .ok (.aload_n 0, 1) := by decide +kernel
theorem d_Entities_mean_116 : decode b_Entities_mean 116 = .ok (.getfield 72, 3) := by decide +kernel
theorem d_Entities_mean_119 : decode b_Entities_mean 119 = .ok (.ifCond .ne 10, 3) := by decide +kernel
theorem d_Entities_mean_122 : decode b_Entities_mean 122 = .ok (.aload_n 0, 1) := by decide +kernel
theorem d_Entities_mean_123 : decode b_Entities_mean 123 = .ok (.getfield 76, 3) := by decide +kernel
theorem d_Entities_mean_126 : decode b_Entities_mean 126 = .ok (.ifCond .ne 15, 3) := by decide +kernel
theorem d_Entities_mean_129 : decode b_Entities_mean 129 = .ok (.aload_n 0, 1) := by decide +kernel
theorem d_Entities_mean_130 : decode b_Entities_mean 130 = .ok (.getfield 15, 3) := by decide +kernel
theorem d_Entities_mean_133 : decode b_Entities_mean 133 = .ok (.bipush 9, 2) := by decide +kernel
theorem d_Entities_mean_135 : decode b_Entities_mean 135 = .ok (.invokevirtual 107, 3) := by decide +kernel
theorem d_Entities_mean_138 : decode b_Entities_mean 138 = .ok (.goto 13, 3) := by decide +kernel
theorem d_Entities_mean_141 : decode b_Entities_mean 141 = .ok (.aload_n 0, 1) := by decide +kernel
theorem d_Entities_mean_142 : decode b_Entities_mean 142 = .ok (.dup, 1) := by decide +kernel
theorem d_Entities_mean_143 : decode b_Entities_mean 143 = .ok (.getfield 69, 3) := by decide +kernel
theorem d_Entities_mean_146 : decode b_Entities_mean 146 = .ok (.iconst 1, 1) := by decide +kernel
theorem d_Entities_mean_147 : decode b_Entities_mean 147 = .ok (.iadd, 1) := by decide +kernel
theorem d_Entities_mean_148 : decode b_Entities_mean 148 = .ok (.putfield 69, 3) := by decide +kernel
theorem d_Entities_mean_151 : decode b_Entities_mean 151 = .ok (.iconst (-1), 1) := by decide +kernel
theorem d_Entities_mean_152 : decode b_Entities_mean 152 = .ok (.ireturn, 1) := by decide +kernel
/-- Entities_mean -/
def w_Entities_mean (L : Nat → Nat) (a1 : Int) (Q : Int → IS → Prop) (σ : IS) : Prop := if (σ.1 2 7) = (-1) then w_Store_find L (σ.1 2 8) (σ.1 2 9) (fun v3 σ2 => if ¬ v3 < 1 ∧ (¬ 5 < v3) then inR (v3 - 1) ∧ ((0 : Int) ≤ (v3 - 1) ∧ (v3 - 1) < tN 1046) ∧ Q (tC 1046 (v3 - 1)) σ2 else ((¬ v3 = (-1) → inL L 114 v3)) ∧ WJ (fun (s9 : Unit) (σ10 : IS) => Q (-1) σ10) (fun J7 => if (if v3 = (-1) then (0 : Int) else (σ2.2 114 (Int.toNat v3))) = 0 then if (σ2.1 3 15) = 0 ∧ (¬ (σ2.1 3 16) = 0) then inR ((σ2.1 3 14) + 1) ∧ J7 () (pf σ2 3 14 ((σ2.1 3 14) + 1)) else w_Reader_fail L 9 (fun σ13 => J7 () σ13) σ2 else inR ((if v3 = (-1) then (0 : Int) else (σ2.2 114 (Int.toNat v3))) - 1) ∧ w_Entities_enter L ((if v3 = (-1) then (0 : Int) else (σ2.2 114 (Int.toNat v3))) - 1) a1 (fun σ20 => J7 () σ20) σ2)) σ else w_Reader_isCharacter L (σ.1 2 7) (fun v35 σ34 => if v35 = 0 then w_Reader_fail L 12 (fun σ37 => Q (-1) σ37) σ34 else Q (σ34.1 2 7) σ34) σ
set_option maxHeartbeats 4000000 in
set_option maxRecDepth 20000 in
theorem s_Entities_mean {L : Nat → Nat} (hL : ∀ r, L r < 2147483648) {d : Nat} (hd : 2 ≤ d) {a1 : Int} {Q : Int → IS → Prop} {σ : IS}  (h : w_Entities_mean L a1 Q σ) : OkI BF L d 3 b_Entities_mean 4 1 0 [] [some (.inr 3), some (.inl a1)] σ (qi Q) := by
  unfold w_Entities_mean at h
  obtain ⟨d, rfl⟩ : ∃ e, d = e + 1 := ⟨d - 1, by omega⟩
  refine k_sb (lv' := [some (.inr 3), some (.inl a1), none, none]) (sb_s (sb_s (sb_e (sb_e sb_nil)))) ?_
  refine k_aload_n d_Entities_mean_0 rfl ?_
  refine k_getR d_Entities_mean_1 fl_3_15 ob_3 rfl ?_
  refine k_getI (x := (σ.1 2 7)) d_Entities_mean_4 fl_3_113 ob_2 rfl rfl ?_
  refine k_iconst d_Entities_mean_7 cI_m1 ?_
  refine k_iceq d_Entities_mean_8 rfl (fun c1 => ?_) (fun c1 => ?_)
  · have h := ipos c1 h
    refine k_aload_n d_Entities_mean_43 rfl ?_
    refine k_getR d_Entities_mean_44 fl_3_9 ob_3 rfl ?_
    refine k_aload_n d_Entities_mean_47 rfl ?_
    refine k_getR d_Entities_mean_48 fl_3_15 ob_3 rfl ?_
    refine k_getI (x := (σ.1 2 8)) d_Entities_mean_51 fl_3_127 ob_2 rfl rfl ?_
    refine k_aload_n d_Entities_mean_54 rfl ?_
    refine k_getR d_Entities_mean_55 fl_3_15 ob_3 rfl ?_
    refine k_getI (x := (σ.1 2 9)) d_Entities_mean_58 fl_3_130 ob_2 rfl rfl ?_
    refine k_cvi [.inl (σ.1 2 8), .inl (σ.1 2 9)] d_Entities_mean_61 ml_3_133 rfl rfl ob_1 rfl (s_Store_find hL (by omega) stB_BF h) (fun v3 σ2 h => ?_)
    refine k_istore_n (lv' := [some (.inr 3), some (.inl a1), some (.inl v3), none]) d_Entities_mean_64 rfl rfl ?_
    refine k_iload_n d_Entities_mean_65 rfl ?_
    refine k_iconst d_Entities_mean_66 cI_1 ?_
    have hX29 : (¬ v3 < 1 ∧ (¬ 5 < v3)) → OkI BF L (d + 1) 3 b_Entities_mean 4 1 75 [] [some (.inr 3), some (.inl a1), some (.inl v3), none] σ2 (qi Q) := fun e31 => by
      have h := ipos e31 h
      refine k_ldc d_Entities_mean_75 ks_3_137 rfl ?_
      refine k_iload_n d_Entities_mean_77 rfl ?_
      refine k_iconst d_Entities_mean_78 cI_1 ?_
      obtain ⟨p5, h⟩ := h
      refine k_isub d_Entities_mean_79 p5 ?_
      obtain ⟨p4, h⟩ := h
      refine k_tchr d_Entities_mean_80 ml_3_139 it_1046 p4 rfl ?_
      exact k_iret d_Entities_mean_83 (Or.inl rfl) h
    have hY30 : ¬ (¬ v3 < 1 ∧ (¬ 5 < v3)) → OkI BF L (d + 1) 3 b_Entities_mean 4 1 84 [] [some (.inr 3), some (.inl a1), some (.inl v3), none] σ2 (qi Q) := fun e31 => by
      have h := ineg e31 h
      refine k_iload_n d_Entities_mean_84 rfl ?_
      refine k_iconst d_Entities_mean_85 cI_m1 ?_
      obtain ⟨pt24, h⟩ := h
      have hV23 : OkI BF L (d + 1) 3 b_Entities_mean 4 1 99 [.inl (if v3 = (-1) then (0 : Int) else (σ2.2 114 (Int.toNat v3)))] [some (.inr 3), some (.inl a1), some (.inl v3), none] σ2 (qi Q) := by
        refine k_istore_n (lv' := [some (.inr 3), some (.inl a1), some (.inl v3), some (.inl (if v3 = (-1) then (0 : Int) else (σ2.2 114 (Int.toNat v3))))]) d_Entities_mean_99 rfl rfl ?_
        refine k_iload_n d_Entities_mean_100 rfl ?_
        refine k_join (S := Unit) (pc' := 151) (st' := fun s9 => []) (lv' := fun s9 => [none, none, none, none]) (fun s9 σ10 h => ?_) (fun J7 hJ8 h => ?_) h
        · refine k_iconst d_Entities_mean_151 cI_m1 ?_
          exact k_iret d_Entities_mean_152 (Or.inl rfl) h
        · refine k_ifeq d_Entities_mean_101 rfl (fun c11 => ?_) (fun c11 => ?_)
          · have h := ipos c11 h
            refine k_aload_n d_Entities_mean_115 rfl ?_
            refine k_getI (x := (σ2.1 3 15)) d_Entities_mean_116 fl_3_72 ob_3 rfl rfl ?_
            have hX15 : ((σ2.1 3 15) = 0 ∧ (¬ (σ2.1 3 16) = 0)) → OkI BF L (d + 1) 3 b_Entities_mean 4 1 141 [] [some (.inr 3), some (.inl a1), some (.inl v3), some (.inl (if v3 = (-1) then (0 : Int) else (σ2.2 114 (Int.toNat v3))))] σ2 (qi Q) := fun e17 => by
              have h := ipos e17 h
              refine k_aload_n d_Entities_mean_141 rfl ?_
              refine k_dup d_Entities_mean_142 ?_
              refine k_getI (x := (σ2.1 3 14)) d_Entities_mean_143 fl_3_69 ob_3 rfl rfl ?_
              refine k_iconst d_Entities_mean_146 cI_1 ?_
              obtain ⟨p12, h⟩ := h
              refine k_iadd d_Entities_mean_147 p12 ?_
              refine k_putI d_Entities_mean_148 fl_3_69 ob_3 rfl ?_
              exact k_sb (sb_n (sb_n (sb_n (sb_n sb_nil)))) (hJ8 () _ h)
            have hY16 : ¬ ((σ2.1 3 15) = 0 ∧ (¬ (σ2.1 3 16) = 0)) → OkI BF L (d + 1) 3 b_Entities_mean 4 1 129 [] [some (.inr 3), some (.inl a1), some (.inl v3), some (.inl (if v3 = (-1) then (0 : Int) else (σ2.2 114 (Int.toNat v3))))] σ2 (qi Q) := fun e17 => by
              have h := ineg e17 h
              refine k_aload_n d_Entities_mean_129 rfl ?_
              refine k_getR d_Entities_mean_130 fl_3_15 ob_3 rfl ?_
              refine k_bipush d_Entities_mean_133 cB_9 ?_
              refine k_cvv [.inl 9] d_Entities_mean_135 ml_3_107 rfl rfl ob_2 rfl (s_Reader_fail hL (by omega)  h) (fun σ13 h => ?_)
              refine k_goto d_Entities_mean_138 rfl ?_
              exact k_sb (sb_n (sb_n (sb_n (sb_n sb_nil)))) (hJ8 () _ h)
            refine k_ifne d_Entities_mean_119 rfl (fun c18 => ?_) (fun c18 => ?_)
            · exact hY16 (fun z => c18 z.1)
            · refine k_aload_n d_Entities_mean_122 rfl ?_
              refine k_getI (x := (σ2.1 3 16)) d_Entities_mean_123 fl_3_76 ob_3 rfl rfl ?_
              refine k_ifne d_Entities_mean_126 rfl (fun c19 => ?_) (fun c19 => ?_)
              · exact hX15 (⟨c18, c19⟩)
              · exact hY16 (fun z => (fun z => z c19) z.2)
          · have h := ineg c11 h
            refine k_aload_n d_Entities_mean_104 rfl ?_
            refine k_iload_n d_Entities_mean_105 rfl ?_
            refine k_iconst d_Entities_mean_106 cI_1 ?_
            obtain ⟨p22, h⟩ := h
            refine k_isub d_Entities_mean_107 p22 ?_
            refine k_iload_n d_Entities_mean_108 rfl ?_
            refine k_cvv [.inl ((if v3 = (-1) then (0 : Int) else (σ2.2 114 (Int.toNat v3))) - 1), .inl a1] d_Entities_mean_109 ml_3_123 rfl rfl ob_3 rfl (s_Entities_enter hL (by omega)  h) (fun σ20 h => ?_)
            refine k_goto d_Entities_mean_112 rfl ?_
            exact k_sb (sb_n (sb_n (sb_n (sb_n sb_nil)))) (hJ8 () _ h)
      have pb25 := pt24
      refine k_icne d_Entities_mean_86 rfl (fun c26 => ?_) (fun c26 => ?_)
      · have pb25 := pb25 c26
        have hV28 := k_eqI (if_neg c26) hV23
        have p6 := pb25
        refine k_aload_n d_Entities_mean_93 rfl ?_
        refine k_getR d_Entities_mean_94 fl_3_51 ob_3 rfl ?_
        refine k_iload_n d_Entities_mean_97 rfl ?_
        refine k_ild (x := (σ2.2 114 (Int.toNat v3))) d_Entities_mean_98 rI_114 p6 rfl ?_
        exact hV28
      · have hV27 := k_eqI (if_pos c26) hV23
        refine k_iconst d_Entities_mean_89 cI_0 ?_
        refine k_goto d_Entities_mean_90 rfl ?_
        exact hV27
    refine k_iclt d_Entities_mean_67 rfl (fun c32 => ?_) (fun c32 => ?_)
    · exact hY30 (fun z => z.1 c32)
    · refine k_iload_n d_Entities_mean_70 rfl ?_
      refine k_iconst d_Entities_mean_71 cI_5 ?_
      refine k_icgt d_Entities_mean_72 rfl (fun c33 => ?_) (fun c33 => ?_)
      · exact hY30 (fun z => (fun z => z c33) z.2)
      · exact hX29 (⟨c32, c33⟩)
  · have h := ineg c1 h
    refine k_aload_n d_Entities_mean_11 rfl ?_
    refine k_getR d_Entities_mean_12 fl_3_15 ob_3 rfl ?_
    refine k_getI (x := (σ.1 2 7)) d_Entities_mean_15 fl_3_113 ob_2 rfl rfl ?_
    refine k_csi [.inl (σ.1 2 7)] d_Entities_mean_18 ml_3_119 (Or.inl rfl) rfl rfl rfl (s_Reader_isCharacter hL (by omega)  h) (fun v35 σ34 h => ?_)
    refine k_ifeq d_Entities_mean_21 rfl (fun c36 => ?_) (fun c36 => ?_)
    · have h := ipos c36 h
      refine k_aload_n d_Entities_mean_32 rfl ?_
      refine k_getR d_Entities_mean_33 fl_3_15 ob_3 rfl ?_
      refine k_bipush d_Entities_mean_36 cB_12 ?_
      refine k_cvv [.inl 12] d_Entities_mean_38 ml_3_107 rfl rfl ob_2 rfl (s_Reader_fail hL (by omega)  h) (fun σ37 h => ?_)
      refine k_iconst d_Entities_mean_41 cI_m1 ?_
      exact k_iret d_Entities_mean_42 (Or.inl rfl) h
    · have h := ineg c36 h
      refine k_aload_n d_Entities_mean_24 rfl ?_
      refine k_getR d_Entities_mean_25 fl_3_15 ob_3 rfl ?_
      refine k_getI (x := (σ34.1 2 7)) d_Entities_mean_28 fl_3_113 ob_2 rfl rfl ?_
      exact k_iret d_Entities_mean_31 (Or.inl rfl) h
theorem d_Entities_readValue_0 : decode b_Entities_readValue 0 = .ok (.aload_n 0, 1) := by decide +kernel
theorem d_Entities_readValue_1 : decode b_Entities_readValue 1 = .ok (.getfield 9, 3) := by decide +kernel
theorem d_Entities_readValue_4 : decode b_Entities_readValue 4 = .ok (.getfield 85, 3) := by decide +kernel
theorem d_Entities_readValue_7 : decode b_Entities_readValue 7 = .ok (.istore_n 1, 1) := by decide +kernel
theorem d_Entities_readValue_8 : decode b_Entities_readValue 8 = .ok (.aload_n 0, 1) := by decide +kernel
theorem d_Entities_readValue_9 : decode b_Entities_readValue 9 = .ok (.getfield 15, 3) := by decide +kernel
theorem d_Entities_readValue_12 : decode b_Entities_readValue 12 = .ok (.invokevirtual 96, 3) := by decide +kernel
theorem d_Entities_readValue_15 : decode b_Entities_readValue 15 = .ok (.istore_n 2, 1) := by decide +kernel
theorem d_Entities_readValue_16 : decode b_Entities_readValue 16 = .ok (.aload_n 0, 1) := by decide +kernel
theorem d_Entities_readValue_17 : decode b_Entities_readValue 17 = .ok (.getfield 66, 3) := by decide +kernel
theorem d_Entities_readValue_20 : decode b_Entities_readValue 20 = .ok (.istore_n 3, 1) := by decide +kernel
theorem d_Entities_readValue_21 : decode b_Entities_readValue 21 = .ok (.iconst 1, 1) := by decide +kernel
theorem d_Entities_readValue_22 : decode b_Entities_readValue 22 = .ok (.istore 4, 2) := by decide +kernel
theorem d_Entities_readValue_24 : decode b_Entities_readValue 24 = .ok (.aload_n 0, 1) := by decide +kernel
theorem d_Entities_readValue_25 : decode b_Entities_readValue 25 = .ok (.getfield 15, 3) := by decide +kernel
theorem d_Entities_readValue_28 : decode b_Entities_readValue 28 = .ok (.dup, 1) := by decide +kernel
theorem d_Entities_readValue_29 : decode b_Entities_readValue 29 = .ok (.getfield 88, 3) := by decide +kernel
theorem d_Entities_readValue_32 : decode b_Entities_readValue 32 = .ok (.iconst 1, 1) := by decide +kernel
theorem d_Entities_readValue_33 : decode b_Entities_readValue 33 = .ok (.iadd, 1) := by decide +kernel
theorem d_Entities_readValue_34 : decode b_Entities_readValue 34 = .ok (.putfield 88, 3) := by decide +kernel
theorem d_Entities_readValue_37 : decode b_Entities_readValue 37 = .ok (.iconst 0, 1) := by decide +kernel
theorem d_Entities_readValue_38 : decode b_Entities_readValue 38 = .ok (.istore 5, 2) := by decide +kernel
theorem d_Entities_readValue_40 : decode b_Entities_readValue 40 = .ok (.iload 5, 2) := by decide +kernel
theorem d_Entities_readValue_42 : decode b_Entities_readValue 42 = .ok (.ldc 148, 2) := by decide +kernel
theorem d_Entities_readValue_44 : decode b_Entities_readValue 44 = .ok (.if_icmp .ge 200, 3) := by decide +kernel
theorem d_Entities_readValue_47 : decode b_Entities_readValue 47 = .ok (.iload 4, 2) := by decide +kernel
theorem d_Entities_readValue_49 : decode b_Entities_readValue 49 = .ok (.ifCond .eq 195, 3) := by decide +kernel
theorem d_Entities_readValue_52 : decode b_Entities_readValue 52 = .ok (.aload_n 0, 1) := by decide +kernel
theorem d_Entities_readValue_53 : decode b_Entities_readValue 53 = .ok (.getfield 15, 3) := by decide +kernel
theorem d_Entities_readValue_56 : decode b_Entities_readValue 56 = .ok (.getfield 93, 3) := by decide +kernel
theorem d_Entities_readValue_59 : decode b_Entities_readValue 59 = .ok (.ifCond .ne 185, 3) := by decide +kernel
theorem d_Entities_readValue_62 : decode b_Entities_readValue 62 = .ok (.aload_n 0, 1) := by decide +kernel
theorem d_Entities_readValue_63 : decode b_Entities_readValue 63 = .ok (.getfield 15, 3) := by decide +kernel
theorem d_Entities_readValue_66 : decode b_Entities_readValue 66 = .ok (.invokevirtual 96, 3) := by decide +kernel
theorem d_Entities_readValue_69 : decode b_Entities_readValue 69 = .ok (.istore 6, 2) := by decide +kernel
theorem d_Entities_readValue_71 : decode b_Entities_readValue 71 = .ok (.iload 6, 2) := by decide +kernel
theorem d_Entities_readValue_73 : decode b_Entities_readValue 73 = .ok (.iconst (-1), 1) := by decide +kernel
theorem d_Entities_readValue_74 : decode b_Entities_readValue 74 = .ok (.if_icmp .ne 18, 3) := by decide +kernel
theorem d_Entities_readValue_77 : decode b_Entities_readValue 77 = .ok (.aload_n 0, 1) := by decide +kernel
theorem d_Entities_readValue_78 : decode b_Entities_readValue 78 = .ok (.getfield 66, 3) := by decide +kernel
theorem d_Entities_readValue_81 : decode b_Entities_readValue 81 = .ok (.iload_n 3, 1) := by decide +kernel
theorem d_Entities_readValue_82 : decode b_Entities_readValue 82 = .ok (.if_icmp .le 10, 3) := by decide +kernel
theorem d_Entities_readValue_85 : decode b_Entities_readValue 85 = .ok (.aload_n 0, 1) := by decide +kernel
theorem d_Entities_readValue_86 : decode b_Entities_readValue 86 = .ok (.invokevirtual 149, 3) := by decide +kernel
theorem d_Entities_readValue_89 : decode b_Entities_readValue 89 = .ok (.goto 149, 3) := by decide +kernel
theorem d_Entities_readValue_92 : decode b_Entities_readValue 92 = .ok (.iload 6, 2) := by decide +kernel
theorem d_Entities_readValue_94 : decode b_Entities_readValue 94 = .ok (.iconst (-1), 1) := by decide +kernel
theorem d_Entities_readValue_95 : decode b_Entities_readValue 95 = .ok (.if_icmp .eq 17, 3) := by decide +kernel
theorem d_Entities_readValue_98 : decode b_Entities_readValue 98 = .ok (.iload 6, 2) := by decide +kernel
theorem d_Entities_readValue_100 : decode b_Entities_readValue 100 = .ok (.iload_n 2, 1) := by decide +kernel
theorem d_Entities_readValue_101 : decode b_Entities_readValue 101 = .ok (.if_icmp .ne 30, 3) := by decide +kernel
theorem d_Entities_readValue_104 : decode b_Entities_readValue 104 = .ok (.aload_n 0, 1) := by decide +kernel
theorem d_Entities_readValue_105 : decode b_Entities_readValue 105 = .ok (.getfield 66, 3) := by decide +kernel
theorem d_Entities_readValue_108 : decode b_Entities_readValue 108 = .ok (.iload_n 3, 1) := by decide +kernel
theorem d_Entities_readValue_109 : decode b_Entities_readValue 109 = .ok (.if_icmp .ne 22, 3) := by decide +kernel
theorem d_Entities_readValue_112 : decode b_Entities_readValue 112 = .ok (.aload_n 0, 1) := by decide +kernel
theorem d_Entities_readValue_113 : decode b_Entities_readValue 113 = .ok (.getfield 15, 3) := by decide +kernel
theorem d_Entities_readValue_116 : decode b_Entities_readValue 116 = .ok (.dup, 1) := by decide +kernel
theorem d_Entities_readValue_117 : decode b_Entities_readValue 117 = .ok (.getfield 88, 3) := by decide +kernel
theorem d_Entities_readValue_120 : decode b_Entities_readValue 120 = .ok (.iconst 1, 1) := by decide +kernel
theorem d_Entities_readValue_121 : decode b_Entities_readValue 121 = .ok (.iadd, 1) := by decide +kernel
theorem d_Entities_readValue_122 : decode b_Entities_readValue 122 = .ok (.putfield 88, 3) := by decide +kernel
theorem d_Entities_readValue_125 : decode b_Entities_readValue 125 = .ok (.iconst 0, 1) := by decide +kernel
theorem d_Entities_readValue_126 : decode b_Entities_readValue 126 = .ok (.istore 4, 2) := by decide +kernel
theorem d_Entities_readValue_128 : decode b_Entities_readValue 128 = .ok (.goto 110, 3) := by decide +kernel
theorem d_Entities_readValue_131 : decode b_Entities_readValue 131 = .ok (.iload 6, 2) := by decide +kernel
theorem d_Entities_readValue_133 : decode b_Entities_readValue 133 = .ok (.bipush 38, 2) := by decide +kernel
theorem d_Entities_readValue_135 : decode b_Entities_readValue 135 = .ok (.if_icmp .ne 49, 3) := by decide +kernel
theorem d_Entities_readValue_138 : decode b_Entities_readValue 138 = .ok (.aload_n 0, 1) := by decide +kernel
theorem d_Entities_readValue_139 : decode b_Entities_readValue 139 = .ok (.getfield 15, 3) := by decide +kernel
theorem d_Entities_readValue_142 : decode b_Entities_readValue 142 = .ok (.invokevirtual 100, 3) := by decide +kernel
theorem d_Entities_readValue_145 : decode b_Entities_readValue 145 = .ok (.aload_n 0, 1) := by decide +kernel
theorem d_Entities_readValue_146 : decode b_Entities_readValue 146 = .ok (.getfield 15, 3) := by decide +kernel
theorem d_Entities_readValue_149 : decode b_Entities_readValue 149 = .ok (.getfield 93, 3) := by decide +kernel
theorem d_Entities_readValue_152 : decode b_Entities_readValue 152 = .ok (.ifCond .ne 11, 3) := by decide +kernel
theorem d_Entities_readValue_155 : decode b_Entities_readValue 155 = .ok (.aload_n 0, 1) := by decide +kernel
theorem d_Entities_readValue_156 : decode b_Entities_readValue 156 = .ok (.iconst (-1), 1) := by decide +kernel
theorem d_Entities_readValue_157 : decode b_Entities_readValue 157 = .ok (.invokevirtual 152, 3) := by decide +kernel
theorem d_Entities_readValue_160 : decode b_Entities_readValue 160 = .ok (.goto 4, 3) := by decide +kernel
theorem d_Entities_readValue_163 : decode b_Entities_readValue 163 = .ok (.iconst (-1), 1) := by decide +kernel
theorem d_Entities_readValue_164 : decode b_Entities_readValue 164 = .ok (.istore 7, 2) := by decide +kernel
theorem d_Entities_readValue_166 : decode b_Entities_readValue 166 = .ok (.iload 7, 2) := by decide +kernel
theorem d_Entities_readValue_168 : decode b_Entities_readValue 168 = .ok (.iconst (-1), 1) := by decide +kernel
theorem d_Entities_readValue_169 : decode b_Entities_readValue 169 = .ok (.if_icmp .eq 12, 3) := by decide +kernel
theorem d_Entities_readValue_172 : decode b_Entities_readValue 172 = .ok (.aload_n 0, 1) := by decide +kernel
theorem d_Entities_readValue_173 : decode b_Entities_readValue 173 = .ok (.getfield 9, 3) := by decide +kernel
theorem d_Entities_readValue_176 : decode b_Entities_readValue 176 = .ok (.iload 7, 2) := by decide +kernel
theorem d_Entities_readValue_178 : decode b_Entities_readValue 178 = .ok (.invokevirtual 110, 3) := by decide +kernel
theorem d_Entities_readValue_181 : decode b_Entities_readValue 181 = .ok (.goto 57, 3) := by decide +kernel
theorem d_Entities_readValue_184 : decode b_Entities_readValue 184 = .ok (.iload 6, 2) := by decide +kernel
theorem d_Entities_readValue_186 : decode b_Entities_readValue 186 = .ok (.bipush 60, 2) := by decide +kernel
theorem d_Entities_readValue_188 : decode b_Entities_readValue 188 = .ok (.if_icmp .ne 15, 3) := by decide +kernel
theorem d_Entities_readValue_191 : decode b_Entities_readValue 191 = .ok (.aload_n 0, 1) := by decide +kernel
theorem d_Entities_readValue_192 : decode b_Entities_readValue 192 = .ok (.getfield 15, 3) := by decide +kernel
theorem d_Entities_readValue_195 : decode b_Entities_readValue 195 = .ok (.bipush 11, 2) := by decide +kernel
theorem d_Entities_readValue_197 : decode b_Entities_readValue 197 = .ok (.invokevirtual 107, 3) := by decide +kernel
theorem d_Entities_readValue_200 : decode b_Entities_readValue 200 = .ok (.goto 38, 3) := by decide +kernel
theorem d_Entities_readValue_203 : decode b_Entities_readValue 203 = .ok (.aload_n 0, 1) := by decide +kernel
theorem d_Entities_readValue_204 : decode b_Entities_readValue 204 = .ok (.getfield 9, 3) := by decide +kernel
theorem d_Entities_readValue_207 : decode b_Entities_readValue 207 = .ok (.iload 6, 2) := by decide +kernel
theorem d_Entities_readValue_209 : decode b_Entities_readValue 209 = .ok (.invokestatic 156, 3) := by decide +kernel
theorem d_Entities_readValue_212 : decode b_Entities_readValue 212 = .ok (.ifCond .eq 8, 3) := by decide +kernel
theorem d_Entities_readValue_215 : decode b_Entities_readValue 215 = .ok (.bipush 32, 2) := by decide +kernel
theorem d_Entities_readValue_217 : decode b_Entities_readValue 217 = .ok (.goto 5, 3) := by decide +kernel
theorem d_Entities_readValue_220 : decode b_Entities_readValue 220 = .ok (.iload 6, 2) := by decide +kernel
theorem d_Entities_readValue_222 : decode b_Entities_readValue 222 = .ok (.invokevirtual 110, 3) := by decide +kernel
theorem d_Entities_readValue_225 : decode b_Entities_readValue 225 = .ok (.aload_n 0, 1) := by decide +kernel
theorem d_Entities_readValue_226 : decode b_Entities_readValue 226 = .ok (.getfield 15, 3) := by decide +kernel
theorem d_Entities_readValue_229 : decode b_Entities_readValue 229 = .ok (.dup, 1) := by decide +kernel
theorem d_Entities_readValue_230 : decode b_Entities_readValue 230 = .ok (.getfield 88, 3) := by decide +kernel
theorem d_Entities_readValue_233 : decode b_Entities_readValue 233 = .ok (.iconst 1, 1) := by decide +kernel
theorem d_Entities_readValue_234 : decode b_Entities_readValue 234 = .ok (.iadd, 1) := by decide +kernel
theorem d_Entities_readValue_235 : decode b_Entities_readValue 235 = .ok (.putfield 88, 3) := by decide +kernel
theorem d_Entities_readValue_238 : decode b_Entities_readValue 238 = .ok (.iinc 5 1, 3) := by decide +kernel
theorem d_Entities_readValue_241 : decode b_Entities_readValue 241 = .ok (.goto (-201), 3) := by decide +kernel
theorem d_Entities_readValue_244 : decode b_Entities_readValue 244 = .ok (.iload_n 1, 1) := by decide +kernel
theorem d_Entities_readValue_245 : decode b_Entities_readValue 245 = .ok (.ireturn, 1) := by decide +kernel
/-- Entities_readValue -/
def w_Entities_readValue (L : Nat → Nat)  (Q : Int → IS → Prop) (σ : IS) : Prop := w_Reader_peek L  (fun v2 σ1 => inR ((σ1.1 2 2) + 1) ∧ WL (fun (K3 : Int × Int → IS → Prop) (s5 : Int × Int) (σ6 : IS) => if s5.2 < 1000000 ∧ (¬ s5.1 = 0 ∧ ((σ6.1 2 4) = 0)) then w_Reader_peek L  (fun v8 σ7 => WJ (fun (s11 : Int) (σ12 : IS) => inR (s5.2 + 1) ∧ K3 (s11, (s5.2 + 1)) σ12) (fun J9 => if v8 = (-1) ∧ ((σ1.1 3 12) < (σ7.1 3 12)) then w_Entities_leave L  (fun σ14 => J9 s5.1 σ14) σ7 else WJ (fun (s18 : Unit) (σ19 : IS) => inR ((σ19.1 2 2) + 1) ∧ J9 0 (pf σ19 2 2 ((σ19.1 2 2) + 1))) (fun J16 => if v8 = (-1) then J16 () σ7 else if ¬ v8 = v2 ∨ (¬ (σ7.1 3 12) = (σ1.1 3 12)) then if v8 = 38 then w_Reader_readReference L  (fun σ35 => WJ (fun (s39 : Int) (σ40 : IS) => WJ (fun (s43 : Unit) (σ44 : IS) => J9 s5.1 σ44) (fun J41 => if s39 = (-1) then J41 () σ40 else w_Store_add L s39 (fun σ46 => J41 () σ46) σ40)) (fun J37 => if (σ35.1 2 4) = 0 then w_Entities_mean L (-1) (fun v50 σ49 => J37 v50 σ49) σ35 else J37 (-1) σ35)) σ7 else if v8 = 60 then w_Reader_fail L 11 (fun σ33 => J9 s5.1 σ33) σ7 else w_Reader_isSpace L v8 (fun v25 σ24 => w_Store_add L (if v25 = 0 then v8 else (32 : Int)) (fun σ26 => inR ((σ26.1 2 2) + 1) ∧ J9 s5.1 (pf σ26 2 2 ((σ26.1 2 2) + 1))) σ24) σ7 else J16 () σ7))) σ6 else Q (σ.1 1 3) σ6) (1, 0) (pf σ1 2 2 ((σ1.1 2 2) + 1))) σ
set_option maxHeartbeats 4000000 in
set_option maxRecDepth 20000 in
theorem s_Entities_readValue {L : Nat → Nat} (hL : ∀ r, L r < 2147483648) {d : Nat} (hd : 3 ≤ d)  {Q : Int → IS → Prop} {σ : IS}  (h : w_Entities_readValue L  Q σ) : OkI BF L d 3 b_Entities_readValue 8 1 0 [] [some (.inr 3)] σ (qi Q) := by
  unfold w_Entities_readValue at h
  obtain ⟨d, rfl⟩ : ∃ e, d = e + 1 := ⟨d - 1, by omega⟩
  refine k_sb (lv' := [some (.inr 3), none, none, none, none, none, none, none]) (sb_s (sb_e (sb_e (sb_e (sb_e (sb_e (sb_e (sb_e sb_nil)))))))) ?_
  refine k_aload_n d_Entities_readValue_0 rfl ?_
  refine k_getR d_Entities_readValue_1 fl_3_9 ob_3 rfl ?_
  refine k_getI (x := (σ.1 1 3)) d_Entities_readValue_4 fl_3_85 ob_1 rfl rfl ?_
  refine k_istore_n (lv' := [some (.inr 3), some (.inl (σ.1 1 3)), none, none, none, none, none, none]) d_Entities_readValue_7 rfl rfl ?_
  refine k_aload_n d_Entities_readValue_8 rfl ?_
  refine k_getR d_Entities_readValue_9 fl_3_15 ob_3 rfl ?_
  refine k_cvi [] d_Entities_readValue_12 ml_3_96 rfl rfl ob_2 rfl (s_Reader_peek hL (by omega)  h) (fun v2 σ1 h => ?_)
  refine k_istore_n (lv' := [some (.inr 3), some (.inl (σ.1 1 3)), some (.inl v2), none, none, none, none, none]) d_Entities_readValue_15 rfl rfl ?_
  refine k_aload_n d_Entities_readValue_16 rfl ?_
  refine k_getI (x := (σ1.1 3 12)) d_Entities_readValue_17 fl_3_66 ob_3 rfl rfl ?_
  refine k_istore_n (lv' := [some (.inr 3), some (.inl (σ.1 1 3)), some (.inl v2), some (.inl (σ1.1 3 12)), none, none, none, none]) d_Entities_readValue_20 rfl rfl ?_
  refine k_iconst d_Entities_readValue_21 cI_1 ?_
  refine k_istore (lv' := [some (.inr 3), some (.inl (σ.1 1 3)), some (.inl v2), some (.inl (σ1.1 3 12)), some (.inl 1), none, none, none]) d_Entities_readValue_22 rfl rfl ?_
  refine k_aload_n d_Entities_readValue_24 rfl ?_
  refine k_getR d_Entities_readValue_25 fl_3_15 ob_3 rfl ?_
  refine k_dup d_Entities_readValue_28 ?_
  refine k_getI (x := (σ1.1 2 2)) d_Entities_readValue_29 fl_3_88 ob_2 rfl rfl ?_
  refine k_iconst d_Entities_readValue_32 cI_1 ?_
  obtain ⟨p67, h⟩ := h
  refine k_iadd d_Entities_readValue_33 p67 ?_
  refine k_putI d_Entities_readValue_34 fl_3_88 ob_2 rfl ?_
  refine k_iconst d_Entities_readValue_37 cI_0 ?_
  refine k_istore (lv' := [some (.inr 3), some (.inl (σ.1 1 3)), some (.inl v2), some (.inl (σ1.1 3 12)), some (.inl 1), some (.inl 0), none, none]) d_Entities_readValue_38 rfl rfl ?_
  refine k_sb (lv' := [some (.inr 3), some (.inl (σ.1 1 3)), some (.inl v2), some (.inl (σ1.1 3 12)), some (.inl 1), some (.inl 0), none, none]) (sb_s (sb_s (sb_s (sb_s (sb_s (sb_s (sb_s (sb_s sb_nil)))))))) ?_
  refine k_loop (S := Int × Int) (st := fun _ => []) (lv := fun s5 => [some (.inr 3), some (.inl (σ.1 1 3)), some (.inl v2), some (.inl (σ1.1 3 12)), some (.inl s5.1), some (.inl s5.2), none, none]) (fun K3 hK4 s5 σ6 h => ?_) (1, 0) _ h
  refine k_iload d_Entities_readValue_40 rfl ?_
  refine k_ldc d_Entities_readValue_42 ks_3_148 cL_1000000 ?_
  have hX61 : (s5.2 < 1000000 ∧ (¬ s5.1 = 0 ∧ ((σ6.1 2 4) = 0))) → OkI BF L (d + 1) 3 b_Entities_readValue 8 1 62 [] [some (.inr 3), some (.inl (σ.1 1 3)), some (.inl v2), some (.inl (σ1.1 3 12)), some (.inl s5.1), some (.inl s5.2), none, none] σ6 (qi Q) := fun e63 => by
    have h := ipos e63 h
    refine k_aload_n d_Entities_readValue_62 rfl ?_
    refine k_getR d_Entities_readValue_63 fl_3_15 ob_3 rfl ?_
    refine k_cvi [] d_Entities_readValue_66 ml_3_96 rfl rfl ob_2 rfl (s_Reader_peek hL (by omega)  h) (fun v8 σ7 h => ?_)
    refine k_istore (lv' := [some (.inr 3), some (.inl (σ.1 1 3)), some (.inl v2), some (.inl (σ1.1 3 12)), some (.inl s5.1), some (.inl s5.2), some (.inl v8), none]) d_Entities_readValue_69 rfl rfl ?_
    refine k_iload d_Entities_readValue_71 rfl ?_
    refine k_iconst d_Entities_readValue_73 cI_m1 ?_
    refine k_join (S := Int) (pc' := 238) (st' := fun s11 => []) (lv' := fun s11 => [some (.inr 3), some (.inl (σ.1 1 3)), some (.inl v2), some (.inl (σ1.1 3 12)), some (.inl s11), some (.inl s5.2), none, none]) (fun s11 σ12 h => ?_) (fun J9 hJ10 h => ?_) h
    · obtain ⟨p13, h⟩ := h
      refine k_iinc (lv' := [some (.inr 3), some (.inl (σ.1 1 3)), some (.inl v2), some (.inl (σ1.1 3 12)), some (.inl s11), some (.inl (s5.2 + 1)), none, none]) d_Entities_readValue_238 cI_1 rfl rfl p13 rfl ?_
      refine k_goto d_Entities_readValue_241 rfl ?_
      exact k_sb (sb_s (sb_s (sb_s (sb_s (sb_s (sb_s (sb_s (sb_s sb_nil)))))))) (hK4 (s11, (s5.2 + 1)) _ h)
    · have hX56 : (v8 = (-1) ∧ ((σ1.1 3 12) < (σ7.1 3 12))) → OkI BF L (d + 1) 3 b_Entities_readValue 8 1 85 [] [some (.inr 3), some (.inl (σ.1 1 3)), some (.inl v2), some (.inl (σ1.1 3 12)), some (.inl s5.1), some (.inl s5.2), some (.inl v8), none] σ7 (qi Q) := fun e58 => by
        have h := ipos e58 h
        refine k_aload_n d_Entities_readValue_85 rfl ?_
        refine k_cvv [] d_Entities_readValue_86 ml_3_149 rfl rfl ob_3 rfl (s_Entities_leave hL (by omega)  h) (fun σ14 h => ?_)
        refine k_goto d_Entities_readValue_89 rfl ?_
        exact k_sb (sb_s (sb_s (sb_s (sb_s (sb_s (sb_s (sb_n (sb_s sb_nil)))))))) (hJ10 s5.1 _ h)
      have hY57 : ¬ (v8 = (-1) ∧ ((σ1.1 3 12) < (σ7.1 3 12))) → OkI BF L (d + 1) 3 b_Entities_readValue 8 1 92 [] [some (.inr 3), some (.inl (σ.1 1 3)), some (.inl v2), some (.inl (σ1.1 3 12)), some (.inl s5.1), some (.inl s5.2), some (.inl v8), none] σ7 (qi Q) := fun e58 => by
        have h := ineg e58 h
        refine k_iload d_Entities_readValue_92 rfl ?_
        refine k_iconst d_Entities_readValue_94 cI_m1 ?_
        refine k_join (S := Unit) (pc' := 112) (st' := fun s18 => []) (lv' := fun s18 => [some (.inr 3), some (.inl (σ.1 1 3)), some (.inl v2), some (.inl (σ1.1 3 12)), none, some (.inl s5.2), none, none]) (fun s18 σ19 h => ?_) (fun J16 hJ17 h => ?_) h
        · refine k_aload_n d_Entities_readValue_112 rfl ?_
          refine k_getR d_Entities_readValue_113 fl_3_15 ob_3 rfl ?_
          refine k_dup d_Entities_readValue_116 ?_
          refine k_getI (x := (σ19.1 2 2)) d_Entities_readValue_117 fl_3_88 ob_2 rfl rfl ?_
          refine k_iconst d_Entities_readValue_120 cI_1 ?_
          obtain ⟨p20, h⟩ := h
          refine k_iadd d_Entities_readValue_121 p20 ?_
          refine k_putI d_Entities_readValue_122 fl_3_88 ob_2 rfl ?_
          refine k_iconst d_Entities_readValue_125 cI_0 ?_
          refine k_istore (lv' := [some (.inr 3), some (.inl (σ.1 1 3)), some (.inl v2), some (.inl (σ1.1 3 12)), some (.inl 0), some (.inl s5.2), none, none]) d_Entities_readValue_126 rfl rfl ?_
          refine k_goto d_Entities_readValue_128 rfl ?_
          exact k_sb (sb_s (sb_s (sb_s (sb_s (sb_s (sb_s (sb_s (sb_s sb_nil)))))))) (hJ10 0 _ h)
        · refine k_iceq d_Entities_readValue_95 rfl (fun c21 => ?_) (fun c21 => ?_)
          · have h := ipos c21 h
            exact k_sb (sb_s (sb_s (sb_s (sb_s (sb_n (sb_s (sb_n (sb_s sb_nil)))))))) (hJ17 () _ h)
          · have h := ineg c21 h
            refine k_iload d_Entities_readValue_98 rfl ?_
            refine k_iload_n d_Entities_readValue_100 rfl ?_
            have hX51 : (¬ v8 = v2 ∨ (¬ (σ7.1 3 12) = (σ1.1 3 12))) → OkI BF L (d + 1) 3 b_Entities_readValue 8 1 131 [] [some (.inr 3), some (.inl (σ.1 1 3)), some (.inl v2), some (.inl (σ1.1 3 12)), some (.inl s5.1), some (.inl s5.2), some (.inl v8), none] σ7 (qi Q) := fun e53 => by
              have h := ipos e53 h
              refine k_iload d_Entities_readValue_131 rfl ?_
              refine k_bipush d_Entities_readValue_133 cB_38 ?_
              refine k_icne d_Entities_readValue_135 rfl (fun c22 => ?_) (fun c22 => ?_)
              · have h := ineg c22 h
                refine k_iload d_Entities_readValue_184 rfl ?_
                refine k_bipush d_Entities_readValue_186 cB_60 ?_
                refine k_icne d_Entities_readValue_188 rfl (fun c23 => ?_) (fun c23 => ?_)
                · have h := ineg c23 h
                  refine k_aload_n d_Entities_readValue_203 rfl ?_
                  refine k_getR d_Entities_readValue_204 fl_3_9 ob_3 rfl ?_
                  refine k_iload d_Entities_readValue_207 rfl ?_
                  refine k_csi [.inl v8] d_Entities_readValue_209 ml_3_156 (Or.inl rfl) rfl rfl rfl (s_Reader_isSpace hL (by omega)  h) (fun v25 σ24 h => ?_)
                  have hV29 : OkI BF L (d + 1) 3 b_Entities_readValue 8 1 222 [.inl (if v25 = 0 then v8 else (32 : Int)), .inr 1] [some (.inr 3), some (.inl (σ.1 1 3)), some (.inl v2), some (.inl (σ1.1 3 12)), some (.inl s5.1), some (.inl s5.2), some (.inl v8), none] σ24 (qi Q) := by
                    refine k_cvv [.inl (if v25 = 0 then v8 else (32 : Int))] d_Entities_readValue_222 ml_3_110 rfl rfl ob_1 rfl (s_Store_add hL (by omega) stB_BF h) (fun σ26 h => ?_)
                    refine k_aload_n d_Entities_readValue_225 rfl ?_
                    refine k_getR d_Entities_readValue_226 fl_3_15 ob_3 rfl ?_
                    refine k_dup d_Entities_readValue_229 ?_
                    refine k_getI (x := (σ26.1 2 2)) d_Entities_readValue_230 fl_3_88 ob_2 rfl rfl ?_
                    refine k_iconst d_Entities_readValue_233 cI_1 ?_
                    obtain ⟨p28, h⟩ := h
                    refine k_iadd d_Entities_readValue_234 p28 ?_
                    refine k_putI d_Entities_readValue_235 fl_3_88 ob_2 rfl ?_
                    exact k_sb (sb_s (sb_s (sb_s (sb_s (sb_s (sb_s (sb_n (sb_s sb_nil)))))))) (hJ10 s5.1 _ h)
                  refine k_ifeq d_Entities_readValue_212 rfl (fun c30 => ?_) (fun c30 => ?_)
                  · have hV31 := k_eqI (if_pos c30) hV29
                    refine k_iload d_Entities_readValue_220 rfl ?_
                    exact hV31
                  · have hV32 := k_eqI (if_neg c30) hV29
                    refine k_bipush d_Entities_readValue_215 cB_32 ?_
                    refine k_goto d_Entities_readValue_217 rfl ?_
                    exact hV32
                · have h := ipos c23 h
                  refine k_aload_n d_Entities_readValue_191 rfl ?_
                  refine k_getR d_Entities_readValue_192 fl_3_15 ob_3 rfl ?_
                  refine k_bipush d_Entities_readValue_195 cB_11 ?_
                  refine k_cvv [.inl 11] d_Entities_readValue_197 ml_3_107 rfl rfl ob_2 rfl (s_Reader_fail hL (by omega)  h) (fun σ33 h => ?_)
                  refine k_goto d_Entities_readValue_200 rfl ?_
                  exact k_sb (sb_s (sb_s (sb_s (sb_s (sb_s (sb_s (sb_n (sb_s sb_nil)))))))) (hJ10 s5.1 _ h)
              · have h := ipos c22 h
                refine k_aload_n d_Entities_readValue_138 rfl ?_
                refine k_getR d_Entities_readValue_139 fl_3_15 ob_3 rfl ?_
                refine k_cvv [] d_Entities_readValue_142 ml_3_100 rfl rfl ob_2 rfl (s_Reader_readReference hL (by omega)  h) (fun σ35 h => ?_)
                refine k_aload_n d_Entities_readValue_145 rfl ?_
                refine k_getR d_Entities_readValue_146 fl_3_15 ob_3 rfl ?_
                refine k_getI (x := (σ35.1 2 4)) d_Entities_readValue_149 fl_3_93 ob_2 rfl rfl ?_
                refine k_join (S := Int) (pc' := 164) (st' := fun s39 => [.inl s39]) (lv' := fun s39 => [some (.inr 3), some (.inl (σ.1 1 3)), some (.inl v2), some (.inl (σ1.1 3 12)), some (.inl s5.1), some (.inl s5.2), none, none]) (fun s39 σ40 h => ?_) (fun J37 hJ38 h => ?_) h
                · refine k_istore (lv' := [some (.inr 3), some (.inl (σ.1 1 3)), some (.inl v2), some (.inl (σ1.1 3 12)), some (.inl s5.1), some (.inl s5.2), none, some (.inl s39)]) d_Entities_readValue_164 rfl rfl ?_
                  refine k_iload d_Entities_readValue_166 rfl ?_
                  refine k_iconst d_Entities_readValue_168 cI_m1 ?_
                  refine k_join (S := Unit) (pc' := 181) (st' := fun s43 => []) (lv' := fun s43 => [some (.inr 3), some (.inl (σ.1 1 3)), some (.inl v2), some (.inl (σ1.1 3 12)), some (.inl s5.1), some (.inl s5.2), none, none]) (fun s43 σ44 h => ?_) (fun J41 hJ42 h => ?_) h
                  · refine k_goto d_Entities_readValue_181 rfl ?_
                    exact k_sb (sb_s (sb_s (sb_s (sb_s (sb_s (sb_s (sb_s (sb_s sb_nil)))))))) (hJ10 s5.1 _ h)
                  · refine k_iceq d_Entities_readValue_169 rfl (fun c45 => ?_) (fun c45 => ?_)
                    · have h := ipos c45 h
                      exact k_sb (sb_s (sb_s (sb_s (sb_s (sb_s (sb_s (sb_s (sb_n sb_nil)))))))) (hJ42 () _ h)
                    · have h := ineg c45 h
                      refine k_aload_n d_Entities_readValue_172 rfl ?_
                      refine k_getR d_Entities_readValue_173 fl_3_9 ob_3 rfl ?_
                      refine k_iload d_Entities_readValue_176 rfl ?_
                      refine k_cvv [.inl s39] d_Entities_readValue_178 ml_3_110 rfl rfl ob_1 rfl (s_Store_add hL (by omega) stB_BF h) (fun σ46 h => ?_)
                      exact k_sb (sb_s (sb_s (sb_s (sb_s (sb_s (sb_s (sb_s (sb_n sb_nil)))))))) (hJ42 () _ h)
                · refine k_ifne d_Entities_readValue_152 rfl (fun c48 => ?_) (fun c48 => ?_)
                  · have h := ineg c48 h
                    refine k_iconst d_Entities_readValue_163 cI_m1 ?_
                    exact k_sb (sb_s (sb_s (sb_s (sb_s (sb_s (sb_s (sb_n (sb_s sb_nil)))))))) (hJ38 (-1) _ h)
                  · have h := ipos c48 h
                    refine k_aload_n d_Entities_readValue_155 rfl ?_
                    refine k_iconst d_Entities_readValue_156 cI_m1 ?_
                    refine k_cvi [.inl (-1)] d_Entities_readValue_157 ml_3_152 rfl rfl ob_3 rfl (s_Entities_mean hL (by omega)  h) (fun v50 σ49 h => ?_)
                    refine k_goto d_Entities_readValue_160 rfl ?_
                    exact k_sb (sb_s (sb_s (sb_s (sb_s (sb_s (sb_s (sb_n (sb_s sb_nil)))))))) (hJ38 v50 _ h)
            have hY52 : ¬ (¬ v8 = v2 ∨ (¬ (σ7.1 3 12) = (σ1.1 3 12))) → OkI BF L (d + 1) 3 b_Entities_readValue 8 1 112 [] [some (.inr 3), some (.inl (σ.1 1 3)), some (.inl v2), some (.inl (σ1.1 3 12)), some (.inl s5.1), some (.inl s5.2), some (.inl v8), none] σ7 (qi Q) := fun e53 => by
              have h := ineg e53 h
              exact k_sb (sb_s (sb_s (sb_s (sb_s (sb_n (sb_s (sb_n (sb_s sb_nil)))))))) (hJ17 () _ h)
            refine k_icne d_Entities_readValue_101 rfl (fun c54 => ?_) (fun c54 => ?_)
            · exact hX51 (Or.inl c54)
            · refine k_aload_n d_Entities_readValue_104 rfl ?_
              refine k_getI (x := (σ7.1 3 12)) d_Entities_readValue_105 fl_3_66 ob_3 rfl rfl ?_
              refine k_iload_n d_Entities_readValue_108 rfl ?_
              refine k_icne d_Entities_readValue_109 rfl (fun c55 => ?_) (fun c55 => ?_)
              · exact hX51 (Or.inr (c55))
              · exact hY52 (fun z => z.elim (fun y => y c54) (fun z => z c55))
      refine k_icne d_Entities_readValue_74 rfl (fun c59 => ?_) (fun c59 => ?_)
      · exact hY57 (fun z => c59 z.1)
      · refine k_aload_n d_Entities_readValue_77 rfl ?_
        refine k_getI (x := (σ7.1 3 12)) d_Entities_readValue_78 fl_3_66 ob_3 rfl rfl ?_
        refine k_iload_n d_Entities_readValue_81 rfl ?_
        refine k_icle d_Entities_readValue_82 rfl (fun c60 => ?_) (fun c60 => ?_)
        · exact hY57 (fun z => (c60) z.2)
        · exact hX56 (⟨c59, c60⟩)
  have hY62 : ¬ (s5.2 < 1000000 ∧ (¬ s5.1 = 0 ∧ ((σ6.1 2 4) = 0))) → OkI BF L (d + 1) 3 b_Entities_readValue 8 1 244 [] [some (.inr 3), some (.inl (σ.1 1 3)), some (.inl v2), some (.inl (σ1.1 3 12)), some (.inl s5.1), some (.inl s5.2), none, none] σ6 (qi Q) := fun e63 => by
    have h := ineg e63 h
    refine k_iload_n d_Entities_readValue_244 rfl ?_
    exact k_iret d_Entities_readValue_245 (Or.inl rfl) h
  refine k_icge d_Entities_readValue_44 rfl (fun c64 => ?_) (fun c64 => ?_)
  · exact hY62 (fun z => c64 z.1)
  · refine k_iload d_Entities_readValue_47 rfl ?_
    refine k_ifeq d_Entities_readValue_49 rfl (fun c65 => ?_) (fun c65 => ?_)
    · exact hY62 (fun z => (fun z => z.1 c65) z.2)
    · refine k_aload_n d_Entities_readValue_52 rfl ?_
      refine k_getR d_Entities_readValue_53 fl_3_15 ob_3 rfl ?_
      refine k_getI (x := (σ6.1 2 4)) d_Entities_readValue_56 fl_3_93 ob_2 rfl rfl ?_
      refine k_ifne d_Entities_readValue_59 rfl (fun c66 => ?_) (fun c66 => ?_)
      · exact hY62 (fun z => (fun z => (c66) z.2) z.2)
      · exact hX61 (⟨c64, ⟨c65, c66⟩⟩)
theorem d_Store_internAdded_0 : decode b_Store_internAdded 0 = .ok (.aload_n 0, 1) := by decide +kernel
theorem d_Store_internAdded_1 : decode b_Store_internAdded 1 = .ok (.getfield 92, 3) := by decide +kernel
theorem d_Store_internAdded_4 : decode b_Store_internAdded 4 = .ok (.istore_n 2, 1) := by decide +kernel
theorem d_Store_internAdded_5 : decode b_Store_internAdded 5 = .ok (.aload_n 0, 1) := by decide +kernel
theorem d_Store_internAdded_6 : decode b_Store_internAdded 6 = .ok (.iload_n 1, 1) := by decide +kernel
theorem d_Store_internAdded_7 : decode b_Store_internAdded 7 = .ok (.aload_n 0, 1) := by decide +kernel
theorem d_Store_internAdded_8 : decode b_Store_internAdded 8 = .ok (.getfield 98, 3) := by decide +kernel
theorem d_Store_internAdded_11 : decode b_Store_internAdded 11 = .ok (.iload_n 1, 1) := by decide +kernel
theorem d_Store_internAdded_12 : decode b_Store_internAdded 12 = .ok (.isub, 1) := by decide +kernel
theorem d_Store_internAdded_13 : decode b_Store_internAdded 13 = .ok (.invokevirtual 118, 3) := by decide +kernel
theorem d_Store_internAdded_16 : decode b_Store_internAdded 16 = .ok (.istore_n 3, 1) := by decide +kernel
theorem d_Store_internAdded_17 : decode b_Store_internAdded 17 = .ok (.iload_n 2, 1) := by decide +kernel
theorem d_Store_internAdded_18 : decode b_Store_internAdded 18 = .ok (.aload_n 0, 1) := by decide +kernel
theorem d_Store_internAdded_19 : decode b_Store_internAdded 19 = .ok (.getfield 92, 3) := by decide +kernel
theorem d_Store_internAdded_22 : decode b_Store_internAdded 22 = .ok (.if_icmp .ne 8, 3) := by decide +kernel
theorem d_Store_internAdded_25 : decode b_Store_internAdded 25 = .ok (.aload_n 0, 1) := by decide +kernel
theorem d_Store_internAdded_26 : decode b_Store_internAdded 26 = .ok (.iload_n 1, 1) := by decide +kernel
theorem d_Store_internAdded_27 : decode b_Store_internAdded 27 = .ok (.putfield 98, 3) := by decide +kernel
theorem d_Store_internAdded_30 : decode b_Store_internAdded 30 = .ok (.iload_n 3, 1) := by decide +kernel
theorem d_Store_internAdded_31 : decode b_Store_internAdded 31 = .ok (.ireturn, 1) := by decide +kernel
/-- Store_internAdded -/
def w_Store_internAdded (L : Nat → Nat) (a1 : Int) (Q : Int → IS → Prop) (σ : IS) : Prop := inR ((σ.1 1 3) - a1) ∧ w_Store_intern L a1 ((σ.1 1 3) - a1) (fun v2 σ1 => WJ (fun (s5 : Unit) (σ6 : IS) => Q v2 σ6) (fun J3 => if (σ.1 1 14) = (σ1.1 1 14) then J3 () (pf σ1 1 3 a1) else J3 () σ1)) σ
set_option maxHeartbeats 4000000 in
set_option maxRecDepth 20000 in
theorem s_Store_internAdded {L : Nat → Nat} (hL : ∀ r, L r < 2147483648) {d : Nat} (hd : 2 ≤ d) {a1 : Int} {Q : Int → IS → Prop} {σ : IS}  (h : w_Store_internAdded L a1 Q σ) : OkI BF L d 1 b_Store_internAdded 4 1 0 [] [some (.inr 1), some (.inl a1)] σ (qi Q) := by
  unfold w_Store_internAdded at h
  obtain ⟨d, rfl⟩ : ∃ e, d = e + 1 := ⟨d - 1, by omega⟩
  refine k_sb (lv' := [some (.inr 1), some (.inl a1), none, none]) (sb_s (sb_s (sb_e (sb_e sb_nil)))) ?_
  refine k_aload_n d_Store_internAdded_0 rfl ?_
  refine k_getI (x := (σ.1 1 14)) d_Store_internAdded_1 fl_1_92 ob_1 rfl rfl ?_
  refine k_istore_n (lv' := [some (.inr 1), some (.inl a1), some (.inl (σ.1 1 14)), none]) d_Store_internAdded_4 rfl rfl ?_
  refine k_aload_n d_Store_internAdded_5 rfl ?_
  refine k_iload_n d_Store_internAdded_6 rfl ?_
  refine k_aload_n d_Store_internAdded_7 rfl ?_
  refine k_getI (x := (σ.1 1 3)) d_Store_internAdded_8 fl_1_98 ob_1 rfl rfl ?_
  refine k_iload_n d_Store_internAdded_11 rfl ?_
  obtain ⟨p8, h⟩ := h
  refine k_isub d_Store_internAdded_12 p8 ?_
  refine k_cvi [.inl a1, .inl ((σ.1 1 3) - a1)] d_Store_internAdded_13 ml_1_118 rfl rfl ob_1 rfl (s_Store_intern hL (by omega) stB_BF h) (fun v2 σ1 h => ?_)
  refine k_istore_n (lv' := [some (.inr 1), some (.inl a1), some (.inl (σ.1 1 14)), some (.inl v2)]) d_Store_internAdded_16 rfl rfl ?_
  refine k_iload_n d_Store_internAdded_17 rfl ?_
  refine k_aload_n d_Store_internAdded_18 rfl ?_
  refine k_getI (x := (σ1.1 1 14)) d_Store_internAdded_19 fl_1_92 ob_1 rfl rfl ?_
  refine k_join (S := Unit) (pc' := 30) (st' := fun s5 => []) (lv' := fun s5 => [none, none, none, some (.inl v2)]) (fun s5 σ6 h => ?_) (fun J3 hJ4 h => ?_) h
  · refine k_iload_n d_Store_internAdded_30 rfl ?_
    exact k_iret d_Store_internAdded_31 (Or.inl rfl) h
  · refine k_icne d_Store_internAdded_22 rfl (fun c7 => ?_) (fun c7 => ?_)
    · have h := ineg c7 h
      exact k_sb (sb_n (sb_n (sb_n (sb_s sb_nil)))) (hJ4 () _ h)
    · have h := ipos c7 h
      refine k_aload_n d_Store_internAdded_25 rfl ?_
      refine k_iload_n d_Store_internAdded_26 rfl ?_
      refine k_putI d_Store_internAdded_27 fl_1_98 ob_1 rfl ?_
      exact k_sb (sb_n (sb_n (sb_n (sb_s sb_nil)))) (hJ4 () _ h)
theorem d_Entities_keepValue_0 : decode b_Entities_keepValue 0 = .ok (.iload_n 2, 1) := by decide +kernel
theorem d_Entities_keepValue_1 : decode b_Entities_keepValue 1 = .ok (.bipush 10, 2) := by decide +kernel
theorem d_Entities_keepValue_3 : decode b_Entities_keepValue 3 = .ok (.if_icmp .eq 105, 3) := by decide +kernel
theorem d_Entities_keepValue_6 : decode b_Entities_keepValue 6 = .ok (.aload_n 0, 1) := by decide +kernel
theorem d_Entities_keepValue_7 : decode b_Entities_keepValue 7 = .ok (.getfield 9, 3) := by decide +kernel
theorem d_Entities_keepValue_10 : decode b_Entities_keepValue 10 = .ok (.getfield 116, 3) := by decide +kernel
theorem d_Entities_keepValue_13 : decode b_Entities_keepValue 13 = .ok (.astore_n 3, 1) := by decide +kernel
theorem d_Entities_keepValue_14 : decode b_Entities_keepValue 14 = .ok (.iload_n 1, 1) := by decide +kernel
theorem d_Entities_keepValue_15 : decode b_Entities_keepValue 15 = .ok (.istore 4, 2) := by decide +kernel
theorem d_Entities_keepValue_17 : decode b_Entities_keepValue 17 = .ok (.iload_n 1, 1) := by decide +kernel
theorem d_Entities_keepValue_18 : decode b_Entities_keepValue 18 = .ok (.istore 5, 2) := by decide +kernel
theorem d_Entities_keepValue_20 : decode b_Entities_keepValue 20 = .ok (.iload 5, 2) := by decide +kernel
theorem d_Entities_keepValue_22 : decode b_Entities_keepValue 22 = .ok (.aload_n 0, 1) := by decide +kernel
theorem d_Entities_keepValue_23 : decode b_Entities_keepValue 23 = .ok (.getfield 9, 3) := by decide +kernel
theorem d_Entities_keepValue_26 : decode b_Entities_keepValue 26 = .ok (.getfield 85, 3) := by decide +kernel
theorem d_Entities_keepValue_29 : decode b_Entities_keepValue 29 = .ok (.if_icmp .ge 46, 3) := by decide +kernel
theorem d_Entities_keepValue_32 : decode b_Entities_keepValue 32 = .ok (.aload_n 3, 1) := by decide +kernel
theorem d_Entities_keepValue_33 : decode b_Entities_keepValue 33 = .ok (.iload 5, 2) := by decide +kernel
theorem d_Entities_keepValue_35 : decode b_Entities_keepValue 35 = .ok (.iaload, 1) := by decide +kernel
theorem d_Entities_keepValue_36 : decode b_Entities_keepValue 36 = .ok (.bipush 32, 2) := by decide +kernel
theorem d_Entities_keepValue_38 : decode b_Entities_keepValue 38 = .ok (.if_icmp .ne 20, 3) := by decide +kernel
theorem d_Entities_keepValue_41 : decode b_Entities_keepValue 41 = .ok (.iload 4, 2) := by decide +kernel
theorem d_Entities_keepValue_43 : decode b_Entities_keepValue 43 = .ok (.iload_n 1, 1) := by decide +kernel
theorem d_Entities_keepValue_44 : decode b_Entities_keepValue 44 = .ok (.if_icmp .le 25, 3) := by decide +kernel
theorem d_Entities_keepValue_47 : decode b_Entities_keepValue 47 = .ok (.aload_n 3, 1) := by decide +kernel
theorem d_Entities_keepValue_48 : decode b_Entities_keepValue 48 = .ok (.iload 4, 2) := by decide +kernel
theorem d_Entities_keepValue_50 : decode b_Entities_keepValue 50 = .ok (.iconst 1, 1) := by decide +kernel
theorem d_Entities_keepValue_51 : decode b_Entities_keepValue 51 = .ok (.isub, 1) := by decide +kernel
theorem d_Entities_keepValue_52 : decode b_Entities_keepValue 52 = .ok (.iaload, 1) := by decide +kernel
theorem d_Entities_keepValue_53 : decode b_Entities_keepValue 53 = .ok (.bipush 32, 2) := by decide +kernel
theorem d_Entities_keepValue_55 : decode b_Entities_keepValue 55 = .ok (.if_icmp .eq 14, 3) := by decide +kernel
theorem d_Entities_keepValue_58 : decode b_Entities_keepValue 58 = .ok (.aload_n 3, 1) := by decide +kernel
theorem d_Entities_keepValue_59 : decode b_Entities_keepValue 59 = .ok (.iload 4, 2) := by decide +kernel
theorem d_Entities_keepValue_61 : decode b_Entities_keepValue 61 = .ok (.aload_n 3, 1) := by decide +kernel
theorem d_Entities_keepValue_62 : decode b_Entities_keepValue 62 = .ok (.iload 5, 2) := by decide +kernel
theorem d_Entities_keepValue_64 : decode b_Entities_keepValue 64 = .ok (.iaload, 1) := by decide +kernel
theorem d_Entities_keepValue_65 : decode b_Entities_keepValue 65 = .ok (.iastore, 1) := by decide +kernel
theorem d_Entities_keepValue_66 : decode b_Entities_keepValue 66 = .ok (.iinc 4 1, 3) := by decide +kernel
theorem d_Entities_keepValue_69 : decode b_Entities_keepValue 69 = .ok (.iinc 5 1, 3) := by decide +kernel
theorem d_Entities_keepValue_72 : decode b_Entities_keepValue 72 = .ok (.goto (-52), 3) := by decide +kernel
theorem d_Entities_keepValue_75 : decode b_Entities_keepValue 75 = .ok (.aload_n 0, 1) := by decide +kernel
theorem d_Entities_keepValue_76 : decode b_Entities_keepValue 76 = .ok (.getfield 9, 3) := by decide +kernel
theorem d_Entities_keepValue_79 : decode b_Entities_keepValue 79 = .ok (.iload 4, 2) := by decide +kernel
theorem d_Entities_keepValue_81 : decode b_Entities_keepValue 81 = .ok (.iload_n 1, 1) := by decide +kernel
theorem d_Entities_keepValue_82 : decode b_Entities_keepValue 82 = .ok (.if_icmp .le 21, 3) := by decide +kernel
theorem d_Entities_keepValue_85 : decode b_Entities_keepValue 85 = .ok (.aload_n 3, 1) := by decide +kernel
theorem d_Entities_keepValue_86 : decode b_Entities_keepValue 86 = .ok (.iload 4, 2) := by decide +kernel
theorem d_Entities_keepValue_88 : decode b_Entities_keepValue 88 = .ok (.iconst 1, 1) := by decide +kernel
theorem d_Entities_keepValue_89 : decode b_Entities_keepValue 89 = .ok (.isub, 1) := by decide +kernel
theorem d_Entities_keepValue_90 : decode b_Entities_keepValue 90 = .ok (.iaload, 1) := by decide +kernel
theorem d_Entities_keepValue_91 : decode b_Entities_keepValue 91 = .ok (.bipush 32, 2) := by decide +kernel
theorem d_Entities_keepValue_93 : decode b_Entities_keepValue 93 = .ok (.if_icmp .ne 10, 3) := by decide +kernel
theorem d_Entities_keepValue_96 : decode b_Entities_keepValue 96 = .ok (.iload 4, 2) := by decide +kernel
theorem d_Entities_keepValue_98 : decode b_Entities_keepValue 98 = .ok (.iconst 1, 1) := by decide +kernel
theorem d_Entities_keepValue_99 : decode b_Entities_keepValue 99 = .ok (.isub, 1) := by decide +kernel
theorem d_Entities_keepValue_100 : decode b_Entities_keepValue 100 = .ok (.goto 5, 3) := by decide +kernel
theorem d_Entities_keepValue_103 : decode b_Entities_keepValue 103 = .ok (.iload 4, 2) := by decide +kernel
theorem d_Entities_keepValue_105 : decode b_Entities_keepValue 105 = .ok (.putfield 85, 3) := by decide +kernel
theorem d_Entities_keepValue_108 : decode b_Entities_keepValue 108 = .ok (.aload_n 0, 1) := by decide +kernel
theorem d_Entities_keepValue_109 : decode b_Entities_keepValue 109 = .ok (.getfield 9, 3) := by decide +kernel
theorem d_Entities_keepValue_112 : decode b_Entities_keepValue 112 = .ok (.iload_n 1, 1) := by decide +kernel
theorem d_Entities_keepValue_113 : decode b_Entities_keepValue 113 = .ok (.invokevirtual 159, 3) := by decide +kernel
theorem d_Entities_keepValue_116 : decode b_Entities_keepValue 116 = .ok (.ireturn, 1) := by decide +kernel
/-- Entities_keepValue -/
def w_Entities_keepValue (L : Nat → Nat) (a1 : Int) (a2 : Int) (Q : Int → IS → Prop) (σ : IS) : Prop := WJ (fun (s3 : Unit) (σ4 : IS) => w_Store_internAdded L a1 (fun v6 σ5 => Q v6 σ5) σ4) (fun J1 => if a2 = 10 then J1 () σ else WL (fun (K8 : Int × Int → IS → Prop) (s10 : Int × Int) (σ11 : IS) => if s10.2 < (σ11.1 1 3) then inL L 101 s10.2 ∧ WJ (fun (s28 : Int) (σ29 : IS) => inR (s10.2 + 1) ∧ K8 (s28, (s10.2 + 1)) σ29) (fun J26 => WJ (fun (s33 : Unit) (σ34 : IS) => inL L 101 s10.2 ∧ inL L 101 s10.1 ∧ inR (s10.1 + 1) ∧ J26 (s10.1 + 1) (pr σ34 101 (Int.toNat s10.1) (σ34.2 101 (Int.toNat s10.2)))) (fun J31 => if (σ11.2 101 (Int.toNat s10.2)) = 32 then ((a1 < s10.1 → (inR (s10.1 - 1) ∧ inL L 101 (s10.1 - 1)))) ∧ if a1 < s10.1 ∧ (¬ (σ11.2 101 (Int.toNat (s10.1 - 1))) = 32) then J31 () σ11 else J26 s10.1 σ11 else J31 () σ11)) else ((a1 < s10.1 → (inR (s10.1 - 1) ∧ inL L 101 (s10.1 - 1) ∧ ((σ11.2 101 (Int.toNat (s10.1 - 1))) = 32 → inR (s10.1 - 1))))) ∧ J1 () (pf σ11 1 3 (if a1 < s10.1 then (if (σ11.2 101 (Int.toNat (s10.1 - 1))) = 32 then (s10.1 - 1) else s10.1) else s10.1))) (a1, a1) σ)
set_option maxHeartbeats 4000000 in
set_option maxRecDepth 20000 in
theorem s_Entities_keepValue {L : Nat → Nat} (hL : ∀ r, L r < 2147483648) {d : Nat} (hd : 3 ≤ d) {a1 : Int} {a2 : Int} {Q : Int → IS → Prop} {σ : IS}  (h : w_Entities_keepValue L a1 a2 Q σ) : OkI BF L d 3 b_Entities_keepValue 6 1 0 [] [some (.inr 3), some (.inl a1), some (.inl a2)] σ (qi Q) := by
  unfold w_Entities_keepValue at h
  obtain ⟨d, rfl⟩ : ∃ e, d = e + 1 := ⟨d - 1, by omega⟩
  refine k_sb (lv' := [some (.inr 3), some (.inl a1), some (.inl a2), none, none, none]) (sb_s (sb_s (sb_s (sb_e (sb_e (sb_e sb_nil)))))) ?_
  refine k_iload_n d_Entities_keepValue_0 rfl ?_
  refine k_bipush d_Entities_keepValue_1 cB_10 ?_
  refine k_join (S := Unit) (pc' := 108) (st' := fun s3 => []) (lv' := fun s3 => [some (.inr 3), some (.inl a1), none, none, none, none]) (fun s3 σ4 h => ?_) (fun J1 hJ2 h => ?_) h
  · refine k_aload_n d_Entities_keepValue_108 rfl ?_
    refine k_getR d_Entities_keepValue_109 fl_3_9 ob_3 rfl ?_
    refine k_iload_n d_Entities_keepValue_112 rfl ?_
    refine k_cvi [.inl a1] d_Entities_keepValue_113 ml_3_159 rfl rfl ob_1 rfl (s_Store_internAdded hL (by omega)  h) (fun v6 σ5 h => ?_)
    exact k_iret d_Entities_keepValue_116 (Or.inl rfl) h
  · refine k_iceq d_Entities_keepValue_3 rfl (fun c7 => ?_) (fun c7 => ?_)
    · have h := ipos c7 h
      exact k_sb (sb_s (sb_s (sb_n (sb_s (sb_s (sb_s sb_nil)))))) (hJ2 () _ h)
    · have h := ineg c7 h
      refine k_aload_n d_Entities_keepValue_6 rfl ?_
      refine k_getR d_Entities_keepValue_7 fl_3_9 ob_3 rfl ?_
      refine k_getR d_Entities_keepValue_10 fl_3_116 ob_1 rfl ?_
      refine k_astore_n (lv' := [some (.inr 3), some (.inl a1), some (.inl a2), some (.inr 101), none, none]) d_Entities_keepValue_13 rfl rfl ?_
      refine k_iload_n d_Entities_keepValue_14 rfl ?_
      refine k_istore (lv' := [some (.inr 3), some (.inl a1), some (.inl a2), some (.inr 101), some (.inl a1), none]) d_Entities_keepValue_15 rfl rfl ?_
      refine k_iload_n d_Entities_keepValue_17 rfl ?_
      refine k_istore (lv' := [some (.inr 3), some (.inl a1), some (.inl a2), some (.inr 101), some (.inl a1), some (.inl a1)]) d_Entities_keepValue_18 rfl rfl ?_
      refine k_sb (lv' := [some (.inr 3), some (.inl a1), none, some (.inr 101), some (.inl a1), some (.inl a1)]) (sb_s (sb_s (sb_n (sb_s (sb_s (sb_s sb_nil)))))) ?_
      refine k_loop (S := Int × Int) (st := fun _ => []) (lv := fun s10 => [some (.inr 3), some (.inl a1), none, some (.inr 101), some (.inl s10.1), some (.inl s10.2)]) (fun K8 hK9 s10 σ11 h => ?_) (a1, a1) _ h
      refine k_iload d_Entities_keepValue_20 rfl ?_
      refine k_aload_n d_Entities_keepValue_22 rfl ?_
      refine k_getR d_Entities_keepValue_23 fl_3_9 ob_3 rfl ?_
      refine k_getI (x := (σ11.1 1 3)) d_Entities_keepValue_26 fl_3_85 ob_1 rfl rfl ?_
      refine k_icge d_Entities_keepValue_29 rfl (fun c12 => ?_) (fun c12 => ?_)
      · have h := ineg c12 h
        refine k_aload_n d_Entities_keepValue_75 rfl ?_
        refine k_getR d_Entities_keepValue_76 fl_3_9 ob_3 rfl ?_
        refine k_iload d_Entities_keepValue_79 rfl ?_
        refine k_iload_n d_Entities_keepValue_81 rfl ?_
        obtain ⟨pt17, h⟩ := h
        have hV16 : OkI BF L (d + 1) 3 b_Entities_keepValue 6 1 105 [.inl (if a1 < s10.1 then (if (σ11.2 101 (Int.toNat (s10.1 - 1))) = 32 then (s10.1 - 1) else s10.1) else s10.1), .inr 1] [some (.inr 3), some (.inl a1), none, some (.inr 101), some (.inl s10.1), some (.inl s10.2)] σ11 (qi Q) := by
          refine k_putI d_Entities_keepValue_105 fl_3_85 ob_1 rfl ?_
          exact k_sb (sb_s (sb_s (sb_s (sb_n (sb_n (sb_n sb_nil)))))) (hJ2 () _ h)
        have pa18 := pt17
        refine k_icle d_Entities_keepValue_82 rfl (fun c19 => ?_) (fun c19 => ?_)
        · have hV25 := k_eqI (if_neg c19) hV16
          refine k_iload d_Entities_keepValue_103 rfl ?_
          exact hV25
        · have pa18 := pa18 c19
          have hV20 := k_eqI (if_pos c19) hV16
          obtain ⟨p13, p14, pa21⟩ := pa18
          refine k_aload_n d_Entities_keepValue_85 rfl ?_
          refine k_iload d_Entities_keepValue_86 rfl ?_
          refine k_iconst d_Entities_keepValue_88 cI_1 ?_
          refine k_isub d_Entities_keepValue_89 p13 ?_
          refine k_ild (x := (σ11.2 101 (Int.toNat (s10.1 - 1)))) d_Entities_keepValue_90 rI_101 p14 rfl ?_
          refine k_bipush d_Entities_keepValue_91 cB_32 ?_
          refine k_icne d_Entities_keepValue_93 rfl (fun c22 => ?_) (fun c22 => ?_)
          · have hV24 := k_eqI (if_neg c22) hV20
            refine k_iload d_Entities_keepValue_103 rfl ?_
            exact hV24
          · have pa21 := pa21 c22
            have hV23 := k_eqI (if_pos c22) hV20
            have p15 := pa21
            refine k_iload d_Entities_keepValue_96 rfl ?_
            refine k_iconst d_Entities_keepValue_98 cI_1 ?_
            refine k_isub d_Entities_keepValue_99 p15 ?_
            refine k_goto d_Entities_keepValue_100 rfl ?_
            exact hV23
      · have h := ipos c12 h
        refine k_aload_n d_Entities_keepValue_32 rfl ?_
        refine k_iload d_Entities_keepValue_33 rfl ?_
        obtain ⟨p48, h⟩ := h
        refine k_ild (x := (σ11.2 101 (Int.toNat s10.2))) d_Entities_keepValue_35 rI_101 p48 rfl ?_
        refine k_bipush d_Entities_keepValue_36 cB_32 ?_
        refine k_join (S := Int) (pc' := 69) (st' := fun s28 => []) (lv' := fun s28 => [some (.inr 3), some (.inl a1), none, some (.inr 101), some (.inl s28), some (.inl s10.2)]) (fun s28 σ29 h => ?_) (fun J26 hJ27 h => ?_) h
        · obtain ⟨p30, h⟩ := h
          refine k_iinc (lv' := [some (.inr 3), some (.inl a1), none, some (.inr 101), some (.inl s28), some (.inl (s10.2 + 1))]) d_Entities_keepValue_69 cI_1 rfl rfl p30 rfl ?_
          refine k_goto d_Entities_keepValue_72 rfl ?_
          exact k_sb (sb_s (sb_s (sb_s (sb_s (sb_s (sb_s sb_nil)))))) (hK9 (s28, (s10.2 + 1)) _ h)
        · refine k_join (S := Unit) (pc' := 58) (st' := fun s33 => []) (lv' := fun s33 => [some (.inr 3), some (.inl a1), none, some (.inr 101), some (.inl s10.1), some (.inl s10.2)]) (fun s33 σ34 h => ?_) (fun J31 hJ32 h => ?_) h
          · refine k_aload_n d_Entities_keepValue_58 rfl ?_
            refine k_iload d_Entities_keepValue_59 rfl ?_
            refine k_aload_n d_Entities_keepValue_61 rfl ?_
            refine k_iload d_Entities_keepValue_62 rfl ?_
            obtain ⟨p37, h⟩ := h
            refine k_ild (x := (σ34.2 101 (Int.toNat s10.2))) d_Entities_keepValue_64 rI_101 p37 rfl ?_
            obtain ⟨p36, h⟩ := h
            refine k_ist d_Entities_keepValue_65 rI_101 p36 ?_
            obtain ⟨p35, h⟩ := h
            refine k_iinc (lv' := [some (.inr 3), some (.inl a1), none, some (.inr 101), some (.inl (s10.1 + 1)), some (.inl s10.2)]) d_Entities_keepValue_66 cI_1 rfl rfl p35 rfl ?_
            exact k_sb (sb_s (sb_s (sb_s (sb_s (sb_s (sb_s sb_nil)))))) (hJ27 (s10.1 + 1) _ h)
          · refine k_icne d_Entities_keepValue_38 rfl (fun c38 => ?_) (fun c38 => ?_)
            · have h := ineg c38 h
              exact k_sb (sb_s (sb_s (sb_s (sb_s (sb_s (sb_s sb_nil)))))) (hJ32 () _ h)
            · have h := ipos c38 h
              refine k_iload d_Entities_keepValue_41 rfl ?_
              refine k_iload_n d_Entities_keepValue_43 rfl ?_
              obtain ⟨pt44, h⟩ := h
              have hX41 : (a1 < s10.1 ∧ (¬ (σ11.2 101 (Int.toNat (s10.1 - 1))) = 32)) → OkI BF L (d + 1) 3 b_Entities_keepValue 6 1 58 [] [some (.inr 3), some (.inl a1), none, some (.inr 101), some (.inl s10.1), some (.inl s10.2)] σ11 (qi Q) := fun e43 => by
                have h := ipos e43 h
                exact k_sb (sb_s (sb_s (sb_s (sb_s (sb_s (sb_s sb_nil)))))) (hJ32 () _ h)
              have hY42 : ¬ (a1 < s10.1 ∧ (¬ (σ11.2 101 (Int.toNat (s10.1 - 1))) = 32)) → OkI BF L (d + 1) 3 b_Entities_keepValue 6 1 69 [] [some (.inr 3), some (.inl a1), none, some (.inr 101), some (.inl s10.1), some (.inl s10.2)] σ11 (qi Q) := fun e43 => by
                have h := ineg e43 h
                exact k_sb (sb_s (sb_s (sb_s (sb_s (sb_s (sb_s sb_nil)))))) (hJ27 s10.1 _ h)
              have pa45 := pt44
              refine k_icle d_Entities_keepValue_44 rfl (fun c46 => ?_) (fun c46 => ?_)
              · exact hY42 (fun z => c46 z.1)
              · have pa45 := pa45 c46
                obtain ⟨p39, p40⟩ := pa45
                refine k_aload_n d_Entities_keepValue_47 rfl ?_
                refine k_iload d_Entities_keepValue_48 rfl ?_
                refine k_iconst d_Entities_keepValue_50 cI_1 ?_
                refine k_isub d_Entities_keepValue_51 p39 ?_
                refine k_ild (x := (σ11.2 101 (Int.toNat (s10.1 - 1)))) d_Entities_keepValue_52 rI_101 p40 rfl ?_
                refine k_bipush d_Entities_keepValue_53 cB_32 ?_
                refine k_iceq d_Entities_keepValue_55 rfl (fun c47 => ?_) (fun c47 => ?_)
                · exact hY42 (fun z => (fun z => z c47) z.2)
                · exact hX41 (⟨c46, c47⟩)
theorem d_Reader_checkValue_0 : decode b_Reader_checkValue 0 = .ok (.aload_n 0, 1) := by decide +kernel
theorem d_Reader_checkValue_1 : decode b_Reader_checkValue 1 = .ok (.invokevirtual 152, 3) := by decide +kernel
theorem d_Reader_checkValue_4 : decode b_Reader_checkValue 4 = .ok (.istore_n 1, 1) := by decide +kernel
theorem d_Reader_checkValue_5 : decode b_Reader_checkValue 5 = .ok (.aload_n 0, 1) := by decide +kernel
theorem d_Reader_checkValue_6 : decode b_Reader_checkValue 6 = .ok (.invokevirtual 180, 3) := by decide +kernel
theorem d_Reader_checkValue_9 : decode b_Reader_checkValue 9 = .ok (.ifCond .ne 9, 3) := by decide +kernel
theorem d_Reader_checkValue_12 : decode b_Reader_checkValue 12 = .ok (.aload_n 0, 1) := by decide +kernel
theorem d_Reader_checkValue_13 : decode b_Reader_checkValue 13 = .ok (.iconst 5, 1) := by decide +kernel
theorem d_Reader_checkValue_14 : decode b_Reader_checkValue 14 = .ok (.invokevirtual 66, 3) := by decide +kernel
theorem d_Reader_checkValue_17 : decode b_Reader_checkValue 17 = .ok (.return_, 1) := by decide +kernel
theorem d_Reader_checkValue_18 : decode b_Reader_checkValue 18 = .ok (.aload_n 0, 1) := by decide +kernel
theorem d_Reader_checkValue_19 : decode b_Reader_checkValue 19 = .ok (.dup, 1) := by decide +kernel
theorem d_Reader_checkValue_20 : decode b_Reader_checkValue 20 = .ok (.getfield 26, 3) := by decide +kernel
theorem d_Reader_checkValue_23 : decode b_Reader_checkValue 23 = .ok (.iconst 1, 1) := by decide +kernel
theorem d_Reader_checkValue_24 : decode b_Reader_checkValue 24 = .ok (.iadd, 1) := by decide +kernel
theorem d_Reader_checkValue_25 : decode b_Reader_checkValue 25 = .ok (.putfield 26, 3) := by decide +kernel
theorem d_Reader_checkValue_28 : decode b_Reader_checkValue 28 = .ok (.iconst 0, 1) := by decide +kernel
theorem d_Reader_checkValue_29 : decode b_Reader_checkValue 29 = .ok (.istore_n 2, 1) := by decide +kernel
theorem d_Reader_checkValue_30 : decode b_Reader_checkValue 30 = .ok (.iload_n 2, 1) := by decide +kernel
theorem d_Reader_checkValue_31 : decode b_Reader_checkValue 31 = .ok (.ldc 183, 2) := by decide +kernel
theorem d_Reader_checkValue_33 : decode b_Reader_checkValue 33 = .ok (.if_icmp .ge 79, 3) := by decide +kernel
theorem d_Reader_checkValue_36 : decode b_Reader_checkValue 36 = .ok (.aload_n 0, 1) := by decide +kernel
theorem d_Reader_checkValue_37 : decode b_Reader_checkValue 37 = .ok (.getfield 35, 3) := by decide +kernel
theorem d_Reader_checkValue_40 : decode b_Reader_checkValue 40 = .ok (.ifCond .ne 72, 3) := by decide +kernel
theorem d_Reader_checkValue_43 : decode b_Reader_checkValue 43 = .ok (.aload_n 0, 1) := by decide +kernel
theorem d_Reader_checkValue_44 : decode b_Reader_checkValue 44 = .ok (.invokevirtual 152, 3) := by decide +kernel
theorem d_Reader_checkValue_47 : decode b_Reader_checkValue 47 = .ok (.istore_n 3, 1) := by decide +kernel
theorem d_Reader_checkValue_48 : decode b_Reader_checkValue 48 = .ok (.iload_n 3, 1) := by decide +kernel
theorem d_Reader_checkValue_49 : decode b_Reader_checkValue 49 = .ok (.iload_n 1, 1) := by decide +kernel
theorem d_Reader_checkValue_50 : decode b_Reader_checkValue 50 = .ok (.if_icmp .ne 14, 3) := by decide +kernel
theorem d_Reader_checkValue_53 : decode b_Reader_checkValue 53 = .ok (.aload_n 0, 1) := by decide +kernel
theorem d_Reader_checkValue_54 : decode b_Reader_checkValue 54 = .ok (.dup, 1) := by decide +kernel
theorem d_Reader_checkValue_55 : decode b_Reader_checkValue 55 = .ok (.getfield 26, 3) := by decide +kernel
theorem d_Reader_checkValue_58 : decode b_Reader_checkValue 58 = .ok (.iconst 1, 1) := by decide +kernel
theorem d_Reader_checkValue_59 : decode b_Reader_checkValue 59 = .ok (.iadd, 1) := by decide +kernel
theorem d_Reader_checkValue_60 : decode b_Reader_checkValue 60 = .ok (.putfield 26, 3) := by decide +kernel
theorem d_Reader_checkValue_63 : decode b_Reader_checkValue 63 = .ok (.return_, 1) := by decide +kernel
theorem d_Reader_checkValue_64 : decode b_Reader_checkValue 64 = .ok (.iload_n 3, 1) := by decide +kernel
theorem d_Reader_checkValue_65 : decode b_Reader_checkValue 65 = .ok (.iconst (-1), 1) := by decide +kernel
theorem d_Reader_checkValue_66 : decode b_Reader_checkValue 66 = .ok (.if_icmp .eq 9, 3) := by decide +kernel
theorem d_Reader_checkValue_69 : decode b_Reader_checkValue 69 = .ok (.iload_n 3, 1) := by decide +kernel
theorem d_Reader_checkValue_70 : decode b_Reader_checkValue 70 = .ok (.bipush 60, 2) := by decide +kernel
theorem d_Reader_checkValue_72 : decode b_Reader_checkValue 72 = .ok (.if_icmp .ne 11, 3) := by decide +kernel
theorem d_Reader_checkValue_75 : decode b_Reader_checkValue 75 = .ok (.aload_n 0, 1) := by decide +kernel
theorem d_Reader_checkValue_76 : decode b_Reader_checkValue 76 = .ok (.iconst 5, 1) := by decide +kernel
theorem d_Reader_checkValue_77 : decode b_Reader_checkValue 77 = .ok (.invokevirtual 66, 3) := by decide +kernel
theorem d_Reader_checkValue_80 : decode b_Reader_checkValue 80 = .ok (.goto 26, 3) := by decide +kernel
theorem d_Reader_checkValue_83 : decode b_Reader_checkValue 83 = .ok (.iload_n 3, 1) := by decide +kernel
theorem d_Reader_checkValue_84 : decode b_Reader_checkValue 84 = .ok (.bipush 38, 2) := by decide +kernel
theorem d_Reader_checkValue_86 : decode b_Reader_checkValue 86 = .ok (.if_icmp .ne 10, 3) := by decide +kernel
theorem d_Reader_checkValue_89 : decode b_Reader_checkValue 89 = .ok (.aload_n 0, 1) := by decide +kernel
theorem d_Reader_checkValue_90 : decode b_Reader_checkValue 90 = .ok (.invokevirtual 184, 3) := by decide +kernel
theorem d_Reader_checkValue_93 : decode b_Reader_checkValue 93 = .ok (.goto 13, 3) := by decide +kernel
theorem d_Reader_checkValue_96 : decode b_Reader_checkValue 96 = .ok (.aload_n 0, 1) := by decide +kernel
theorem d_Reader_checkValue_97 : decode b_Reader_checkValue 97 = .ok (.dup, 1) := by decide +kernel
theorem d_Reader_checkValue_98 : decode b_Reader_checkValue 98 = .ok (.getfield 26, 3) := by decide +kernel
theorem d_Reader_checkValue_101 : decode b_Reader_checkValue 101 = .ok (.iconst 1, 1) := by decide +kernel
theorem d_Reader_checkValue_102 : decode b_Reader_checkValue 102 = .ok (.iadd, 1) := by decide +kernel
theorem d_Reader_checkValue_103 : decode b_Reader_checkValue 103 = .ok (.putfield 26, 3) := by decide +kernel
theorem d_Reader_checkValue_106 : decode b_Reader_checkValue 106 = .ok (.iinc 2 1, 3) := by decide +kernel
theorem d_Reader_checkValue_109 : decode b_Reader_checkValue 109 = .ok (.goto (-79), 3) := by decide +kernel
theorem d_Reader_checkValue_112 : decode b_Reader_checkValue 112 = .ok (.return_, 1) := by decide +kernel
/-- Reader_checkValue -/
def w_Reader_checkValue (L : Nat → Nat)  (Q : IS → Prop) (σ : IS) : Prop := w_Reader_peek L  (fun v2 σ1 => w_Reader_atQuote L  (fun v4 σ3 => if v4 = 0 then w_Reader_fail L 5 (fun σ36 => Q σ36) σ3 else inR ((σ3.1 2 2) + 1) ∧ WL (fun (K6 : Int → IS → Prop) (s8 : Int) (σ9 : IS) => if s8 < 1000000 ∧ ((σ9.1 2 4) = 0) then w_Reader_peek L  (fun v11 σ10 => if v11 = v2 then inR ((σ10.1 2 2) + 1) ∧ Q (pf σ10 2 2 ((σ10.1 2 2) + 1)) else WJ (fun (s15 : Unit) (σ16 : IS) => inR (s8 + 1) ∧ K6 (s8 + 1) σ16) (fun J13 => if ¬ v11 = (-1) ∧ (¬ v11 = 60) then if v11 = 38 then w_Reader_readReference L  (fun σ20 => J13 () σ20) σ10 else inR ((σ10.1 2 2) + 1) ∧ J13 () (pf σ10 2 2 ((σ10.1 2 2) + 1)) else w_Reader_fail L 5 (fun σ22 => J13 () σ22) σ10)) σ9 else Q σ9) 0 (pf σ3 2 2 ((σ3.1 2 2) + 1))) σ1) σ
set_option maxHeartbeats 4000000 in
set_option maxRecDepth 20000 in
theorem s_Reader_checkValue {L : Nat → Nat} (hL : ∀ r, L r < 2147483648) {d : Nat} (hd : 3 ≤ d)  {Q : IS → Prop} {σ : IS}  (h : w_Reader_checkValue L  Q σ) : OkI BF L d 2 b_Reader_checkValue 4 0 0 [] [some (.inr 2)] σ (qv Q) := by
  unfold w_Reader_checkValue at h
  obtain ⟨d, rfl⟩ : ∃ e, d = e + 1 := ⟨d - 1, by omega⟩
  refine k_sb (lv' := [some (.inr 2), none, none, none]) (sb_s (sb_e (sb_e (sb_e sb_nil)))) ?_
  refine k_aload_n d_Reader_checkValue_0 rfl ?_
  refine k_cvi [] d_Reader_checkValue_1 ml_2_152 rfl rfl ob_2 rfl (s_Reader_peek hL (by omega)  h) (fun v2 σ1 h => ?_)
  refine k_istore_n (lv' := [some (.inr 2), some (.inl v2), none, none]) d_Reader_checkValue_4 rfl rfl ?_
  refine k_aload_n d_Reader_checkValue_5 rfl ?_
  refine k_cvi [] d_Reader_checkValue_6 ml_2_180 rfl rfl ob_2 rfl (s_Reader_atQuote hL (by omega)  h) (fun v4 σ3 h => ?_)
  refine k_ifne d_Reader_checkValue_9 rfl (fun c5 => ?_) (fun c5 => ?_)
  · have h := ineg c5 h
    refine k_aload_n d_Reader_checkValue_18 rfl ?_
    refine k_dup d_Reader_checkValue_19 ?_
    refine k_getI (x := (σ3.1 2 2)) d_Reader_checkValue_20 fl_2_26 ob_2 rfl rfl ?_
    refine k_iconst d_Reader_checkValue_23 cI_1 ?_
    obtain ⟨p35, h⟩ := h
    refine k_iadd d_Reader_checkValue_24 p35 ?_
    refine k_putI d_Reader_checkValue_25 fl_2_26 ob_2 rfl ?_
    refine k_iconst d_Reader_checkValue_28 cI_0 ?_
    refine k_istore_n (lv' := [some (.inr 2), some (.inl v2), some (.inl 0), none]) d_Reader_checkValue_29 rfl rfl ?_
    refine k_sb (lv' := [some (.inr 2), some (.inl v2), some (.inl 0), none]) (sb_s (sb_s (sb_s (sb_s sb_nil)))) ?_
    refine k_loop (S := Int) (st := fun _ => []) (lv := fun s8 => [some (.inr 2), some (.inl v2), some (.inl s8), none]) (fun K6 hK7 s8 σ9 h => ?_) 0 _ h
    refine k_iload_n d_Reader_checkValue_30 rfl ?_
    refine k_ldc d_Reader_checkValue_31 ks_2_183 cL_1000000 ?_
    have hX30 : (s8 < 1000000 ∧ ((σ9.1 2 4) = 0)) → OkI BF L (d + 1) 2 b_Reader_checkValue 4 0 43 [] [some (.inr 2), some (.inl v2), some (.inl s8), none] σ9 (qv Q) := fun e32 => by
      have h := ipos e32 h
      refine k_aload_n d_Reader_checkValue_43 rfl ?_
      refine k_cvi [] d_Reader_checkValue_44 ml_2_152 rfl rfl ob_2 rfl (s_Reader_peek hL (by omega)  h) (fun v11 σ10 h => ?_)
      refine k_istore_n (lv' := [some (.inr 2), some (.inl v2), some (.inl s8), some (.inl v11)]) d_Reader_checkValue_47 rfl rfl ?_
      refine k_iload_n d_Reader_checkValue_48 rfl ?_
      refine k_iload_n d_Reader_checkValue_49 rfl ?_
      refine k_icne d_Reader_checkValue_50 rfl (fun c12 => ?_) (fun c12 => ?_)
      · have h := ineg c12 h
        refine k_iload_n d_Reader_checkValue_64 rfl ?_
        refine k_iconst d_Reader_checkValue_65 cI_m1 ?_
        refine k_join (S := Unit) (pc' := 106) (st' := fun s15 => []) (lv' := fun s15 => [some (.inr 2), some (.inl v2), some (.inl s8), none]) (fun s15 σ16 h => ?_) (fun J13 hJ14 h => ?_) h
        · obtain ⟨p17, h⟩ := h
          refine k_iinc (lv' := [some (.inr 2), some (.inl v2), some (.inl (s8 + 1)), none]) d_Reader_checkValue_106 cI_1 rfl rfl p17 rfl ?_
          refine k_goto d_Reader_checkValue_109 rfl ?_
          exact k_sb (sb_s (sb_s (sb_s (sb_s sb_nil)))) (hK7 (s8 + 1) _ h)
        · have hX24 : (¬ v11 = (-1) ∧ (¬ v11 = 60)) → OkI BF L (d + 1) 2 b_Reader_checkValue 4 0 83 [] [some (.inr 2), some (.inl v2), some (.inl s8), some (.inl v11)] σ10 (qv Q) := fun e26 => by
            have h := ipos e26 h
            refine k_iload_n d_Reader_checkValue_83 rfl ?_
            refine k_bipush d_Reader_checkValue_84 cB_38 ?_
            refine k_icne d_Reader_checkValue_86 rfl (fun c18 => ?_) (fun c18 => ?_)
            · have h := ineg c18 h
              refine k_aload_n d_Reader_checkValue_96 rfl ?_
              refine k_dup d_Reader_checkValue_97 ?_
              refine k_getI (x := (σ10.1 2 2)) d_Reader_checkValue_98 fl_2_26 ob_2 rfl rfl ?_
              refine k_iconst d_Reader_checkValue_101 cI_1 ?_
              obtain ⟨p19, h⟩ := h
              refine k_iadd d_Reader_checkValue_102 p19 ?_
              refine k_putI d_Reader_checkValue_103 fl_2_26 ob_2 rfl ?_
              exact k_sb (sb_s (sb_s (sb_s (sb_n sb_nil)))) (hJ14 () _ h)
            · have h := ipos c18 h
              refine k_aload_n d_Reader_checkValue_89 rfl ?_
              refine k_cvv [] d_Reader_checkValue_90 ml_2_184 rfl rfl ob_2 rfl (s_Reader_readReference hL (by omega)  h) (fun σ20 h => ?_)
              refine k_goto d_Reader_checkValue_93 rfl ?_
              exact k_sb (sb_s (sb_s (sb_s (sb_n sb_nil)))) (hJ14 () _ h)
          have hY25 : ¬ (¬ v11 = (-1) ∧ (¬ v11 = 60)) → OkI BF L (d + 1) 2 b_Reader_checkValue 4 0 75 [] [some (.inr 2), some (.inl v2), some (.inl s8), some (.inl v11)] σ10 (qv Q) := fun e26 => by
            have h := ineg e26 h
            refine k_aload_n d_Reader_checkValue_75 rfl ?_
            refine k_iconst d_Reader_checkValue_76 cI_5 ?_
            refine k_cvv [.inl 5] d_Reader_checkValue_77 ml_2_66 rfl rfl ob_2 rfl (s_Reader_fail hL (by omega)  h) (fun σ22 h => ?_)
            refine k_goto d_Reader_checkValue_80 rfl ?_
            exact k_sb (sb_s (sb_s (sb_s (sb_n sb_nil)))) (hJ14 () _ h)
          refine k_iceq d_Reader_checkValue_66 rfl (fun c27 => ?_) (fun c27 => ?_)
          · exact hY25 (fun z => z.1 c27)
          · refine k_iload_n d_Reader_checkValue_69 rfl ?_
            refine k_bipush d_Reader_checkValue_70 cB_60 ?_
            refine k_icne d_Reader_checkValue_72 rfl (fun c28 => ?_) (fun c28 => ?_)
            · exact hX24 (⟨c27, c28⟩)
            · exact hY25 (fun z => (fun z => z c28) z.2)
      · have h := ipos c12 h
        refine k_aload_n d_Reader_checkValue_53 rfl ?_
        refine k_dup d_Reader_checkValue_54 ?_
        refine k_getI (x := (σ10.1 2 2)) d_Reader_checkValue_55 fl_2_26 ob_2 rfl rfl ?_
        refine k_iconst d_Reader_checkValue_58 cI_1 ?_
        obtain ⟨p29, h⟩ := h
        refine k_iadd d_Reader_checkValue_59 p29 ?_
        refine k_putI d_Reader_checkValue_60 fl_2_26 ob_2 rfl ?_
        exact k_ret d_Reader_checkValue_63 h
    have hY31 : ¬ (s8 < 1000000 ∧ ((σ9.1 2 4) = 0)) → OkI BF L (d + 1) 2 b_Reader_checkValue 4 0 112 [] [some (.inr 2), some (.inl v2), some (.inl s8), none] σ9 (qv Q) := fun e32 => by
      have h := ineg e32 h
      exact k_ret d_Reader_checkValue_112 h
    refine k_icge d_Reader_checkValue_33 rfl (fun c33 => ?_) (fun c33 => ?_)
    · exact hY31 (fun z => c33 z.1)
    · refine k_aload_n d_Reader_checkValue_36 rfl ?_
      refine k_getI (x := (σ9.1 2 4)) d_Reader_checkValue_37 fl_2_35 ob_2 rfl rfl ?_
      refine k_ifne d_Reader_checkValue_40 rfl (fun c34 => ?_) (fun c34 => ?_)
      · exact hY31 (fun z => (c34) z.2)
      · exact hX30 (⟨c33, c34⟩)
  · have h := ipos c5 h
    refine k_aload_n d_Reader_checkValue_12 rfl ?_
    refine k_iconst d_Reader_checkValue_13 cI_5 ?_
    refine k_cvv [.inl 5] d_Reader_checkValue_14 ml_2_66 rfl rfl ob_2 rfl (s_Reader_fail hL (by omega)  h) (fun σ36 h => ?_)
    exact k_ret d_Reader_checkValue_17 h
theorem d_Declared_find_0 : decode b_Declared_find 0 = .ok (.aload_n 0, 1) := by decide +kernel
theorem d_Declared_find_1 : decode b_Declared_find 1 = .ok (.iconst (-1), 1) := by decide +kernel
theorem d_Declared_find_2 : decode b_Declared_find 2 = .ok (.putfield 81, 3) := by decide +kernel
theorem d_Declared_find_5 : decode b_Declared_find 5 = .ok (.aload_n 0, 1) := by decide +kernel
theorem d_Declared_find_6 : decode b_Declared_find 6 = .ok (.getfield 57, 3) := by decide +kernel
theorem d_Declared_find_9 : decode b_Declared_find 9 = .ok (.iload_n 1, 1) := by decide +kernel
theorem d_Declared_find_10 : decode b_Declared_find 10 = .ok (.iaload, 1) := by decide +kernel
theorem d_Declared_find_11 : decode b_Declared_find 11 = .ok (.iconst 1, 1) := by decide +kernel
theorem d_Declared_find_12 : decode b_Declared_find 12 = .ok (.isub, 1) := by decide +kernel
theorem d_Declared_find_13 : decode b_Declared_find 13 = .ok (.istore_n 3, 1) := by decide +kernel
theorem d_Declared_find_14 : decode b_Declared_find 14 = .ok (.iconst 0, 1) := by decide +kernel
theorem d_Declared_find_15 : decode b_Declared_find 15 = .ok (.istore 4, 2) := by decide +kernel
theorem d_Declared_find_17 : decode b_Declared_find 17 = .ok (.iload 4, 2) := by decide +kernel
theorem d_Declared_find_19 : decode b_Declared_find 19 = .ok (.aload_n 0, 1) := by decide +kernel
theorem d_Declared_find_20 : decode b_Declared_find 20 = .ok (.getfield 72, 3) := by decide +kernel
theorem d_Declared_find_23 : decode b_Declared_find 23 = .ok (.if_icmp .ge 38, 3) := by decide +kernel
theorem d_Declared_find_26 : decode b_Declared_find 26 = .ok (.iload_n 3, 1) := by decide +kernel
theorem d_Declared_find_27 : decode b_Declared_find 27 = .ok (.iconst (-1), 1) := by decide +kernel
theorem d_Declared_find_28 : decode b_Declared_find 28 = .ok (.if_icmp .eq 33, 3) := by decide +kernel
theorem d_Declared_find_31 : decode b_Declared_find 31 = .ok (.aload_n 0, 1) := by decide +kernel
theorem d_Declared_find_32 : decode b_Declared_find 32 = .ok (.getfield 27, 3) := by decide +kernel
theorem d_Declared_find_35 : decode b_Declared_find 35 = .ok (.iload_n 3, 1) := by decide +kernel
theorem d_Declared_find_36 : decode b_Declared_find 36 = .ok (.iaload, 1) := by decide +kernel
theorem d_Declared_find_37 : decode b_Declared_find 37 = .ok (.iload_n 2, 1) := by decide +kernel
theorem d_Declared_find_38 : decode b_Declared_find 38 = .ok (.if_icmp .ne 5, 3) := by decide +kernel
theorem d_Declared_find_41 : decode b_Declared_find 41 = .ok (.iload_n 3, 1) := by decide +kernel
theorem d_Declared_find_42 : decode b_Declared_find 42 = .ok (.ireturn, 1) := by decide +kernel
theorem d_Declared_find_43 : decode b_Declared_find 43 = .ok (.aload_n 0, 1) := by decide +kernel
theorem d_Declared_find_44 : decode b_Declared_find 44 = .ok (.iload_n 3, 1) := by decide +kernel
theorem d_Declared_find_45 : decode b_Declared_find 45 = .ok (.putfield 81, 3) := by decide +kernel
theorem d_Declared_find_48 : decode b_Declared_find 48 = .ok (.aload_n 0, 1) := by decide +kernel
theorem d_Declared_find_49 : decode b_Declared_find 49 = .ok (.getfield 45, 3) := by decide +kernel
theorem d_Declared_find_52 : decode b_Declared_find 52 = .ok (.iload_n 3, 1) := by decide +kernel
theorem d_Declared_find_53 : decode b_Declared_find 53 = .ok (.iaload, 1) := by decide +kernel
theorem d_Declared_find_54 : decode b_Declared_find 54 = .ok (.istore_n 3, 1) := by decide +kernel
theorem d_Declared_find_55 : decode b_Declared_find 55 = .ok (.iinc 4 1, 3) := by decide +kernel
theorem d_Declared_find_58 : decode b_Declared_find 58 = .ok (.goto (-41), 3) := by decide +kernel
theorem d_Declared_find_61 : decode b_Declared_find 61 = .ok (.iconst (-1), 1) := by decide +kernel
theorem d_Declared_find_62 : decode b_Declared_find 62 = .ok (.ireturn, 1) := by decide +kernel
/-- Declared_find -/
def w_Declared_find (L : Nat → Nat) (a1 : Int) (a2 : Int) (Q : Int → IS → Prop) (σ : IS) : Prop := inL L 126 a1 ∧ inR ((σ.2 126 (Int.toNat a1)) - 1) ∧ WL (fun (K1 : Int × Int → IS → Prop) (s3 : Int × Int) (σ4 : IS) => if s3.2 < (σ4.1 4 12) ∧ (¬ s3.1 = (-1)) then inL L 148 s3.1 ∧ if (σ4.2 148 (Int.toNat s3.1)) = a2 then Q s3.1 σ4 else inL L 123 s3.1 ∧ inR (s3.2 + 1) ∧ K1 ((σ4.2 123 (Int.toNat s3.1)), (s3.2 + 1)) (pf σ4 4 14 s3.1) else Q (-1) σ4) (((σ.2 126 (Int.toNat a1)) - 1), 0) (pf σ 4 14 (-1))
set_option maxHeartbeats 4000000 in
set_option maxRecDepth 20000 in
theorem s_Declared_find {L : Nat → Nat} (hL : ∀ r, L r < 2147483648) {d : Nat} (hd : 0 ≤ d) {a1 : Int} {a2 : Int} {Q : Int → IS → Prop} {σ : IS}  (h : w_Declared_find L a1 a2 Q σ) : OkI BF L d 4 b_Declared_find 5 1 0 [] [some (.inr 4), some (.inl a1), some (.inl a2)] σ (qi Q) := by
  unfold w_Declared_find at h
  refine k_sb (lv' := [some (.inr 4), some (.inl a1), some (.inl a2), none, none]) (sb_s (sb_s (sb_s (sb_e (sb_e sb_nil))))) ?_
  refine k_aload_n d_Declared_find_0 rfl ?_
  refine k_iconst d_Declared_find_1 cI_m1 ?_
  refine k_putI d_Declared_find_2 fl_4_81 ob_4 rfl ?_
  refine k_aload_n d_Declared_find_5 rfl ?_
  refine k_getR d_Declared_find_6 fl_4_57 ob_4 rfl ?_
  refine k_iload_n d_Declared_find_9 rfl ?_
  obtain ⟨p15, h⟩ := h
  refine k_ild (x := (σ.2 126 (Int.toNat a1))) d_Declared_find_10 rI_126 p15 rfl ?_
  refine k_iconst d_Declared_find_11 cI_1 ?_
  obtain ⟨p14, h⟩ := h
  refine k_isub d_Declared_find_12 p14 ?_
  refine k_istore_n (lv' := [some (.inr 4), some (.inl a1), some (.inl a2), some (.inl ((σ.2 126 (Int.toNat a1)) - 1)), none]) d_Declared_find_13 rfl rfl ?_
  refine k_iconst d_Declared_find_14 cI_0 ?_
  refine k_istore (lv' := [some (.inr 4), some (.inl a1), some (.inl a2), some (.inl ((σ.2 126 (Int.toNat a1)) - 1)), some (.inl 0)]) d_Declared_find_15 rfl rfl ?_
  refine k_sb (lv' := [some (.inr 4), none, some (.inl a2), some (.inl ((σ.2 126 (Int.toNat a1)) - 1)), some (.inl 0)]) (sb_s (sb_n (sb_s (sb_s (sb_s sb_nil))))) ?_
  refine k_loop (S := Int × Int) (st := fun _ => []) (lv := fun s3 => [some (.inr 4), none, some (.inl a2), some (.inl s3.1), some (.inl s3.2)]) (fun K1 hK2 s3 σ4 h => ?_) (((σ.2 126 (Int.toNat a1)) - 1), 0) _ h
  refine k_iload d_Declared_find_17 rfl ?_
  refine k_aload_n d_Declared_find_19 rfl ?_
  refine k_getI (x := (σ4.1 4 12)) d_Declared_find_20 fl_4_72 ob_4 rfl rfl ?_
  have hX9 : (s3.2 < (σ4.1 4 12) ∧ (¬ s3.1 = (-1))) → OkI BF L d 4 b_Declared_find 5 1 31 [] [some (.inr 4), none, some (.inl a2), some (.inl s3.1), some (.inl s3.2)] σ4 (qi Q) := fun e11 => by
    have h := ipos e11 h
    refine k_aload_n d_Declared_find_31 rfl ?_
    refine k_getR d_Declared_find_32 fl_4_27 ob_4 rfl ?_
    refine k_iload_n d_Declared_find_35 rfl ?_
    obtain ⟨p8, h⟩ := h
    refine k_ild (x := (σ4.2 148 (Int.toNat s3.1))) d_Declared_find_36 rI_148 p8 rfl ?_
    refine k_iload_n d_Declared_find_37 rfl ?_
    refine k_icne d_Declared_find_38 rfl (fun c5 => ?_) (fun c5 => ?_)
    · have h := ineg c5 h
      refine k_aload_n d_Declared_find_43 rfl ?_
      refine k_iload_n d_Declared_find_44 rfl ?_
      refine k_putI d_Declared_find_45 fl_4_81 ob_4 rfl ?_
      refine k_aload_n d_Declared_find_48 rfl ?_
      refine k_getR d_Declared_find_49 fl_4_45 ob_4 rfl ?_
      refine k_iload_n d_Declared_find_52 rfl ?_
      obtain ⟨p7, h⟩ := h
      refine k_ild (x := (σ4.2 123 (Int.toNat s3.1))) d_Declared_find_53 rI_123 p7 rfl ?_
      refine k_istore_n (lv' := [some (.inr 4), none, some (.inl a2), some (.inl (σ4.2 123 (Int.toNat s3.1))), some (.inl s3.2)]) d_Declared_find_54 rfl rfl ?_
      obtain ⟨p6, h⟩ := h
      refine k_iinc (lv' := [some (.inr 4), none, some (.inl a2), some (.inl (σ4.2 123 (Int.toNat s3.1))), some (.inl (s3.2 + 1))]) d_Declared_find_55 cI_1 rfl rfl p6 rfl ?_
      refine k_goto d_Declared_find_58 rfl ?_
      exact k_sb (sb_s (sb_s (sb_s (sb_s (sb_s sb_nil))))) (hK2 ((σ4.2 123 (Int.toNat s3.1)), (s3.2 + 1)) _ h)
    · have h := ipos c5 h
      refine k_iload_n d_Declared_find_41 rfl ?_
      exact k_iret d_Declared_find_42 (Or.inl rfl) h
  have hY10 : ¬ (s3.2 < (σ4.1 4 12) ∧ (¬ s3.1 = (-1))) → OkI BF L d 4 b_Declared_find 5 1 61 [] [some (.inr 4), none, some (.inl a2), some (.inl s3.1), some (.inl s3.2)] σ4 (qi Q) := fun e11 => by
    have h := ineg e11 h
    refine k_iconst d_Declared_find_61 cI_m1 ?_
    exact k_iret d_Declared_find_62 (Or.inl rfl) h
  refine k_icge d_Declared_find_23 rfl (fun c12 => ?_) (fun c12 => ?_)
  · exact hY10 (fun z => c12 z.1)
  · refine k_iload_n d_Declared_find_26 rfl ?_
    refine k_iconst d_Declared_find_27 cI_m1 ?_
    refine k_iceq d_Declared_find_28 rfl (fun c13 => ?_) (fun c13 => ?_)
    · exact hY10 (fun z => (fun z => z c13) z.2)
    · exact hX9 (⟨c12, c13⟩)
theorem d_Declared_addAttribute_0 : decode b_Declared_addAttribute 0 = .ok (.aload_n 0, 1) := by decide +kernel
theorem d_Declared_addAttribute_1 : decode b_Declared_addAttribute 1 = .ok (.getfield 72, 3) := by decide +kernel
theorem d_Declared_addAttribute_4 : decode b_Declared_addAttribute 4 = .ok (.istore 7, 2) := by decide +kernel
theorem d_Declared_addAttribute_6 : decode b_Declared_addAttribute 6 = .ok (.aload_n 0, 1) := by decide +kernel
theorem d_Declared_addAttribute_7 : decode b_Declared_addAttribute 7 = .ok (.iload_n 1, 1) := by decide +kernel
theorem d_Declared_addAttribute_8 : decode b_Declared_addAttribute 8 = .ok (.iload_n 2, 1) := by decide +kernel
theorem d_Declared_addAttribute_9 : decode b_Declared_addAttribute 9 = .ok (.invokevirtual 84, 3) := by decide +kernel
theorem d_Declared_addAttribute_12 : decode b_Declared_addAttribute 12 = .ok (.iconst (-1), 1) := by decide +kernel
theorem d_Declared_addAttribute_13 : decode b_Declared_addAttribute 13 = .ok (.if_icmp .ne 13, 3) := by decide +kernel
theorem d_Declared_addAttribute_16 : decode b_Declared_addAttribute 16 = .ok (.iload 7, 2) := by decide +kernel
theorem d_Declared_addAttribute_18 : decode b_Declared_addAttribute 18 = .ok (.aload_n 0, 1) := by decide +kernel
theorem d_Declared_addAttribute_19 : decode b_Declared_addAttribute 19 = .ok (.getfield 27, 3) := by decide +kernel
theorem d_Declared_addAttribute_22 : decode b_Declared_addAttribute 22 = .ok (.arraylength, 1) := by decide +kernel
theorem d_Declared_addAttribute_23 : decode b_Declared_addAttribute 23 = .ok (.if_icmp .lt 10, 3) := by decide +kernel
theorem d_Declared_addAttribute_26 : decode b_Declared_addAttribute 26 = .ok (.aload_n 0, 1) := by decide +kernel
theorem d_Declared_addAttribute_27 : decode b_Declared_addAttribute 27 = .ok (.iload 6, 2) := by decide +kernel
theorem d_Declared_addAttribute_29 : decode b_Declared_addAttribute 29 = .ok (.putfield 75, 3) := by decide +kernel
theorem d_Declared_addAttribute_32 : decode b_Declared_addAttribute 32 = .ok (.return_, 1) := by decide +kernel
theorem d_Declared_addAttribute_33 : decode b_Declared_addAttribute 33 = .ok (.aload_n 0, 1) := by decide +kernel
theorem d_Declared_addAttribute_34 : decode b_Declared_addAttribute 34 = .ok (.getfield 27, 3) := by decide +kernel
theorem d_Declared_addAttribute_37 : decode b_Declared_addAttribute 37 = .ok (.iload 7, 2) := by decide +kernel
theorem d_Declared_addAttribute_39 : decode b_Declared_addAttribute 39 = .ok (.iload_n 2, 1) := by decide +kernel
theorem d_Declared_addAttribute_40 : decode b_Declared_addAttribute 40 = .ok (.iastore, 1) := by decide +kernel
theorem d_Declared_addAttribute_41 : decode b_Declared_addAttribute 41 = .ok (.aload_n 0, 1) := by decide +kernel
theorem d_Declared_addAttribute_42 : decode b_Declared_addAttribute 42 = .ok (.getfield 30, 3) := by decide +kernel
theorem d_Declared_addAttribute_45 : decode b_Declared_addAttribute 45 = .ok (.iload 7, 2) := by decide +kernel
theorem d_Declared_addAttribute_47 : decode b_Declared_addAttribute 47 = .ok (.iload_n 3, 1) := by decide +kernel
theorem d_Declared_addAttribute_48 : decode b_Declared_addAttribute 48 = .ok (.iastore, 1) := by decide +kernel
theorem d_Declared_addAttribute_49 : decode b_Declared_addAttribute 49 = .ok (.aload_n 0, 1) := by decide +kernel
theorem d_Declared_addAttribute_50 : decode b_Declared_addAttribute 50 = .ok (.getfield 33, 3) := by decide +kernel
theorem d_Declared_addAttribute_53 : decode b_Declared_addAttribute 53 = .ok (.iload 7, 2) := by decide +kernel
theorem d_Declared_addAttribute_55 : decode b_Declared_addAttribute 55 = .ok (.iload 4, 2) := by decide +kernel
theorem d_Declared_addAttribute_57 : decode b_Declared_addAttribute 57 = .ok (.iastore, 1) := by decide +kernel
theorem d_Declared_addAttribute_58 : decode b_Declared_addAttribute 58 = .ok (.aload_n 0, 1) := by decide +kernel
theorem d_Declared_addAttribute_59 : decode b_Declared_addAttribute 59 = .ok (.getfield 36, 3) := by decide +kernel
theorem d_Declared_addAttribute_62 : decode b_Declared_addAttribute 62 = .ok (.iload 7, 2) := by decide +kernel
theorem d_Declared_addAttribute_64 : decode b_Declared_addAttribute 64 = .ok (.iload 5, 2) := by decide +kernel
theorem d_Declared_addAttribute_66 : decode b_Declared_addAttribute 66 = .ok (.iastore, 1) := by decide +kernel
theorem d_Declared_addAttribute_67 : decode b_Declared_addAttribute 67 = .ok (.aload_n 0, 1) := by decide +kernel
theorem d_Declared_addAttribute_68 : decode b_Declared_addAttribute 68 = .ok (.getfield 39, 3) := by decide +kernel
theorem d_Declared_addAttribute_71 : decode b_Declared_addAttribute 71 = .ok (.iload 7, 2) := by decide +kernel
theorem d_Declared_addAttribute_73 : decode b_Declared_addAttribute 73 = .ok (.iload 6, 2) := by decide +kernel
theorem d_Declared_addAttribute_75 : decode b_Declared_addAttribute 75 = .ok (.iastore, 1) := by decide +kernel
theorem d_Declared_addAttribute_76 : decode b_Declared_addAttribute 76 = .ok (.aload_n 0, 1) := by decide +kernel
theorem d_Declared_addAttribute_77 : decode b_Declared_addAttribute 77 = .ok (.getfield 42, 3) := by decide +kernel
theorem d_Declared_addAttribute_80 : decode b_Declared_addAttribute 80 = .ok (.iload 7, 2) := by decide +kernel
theorem d_Declared_addAttribute_82 : decode b_Declared_addAttribute 82 = .ok (.aload_n 0, 1) := by decide +kernel
theorem d_Declared_addAttribute_83 : decode b_Declared_addAttribute 83 = .ok (.getfield 75, 3) := by decide +kernel
theorem d_Declared_addAttribute_86 : decode b_Declared_addAttribute 86 = .ok (.iload 6, 2) := by decide +kernel
theorem d_Declared_addAttribute_88 : decode b_Declared_addAttribute 88 = .ok (.isub, 1) := by decide +kernel
theorem d_Declared_addAttribute_89 : decode b_Declared_addAttribute 89 = .ok (.iastore, 1) := by decide +kernel
theorem d_Declared_addAttribute_90 : decode b_Declared_addAttribute 90 = .ok (.aload_n 0, 1) := by decide +kernel
theorem d_Declared_addAttribute_91 : decode b_Declared_addAttribute 91 = .ok (.getfield 45, 3) := by decide +kernel
theorem d_Declared_addAttribute_94 : decode b_Declared_addAttribute 94 = .ok (.iload 7, 2) := by decide +kernel
theorem d_Declared_addAttribute_96 : decode b_Declared_addAttribute 96 = .ok (.iconst (-1), 1) := by decide +kernel
theorem d_Declared_addAttribute_97 : decode b_Declared_addAttribute 97 = .ok (.iastore, 1) := by decide +kernel
theorem d_Declared_addAttribute_98 : decode b_Declared_addAttribute 98 = .ok (.aload_n 0, 1) := by decide +kernel
theorem d_Declared_addAttribute_99 : decode b_Declared_addAttribute 99 = .ok (.getfield 81, 3) := by decide +kernel
theorem d_Declared_addAttribute_102 : decode b_Declared_addAttribute 102 = .ok (.iconst (-1), 1) := by decide +kernel
theorem d_Declared_addAttribute_103 : decode b_Declared_addAttribute 103 = .ok (.if_icmp .ne 16, 3) := by decide +kernel
theorem d_Declared_addAttribute_106 : decode b_Declared_addAttribute 106 = .ok (.aload_n 0, 1) := by decide +kernel
theorem d_Declared_addAttribute_107 : decode b_Declared_addAttribute 107 = .ok (.getfield 57, 3) := by decide +kernel
theorem d_Declared_addAttribute_110 : decode b_Declared_addAttribute 110 = .ok (.iload_n 1, 1) := by decide +kernel
theorem d_Declared_addAttribute_111 : decode b_Declared_addAttribute 111 = .ok (.iload 7, 2) := by decide +kernel
theorem d_Declared_addAttribute_113 : decode b_Declared_addAttribute 113 = .ok (.iconst 1, 1) := by decide +kernel
theorem d_Declared_addAttribute_114 : decode b_Declared_addAttribute 114 = .ok (.iadd, 1) := by decide +kernel
theorem d_Declared_addAttribute_115 : decode b_Declared_addAttribute 115 = .ok (.iastore, 1) := by decide +kernel
theorem d_Declared_addAttribute_116 : decode b_Declared_addAttribute 116 = .ok (.goto 14, 3) := by decide +kernel
theorem d_Declared_addAttribute_119 : decode b_Declared_addAttribute 119 = .ok (.aload_n 0, 1) := by decide +kernel
theorem d_Declared_addAttribute_120 : decode b_Declared_addAttribute 120 = .ok (.getfield 45, 3) := by decide +kernel
theorem d_Declared_addAttribute_123 : decode b_Declared_addAttribute 123 = .ok (.aload_n 0, 1) := by decide +kernel
theorem d_Declared_addAttribute_124 : decode b_Declared_addAttribute 124 = .ok (.getfield 81, 3) := by decide +kernel
theorem d_Declared_addAttribute_127 : decode b_Declared_addAttribute 127 = .ok (.iload 7, 2) := by decide +kernel
theorem d_Declared_addAttribute_129 : decode b_Declared_addAttribute 129 = .ok (.iastore, 1) := by decide +kernel
theorem d_Declared_addAttribute_130 : decode b_Declared_addAttribute 130 = .ok (.aload_n 0, 1) := by decide +kernel
theorem d_Declared_addAttribute_131 : decode b_Declared_addAttribute 131 = .ok (.dup, 1) := by decide +kernel
theorem d_Declared_addAttribute_132 : decode b_Declared_addAttribute 132 = .ok (.getfield 72, 3) := by decide +kernel
theorem d_Declared_addAttribute_135 : decode b_Declared_addAttribute 135 = .ok (.iconst 1, 1) := by decide +kernel
theorem d_Declared_addAttribute_136 : decode b_Declared_addAttribute 136 = .ok (.iadd, 1) := by decide +kernel
theorem d_Declared_addAttribute_137 : decode b_Declared_addAttribute 137 = .ok (.putfield 72, 3) := by decide +kernel
theorem d_Declared_addAttribute_140 : decode b_Declared_addAttribute 140 = .ok (.return_, 1) := by decide +kernel
/-- Declared_addAttribute -/
def w_Declared_addAttribute (L : Nat → Nat) (a1 : Int) (a2 : Int) (a3 : Int) (a4 : Int) (a5 : Int) (a6 : Int) (Q : IS → Prop) (σ : IS) : Prop := w_Declared_find L a1 a2 (fun v2 σ1 => if v2 = (-1) ∧ ((σ.1 4 12) < ((L 148 : Nat) : Int)) then inL L 148 (σ.1 4 12) ∧ inL L 118 (σ.1 4 12) ∧ inL L 119 (σ.1 4 12) ∧ inL L 120 (σ.1 4 12) ∧ inL L 121 (σ.1 4 12) ∧ inR ((σ1.1 4 16) - a6) ∧ inL L 122 (σ.1 4 12) ∧ inL L 123 (σ.1 4 12) ∧ WJ (fun (s5 : Unit) (σ6 : IS) => inR ((σ6.1 4 12) + 1) ∧ Q (pf σ6 4 12 ((σ6.1 4 12) + 1))) (fun J3 => if (σ1.1 4 14) = (-1) then inR ((σ.1 4 12) + 1) ∧ inL L 126 a1 ∧ J3 () (pr (pr (pr (pr (pr (pr (pr (pr σ1 148 (Int.toNat (σ.1 4 12)) a2) 118 (Int.toNat (σ.1 4 12)) a3) 119 (Int.toNat (σ.1 4 12)) a4) 120 (Int.toNat (σ.1 4 12)) a5) 121 (Int.toNat (σ.1 4 12)) a6) 122 (Int.toNat (σ.1 4 12)) ((σ1.1 4 16) - a6)) 123 (Int.toNat (σ.1 4 12)) (-1)) 126 (Int.toNat a1) ((σ.1 4 12) + 1)) else inL L 123 (σ1.1 4 14) ∧ J3 () (pr (pr (pr (pr (pr (pr (pr (pr σ1 148 (Int.toNat (σ.1 4 12)) a2) 118 (Int.toNat (σ.1 4 12)) a3) 119 (Int.toNat (σ.1 4 12)) a4) 120 (Int.toNat (σ.1 4 12)) a5) 121 (Int.toNat (σ.1 4 12)) a6) 122 (Int.toNat (σ.1 4 12)) ((σ1.1 4 16) - a6)) 123 (Int.toNat (σ.1 4 12)) (-1)) 123 (Int.toNat (σ1.1 4 14)) (σ.1 4 12))) else Q (pf σ1 4 16 a6)) σ
set_option maxHeartbeats 4000000 in
set_option maxRecDepth 20000 in
theorem s_Declared_addAttribute {L : Nat → Nat} (hL : ∀ r, L r < 2147483648) {d : Nat} (hd : 1 ≤ d) {a1 : Int} {a2 : Int} {a3 : Int} {a4 : Int} {a5 : Int} {a6 : Int} {Q : IS → Prop} {σ : IS}  (h : w_Declared_addAttribute L a1 a2 a3 a4 a5 a6 Q σ) : OkI BF L d 4 b_Declared_addAttribute 8 0 0 [] [some (.inr 4), some (.inl a1), some (.inl a2), some (.inl a3), some (.inl a4), some (.inl a5), some (.inl a6)] σ (qv Q) := by
  unfold w_Declared_addAttribute at h
  obtain ⟨d, rfl⟩ : ∃ e, d = e + 1 := ⟨d - 1, by omega⟩
  refine k_sb (lv' := [some (.inr 4), some (.inl a1), some (.inl a2), some (.inl a3), some (.inl a4), some (.inl a5), some (.inl a6), none]) (sb_s (sb_s (sb_s (sb_s (sb_s (sb_s (sb_s (sb_e sb_nil)))))))) ?_
  refine k_aload_n d_Declared_addAttribute_0 rfl ?_
  refine k_getI (x := (σ.1 4 12)) d_Declared_addAttribute_1 fl_4_72 ob_4 rfl rfl ?_
  refine k_istore (lv' := [some (.inr 4), some (.inl a1), some (.inl a2), some (.inl a3), some (.inl a4), some (.inl a5), some (.inl a6), some (.inl (σ.1 4 12))]) d_Declared_addAttribute_4 rfl rfl ?_
  refine k_aload_n d_Declared_addAttribute_6 rfl ?_
  refine k_iload_n d_Declared_addAttribute_7 rfl ?_
  refine k_iload_n d_Declared_addAttribute_8 rfl ?_
  refine k_cvi [.inl a1, .inl a2] d_Declared_addAttribute_9 ml_4_84 rfl rfl ob_4 rfl (s_Declared_find hL (by omega)  h) (fun v2 σ1 h => ?_)
  refine k_iconst d_Declared_addAttribute_12 cI_m1 ?_
  have hX20 : (v2 = (-1) ∧ ((σ.1 4 12) < ((L 148 : Nat) : Int))) → OkI BF L (d + 1) 4 b_Declared_addAttribute 8 0 33 [] [some (.inr 4), some (.inl a1), some (.inl a2), some (.inl a3), some (.inl a4), some (.inl a5), some (.inl a6), some (.inl (σ.1 4 12))] σ1 (qv Q) := fun e22 => by
    have h := ipos e22 h
    refine k_aload_n d_Declared_addAttribute_33 rfl ?_
    refine k_getR d_Declared_addAttribute_34 fl_4_27 ob_4 rfl ?_
    refine k_iload d_Declared_addAttribute_37 rfl ?_
    refine k_iload_n d_Declared_addAttribute_39 rfl ?_
    obtain ⟨p19, h⟩ := h
    refine k_ist d_Declared_addAttribute_40 rI_148 p19 ?_
    refine k_aload_n d_Declared_addAttribute_41 rfl ?_
    refine k_getR d_Declared_addAttribute_42 fl_4_30 ob_4 rfl ?_
    refine k_iload d_Declared_addAttribute_45 rfl ?_
    refine k_iload_n d_Declared_addAttribute_47 rfl ?_
    obtain ⟨p18, h⟩ := h
    refine k_ist d_Declared_addAttribute_48 rI_118 p18 ?_
    refine k_aload_n d_Declared_addAttribute_49 rfl ?_
    refine k_getR d_Declared_addAttribute_50 fl_4_33 ob_4 rfl ?_
    refine k_iload d_Declared_addAttribute_53 rfl ?_
    refine k_iload d_Declared_addAttribute_55 rfl ?_
    obtain ⟨p17, h⟩ := h
    refine k_ist d_Declared_addAttribute_57 rI_119 p17 ?_
    refine k_aload_n d_Declared_addAttribute_58 rfl ?_
    refine k_getR d_Declared_addAttribute_59 fl_4_36 ob_4 rfl ?_
    refine k_iload d_Declared_addAttribute_62 rfl ?_
    refine k_iload d_Declared_addAttribute_64 rfl ?_
    obtain ⟨p16, h⟩ := h
    refine k_ist d_Declared_addAttribute_66 rI_120 p16 ?_
    refine k_aload_n d_Declared_addAttribute_67 rfl ?_
    refine k_getR d_Declared_addAttribute_68 fl_4_39 ob_4 rfl ?_
    refine k_iload d_Declared_addAttribute_71 rfl ?_
    refine k_iload d_Declared_addAttribute_73 rfl ?_
    obtain ⟨p15, h⟩ := h
    refine k_ist d_Declared_addAttribute_75 rI_121 p15 ?_
    refine k_aload_n d_Declared_addAttribute_76 rfl ?_
    refine k_getR d_Declared_addAttribute_77 fl_4_42 ob_4 rfl ?_
    refine k_iload d_Declared_addAttribute_80 rfl ?_
    refine k_aload_n d_Declared_addAttribute_82 rfl ?_
    refine k_getI (x := (σ1.1 4 16)) d_Declared_addAttribute_83 fl_4_75 ob_4 rfl rfl ?_
    refine k_iload d_Declared_addAttribute_86 rfl ?_
    obtain ⟨p14, h⟩ := h
    refine k_isub d_Declared_addAttribute_88 p14 ?_
    obtain ⟨p13, h⟩ := h
    refine k_ist d_Declared_addAttribute_89 rI_122 p13 ?_
    refine k_aload_n d_Declared_addAttribute_90 rfl ?_
    refine k_getR d_Declared_addAttribute_91 fl_4_45 ob_4 rfl ?_
    refine k_iload d_Declared_addAttribute_94 rfl ?_
    refine k_iconst d_Declared_addAttribute_96 cI_m1 ?_
    obtain ⟨p12, h⟩ := h
    refine k_ist d_Declared_addAttribute_97 rI_123 p12 ?_
    refine k_aload_n d_Declared_addAttribute_98 rfl ?_
    refine k_getI (x := (σ1.1 4 14)) d_Declared_addAttribute_99 fl_4_81 ob_4 rfl rfl ?_
    refine k_iconst d_Declared_addAttribute_102 cI_m1 ?_
    refine k_join (S := Unit) (pc' := 130) (st' := fun s5 => []) (lv' := fun s5 => [some (.inr 4), none, none, none, none, none, none, none]) (fun s5 σ6 h => ?_) (fun J3 hJ4 h => ?_) h
    · refine k_aload_n d_Declared_addAttribute_130 rfl ?_
      refine k_dup d_Declared_addAttribute_131 ?_
      refine k_getI (x := (σ6.1 4 12)) d_Declared_addAttribute_132 fl_4_72 ob_4 rfl rfl ?_
      refine k_iconst d_Declared_addAttribute_135 cI_1 ?_
      obtain ⟨p7, h⟩ := h
      refine k_iadd d_Declared_addAttribute_136 p7 ?_
      refine k_putI d_Declared_addAttribute_137 fl_4_72 ob_4 rfl ?_
      exact k_ret d_Declared_addAttribute_140 h
    · refine k_icne d_Declared_addAttribute_103 rfl (fun c8 => ?_) (fun c8 => ?_)
      · have h := ineg c8 h
        refine k_aload_n d_Declared_addAttribute_119 rfl ?_
        refine k_getR d_Declared_addAttribute_120 fl_4_45 ob_4 rfl ?_
        refine k_aload_n d_Declared_addAttribute_123 rfl ?_
        refine k_getI (x := (σ1.1 4 14)) d_Declared_addAttribute_124 fl_4_81 ob_4 rfl rfl ?_
        refine k_iload d_Declared_addAttribute_127 rfl ?_
        obtain ⟨p9, h⟩ := h
        refine k_ist d_Declared_addAttribute_129 rI_123 p9 ?_
        exact k_sb (sb_s (sb_n (sb_n (sb_n (sb_n (sb_n (sb_n (sb_n sb_nil)))))))) (hJ4 () _ h)
      · have h := ipos c8 h
        refine k_aload_n d_Declared_addAttribute_106 rfl ?_
        refine k_getR d_Declared_addAttribute_107 fl_4_57 ob_4 rfl ?_
        refine k_iload_n d_Declared_addAttribute_110 rfl ?_
        refine k_iload d_Declared_addAttribute_111 rfl ?_
        refine k_iconst d_Declared_addAttribute_113 cI_1 ?_
        obtain ⟨p11, h⟩ := h
        refine k_iadd d_Declared_addAttribute_114 p11 ?_
        obtain ⟨p10, h⟩ := h
        refine k_ist d_Declared_addAttribute_115 rI_126 p10 ?_
        refine k_goto d_Declared_addAttribute_116 rfl ?_
        exact k_sb (sb_s (sb_n (sb_n (sb_n (sb_n (sb_n (sb_n (sb_n sb_nil)))))))) (hJ4 () _ h)
  have hY21 : ¬ (v2 = (-1) ∧ ((σ.1 4 12) < ((L 148 : Nat) : Int))) → OkI BF L (d + 1) 4 b_Declared_addAttribute 8 0 26 [] [some (.inr 4), some (.inl a1), some (.inl a2), some (.inl a3), some (.inl a4), some (.inl a5), some (.inl a6), some (.inl (σ.1 4 12))] σ1 (qv Q) := fun e22 => by
    have h := ineg e22 h
    refine k_aload_n d_Declared_addAttribute_26 rfl ?_
    refine k_iload d_Declared_addAttribute_27 rfl ?_
    refine k_putI d_Declared_addAttribute_29 fl_4_75 ob_4 rfl ?_
    exact k_ret d_Declared_addAttribute_32 h
  refine k_icne d_Declared_addAttribute_13 rfl (fun c23 => ?_) (fun c23 => ?_)
  · exact hY21 (fun z => c23 z.1)
  · refine k_iload d_Declared_addAttribute_16 rfl ?_
    refine k_aload_n d_Declared_addAttribute_18 rfl ?_
    refine k_getR d_Declared_addAttribute_19 fl_4_27 ob_4 rfl ?_
    refine k_len d_Declared_addAttribute_22 rI_148.1 (hL _) ?_
    refine k_iclt d_Declared_addAttribute_23 rfl (fun c24 => ?_) (fun c24 => ?_)
    · exact hX20 (⟨c23, c24⟩)
    · exact hY21 (fun z => (c24) z.2)
theorem d_Doctype_readAttributes_0 : decode b_Doctype_readAttributes 0 = .ok (.aload_n 0, 1) := by decide +kernel
theorem d_Doctype_readAttributes_1 : decode b_Doctype_readAttributes 1 = .ok (.getfield 17, 3) := by decide +kernel
theorem d_Doctype_readAttributes_4 : decode b_Doctype_readAttributes 4 = .ok (.ldc 135, 2) := by decide +kernel
theorem d_Doctype_readAttributes_6 : decode b_Doctype_readAttributes 6 = .ok (.invokevirtual 53, 3) := by decide +kernel
theorem d_Doctype_readAttributes_9 : decode b_Doctype_readAttributes 9 = .ok (.aload_n 0, 1) := by decide +kernel
theorem d_Doctype_readAttributes_10 : decode b_Doctype_readAttributes 10 = .ok (.getfield 17, 3) := by decide +kernel
theorem d_Doctype_readAttributes_13 : decode b_Doctype_readAttributes 13 = .ok (.invokevirtual 59, 3) := by decide +kernel
theorem d_Doctype_readAttributes_16 : decode b_Doctype_readAttributes 16 = .ok (.aload_n 0, 1) := by decide +kernel
theorem d_Doctype_readAttributes_17 : decode b_Doctype_readAttributes 17 = .ok (.getfield 17, 3) := by decide +kernel
theorem d_Doctype_readAttributes_20 : decode b_Doctype_readAttributes 20 = .ok (.invokevirtual 62, 3) := by decide +kernel
theorem d_Doctype_readAttributes_23 : decode b_Doctype_readAttributes 23 = .ok (.istore_n 2, 1) := by decide +kernel
theorem d_Doctype_readAttributes_24 : decode b_Doctype_readAttributes 24 = .ok (.iload_n 1, 1) := by decide +kernel
theorem d_Doctype_readAttributes_25 : decode b_Doctype_readAttributes 25 = .ok (.ifCond .eq 23, 3) := by decide +kernel
theorem d_Doctype_readAttributes_28 : decode b_Doctype_readAttributes 28 = .ok (.aload_n 0, 1) := by decide +kernel
theorem d_Doctype_readAttributes_29 : decode b_Doctype_readAttributes 29 = .ok (.getfield 11, 3) := by decide +kernel
theorem d_Doctype_readAttributes_32 : decode b_Doctype_readAttributes 32 = .ok (.iload_n 2, 1) := by decide +kernel
theorem d_Doctype_readAttributes_33 : decode b_Doctype_readAttributes 33 = .ok (.aload_n 0, 1) := by decide +kernel
theorem d_Doctype_readAttributes_34 : decode b_Doctype_readAttributes 34 = .ok (.getfield 17, 3) := by decide +kernel
theorem d_Doctype_readAttributes_37 : decode b_Doctype_readAttributes 37 = .ok (.getfield 66, 3) := by decide +kernel
theorem d_Doctype_readAttributes_40 : decode b_Doctype_readAttributes 40 = .ok (.iload_n 2, 1) := by decide +kernel
theorem d_Doctype_readAttributes_41 : decode b_Doctype_readAttributes 41 = .ok (.isub, 1) := by decide +kernel
theorem d_Doctype_readAttributes_42 : decode b_Doctype_readAttributes 42 = .ok (.invokevirtual 96, 3) := by decide +kernel
theorem d_Doctype_readAttributes_45 : decode b_Doctype_readAttributes 45 = .ok (.goto 4, 3) := by decide +kernel
theorem d_Doctype_readAttributes_48 : decode b_Doctype_readAttributes 48 = .ok (.iconst (-1), 1) := by decide +kernel
theorem d_Doctype_readAttributes_49 : decode b_Doctype_readAttributes 49 = .ok (.istore_n 3, 1) := by decide +kernel
theorem d_Doctype_readAttributes_50 : decode b_Doctype_readAttributes 50 = .ok (.iconst 0, 1) := by decide +kernel
theorem d_Doctype_readAttributes_51 : decode b_Doctype_readAttributes 51 = .ok (.istore 4, 2) := by decide +kernel
theorem d_Doctype_readAttributes_53 : decode b_Doctype_readAttributes 53 = .ok (.iload 4, 2) := by decide +kernel
theorem d_Doctype_readAttributes_55 : decode b_Doctype_readAttributes 55 = .ok (.ldc 191, 2) := by decide +kernel
theorem d_Doctype_readAttributes_57 : decode b_Doctype_readAttributes 57 = .ok (.if_icmp .ge 217, 3) := by decide +kernel
theorem d_Doctype_readAttributes_60 : decode b_Doctype_readAttributes 60 = .ok (.aload_n 0, 1) := by decide +kernel
theorem d_Doctype_readAttributes_61 : decode b_Doctype_readAttributes 61 = .ok (.getfield 17, 3) := by decide +kernel
theorem d_Doctype_readAttributes_64 : decode b_Doctype_readAttributes 64 = .ok (.getfield 140, 3) := by decide +kernel
theorem d_Doctype_readAttributes_67 : decode b_Doctype_readAttributes 67 = .ok (.ifCond .ne 207, 3) := by decide +kernel
theorem d_Doctype_readAttributes_70 : decode b_Doctype_readAttributes 70 = .ok (.aload_n 0, 1) := by decide +kernel
theorem d_Doctype_readAttributes_71 : decode b_Doctype_readAttributes 71 = .ok (.getfield 17, 3) := by decide +kernel
theorem d_Doctype_readAttributes_74 : decode b_Doctype_readAttributes 74 = .ok (.invokevirtual 69, 3) := by decide +kernel
theorem d_Doctype_readAttributes_77 : decode b_Doctype_readAttributes 77 = .ok (.istore 5, 2) := by decide +kernel
theorem d_Doctype_readAttributes_79 : decode b_Doctype_readAttributes 79 = .ok (.aload_n 0, 1) := by decide +kernel
theorem d_Doctype_readAttributes_80 : decode b_Doctype_readAttributes 80 = .ok (.getfield 17, 3) := by decide +kernel
theorem d_Doctype_readAttributes_83 : decode b_Doctype_readAttributes 83 = .ok (.ldc 90, 2) := by decide +kernel
theorem d_Doctype_readAttributes_85 : decode b_Doctype_readAttributes 85 = .ok (.invokevirtual 87, 3) := by decide +kernel
theorem d_Doctype_readAttributes_88 : decode b_Doctype_readAttributes 88 = .ok (.ifCond .eq 4, 3) := by decide +kernel
theorem d_Doctype_readAttributes_91 : decode b_Doctype_readAttributes 91 = .ok (.return_, 1) := by decide +kernel
theorem d_Doctype_readAttributes_92 : decode b_Doctype_readAttributes 92 = .ok (.iload 5, 2) := by decide +kernel
theorem d_Doctype_readAttributes_94 : decode b_Doctype_readAttributes 94 = .ok (.ifCond .ne 11, 3) := by decide +kernel
theorem d_Doctype_readAttributes_97 : decode b_Doctype_readAttributes 97 = .ok (.aload_n 0, 1) := by decide +kernel
theorem d_Doctype_readAttributes_98 : decode b_Doctype_readAttributes 98 = .ok (.getfield 17, 3) := by decide +kernel
theorem d_Doctype_readAttributes_101 : decode b_Doctype_readAttributes 101 = .ok (.iconst 5, 1) := by decide +kernel
theorem d_Doctype_readAttributes_102 : decode b_Doctype_readAttributes 102 = .ok (.invokevirtual 92, 3) := by decide +kernel
theorem d_Doctype_readAttributes_105 : decode b_Doctype_readAttributes 105 = .ok (.aload_n 0, 1) := by decide +kernel
theorem d_Doctype_readAttributes_106 : decode b_Doctype_readAttributes 106 = .ok (.getfield 17, 3) := by decide +kernel
theorem d_Doctype_readAttributes_109 : decode b_Doctype_readAttributes 109 = .ok (.invokevirtual 62, 3) := by decide +kernel
theorem d_Doctype_readAttributes_112 : decode b_Doctype_readAttributes 112 = .ok (.istore 6, 2) := by decide +kernel
theorem d_Doctype_readAttributes_114 : decode b_Doctype_readAttributes 114 = .ok (.aload_n 0, 1) := by decide +kernel
theorem d_Doctype_readAttributes_115 : decode b_Doctype_readAttributes 115 = .ok (.getfield 17, 3) := by decide +kernel
theorem d_Doctype_readAttributes_118 : decode b_Doctype_readAttributes 118 = .ok (.getfield 66, 3) := by decide +kernel
theorem d_Doctype_readAttributes_121 : decode b_Doctype_readAttributes 121 = .ok (.iload 6, 2) := by decide +kernel
theorem d_Doctype_readAttributes_123 : decode b_Doctype_readAttributes 123 = .ok (.isub, 1) := by decide +kernel
theorem d_Doctype_readAttributes_124 : decode b_Doctype_readAttributes 124 = .ok (.istore 7, 2) := by decide +kernel
theorem d_Doctype_readAttributes_126 : decode b_Doctype_readAttributes 126 = .ok (.aload_n 0, 1) := by decide +kernel
theorem d_Doctype_readAttributes_127 : decode b_Doctype_readAttributes 127 = .ok (.getfield 17, 3) := by decide +kernel
theorem d_Doctype_readAttributes_130 : decode b_Doctype_readAttributes 130 = .ok (.invokevirtual 59, 3) := by decide +kernel
theorem d_Doctype_readAttributes_133 : decode b_Doctype_readAttributes 133 = .ok (.aload_n 0, 1) := by decide +kernel
theorem d_Doctype_readAttributes_134 : decode b_Doctype_readAttributes 134 = .ok (.getfield 25, 3) := by decide +kernel
theorem d_Doctype_readAttributes_137 : decode b_Doctype_readAttributes 137 = .ok (.getfield 204, 3) := by decide +kernel
theorem d_Doctype_readAttributes_140 : decode b_Doctype_readAttributes 140 = .ok (.istore 8, 2) := by decide +kernel
theorem d_Doctype_readAttributes_142 : decode b_Doctype_readAttributes 142 = .ok (.aload_n 0, 1) := by decide +kernel
theorem d_Doctype_readAttributes_143 : decode b_Doctype_readAttributes 143 = .ok (.iload_n 1, 1) := by decide +kernel
theorem d_Doctype_readAttributes_144 : decode b_Doctype_readAttributes 144 = .ok (.invokevirtual 207, 3) := by decide +kernel
theorem d_Doctype_readAttributes_147 : decode b_Doctype_readAttributes 147 = .ok (.istore 9, 2) := by decide +kernel
theorem d_Doctype_readAttributes_149 : decode b_Doctype_readAttributes 149 = .ok (.aload_n 0, 1) := by decide +kernel
theorem d_Doctype_readAttributes_150 : decode b_Doctype_readAttributes 150 = .ok (.getfield 17, 3) := by decide +kernel
theorem d_Doctype_readAttributes_153 : decode b_Doctype_readAttributes 153 = .ok (.invokevirtual 59, 3) := by decide +kernel
theorem d_Doctype_readAttributes_156 : decode b_Doctype_readAttributes 156 = .ok (.aload_n 0, 1) := by decide +kernel
theorem d_Doctype_readAttributes_157 : decode b_Doctype_readAttributes 157 = .ok (.invokevirtual 211, 3) := by decide +kernel
theorem d_Doctype_readAttributes_160 : decode b_Doctype_readAttributes 160 = .ok (.istore 10, 2) := by decide +kernel
theorem d_Doctype_readAttributes_162 : decode b_Doctype_readAttributes 162 = .ok (.iconst (-1), 1) := by decide +kernel
theorem d_Doctype_readAttributes_163 : decode b_Doctype_readAttributes 163 = .ok (.istore 11, 2) := by decide +kernel
theorem d_Doctype_readAttributes_165 : decode b_Doctype_readAttributes 165 = .ok (.iload 10, 2) := by decide +kernel
theorem d_Doctype_readAttributes_167 : decode b_Doctype_readAttributes 167 = .ok (.iconst 2, 1) := by decide +kernel
theorem d_Doctype_readAttributes_168 : decode b_Doctype_readAttributes 168 = .ok (.if_icmp .lt 46, 3) := by decide +kernel
theorem d_Doctype_readAttributes_171 : decode b_Doctype_readAttributes 171 = .ok (.iload_n 1, 1) := by decide +kernel
theorem d_Doctype_readAttributes_172 : decode b_Doctype_readAttributes 172 = .ok (.ifCond .eq 42, 3) := by decide +kernel
theorem d_Doctype_readAttributes_175 : decode b_Doctype_readAttributes 175 = .ok (.aload_n 0, 1) := by decide +kernel
theorem d_Doctype_readAttributes_176 : decode b_Doctype_readAttributes 176 = .ok (.getfield 21, 3) := by decide +kernel
theorem d_Doctype_readAttributes_179 : decode b_Doctype_readAttributes 179 = .ok (.invokevirtual 214, 3) := by decide +kernel
theorem d_Doctype_readAttributes_182 : decode b_Doctype_readAttributes 182 = .ok (.istore 12, 2) := by decide +kernel
theorem d_Doctype_readAttributes_184 : decode b_Doctype_readAttributes 184 = .ok (.aload_n 0, 1) := by decide +kernel
theorem d_Doctype_readAttributes_185 : decode b_Doctype_readAttributes 185 = .ok (.getfield 17, 3) := by decide +kernel
theorem d_Doctype_readAttributes_188 : decode b_Doctype_readAttributes 188 = .ok (.getfield 140, 3) := by decide +kernel
theorem d_Doctype_readAttributes_191 : decode b_Doctype_readAttributes 191 = .ok (.ifCond .ne 17, 3) := by decide +kernel
theorem d_Doctype_readAttributes_194 : decode b_Doctype_readAttributes 194 = .ok (.aload_n 0, 1) := by decide +kernel
theorem d_Doctype_readAttributes_195 : decode b_Doctype_readAttributes 195 = .ok (.getfield 21, 3) := by decide +kernel
theorem d_Doctype_readAttributes_198 : decode b_Doctype_readAttributes 198 = .ok (.iload 12, 2) := by decide +kernel
theorem d_Doctype_readAttributes_200 : decode b_Doctype_readAttributes 200 = .ok (.iload 9, 2) := by decide +kernel
theorem d_Doctype_readAttributes_202 : decode b_Doctype_readAttributes 202 = .ok (.invokevirtual 217, 3) := by decide +kernel
theorem d_Doctype_readAttributes_205 : decode b_Doctype_readAttributes 205 = .ok (.goto 4, 3) := by decide +kernel
theorem d_Doctype_readAttributes_208 : decode b_Doctype_readAttributes 208 = .ok (.iconst (-1), 1) := by decide +kernel
theorem d_Doctype_readAttributes_209 : decode b_Doctype_readAttributes 209 = .ok (.istore 11, 2) := by decide +kernel
theorem d_Doctype_readAttributes_211 : decode b_Doctype_readAttributes 211 = .ok (.goto 16, 3) := by decide +kernel
theorem d_Doctype_readAttributes_214 : decode b_Doctype_readAttributes 214 = .ok (.iload 10, 2) := by decide +kernel
theorem d_Doctype_readAttributes_216 : decode b_Doctype_readAttributes 216 = .ok (.iconst 2, 1) := by decide +kernel
theorem d_Doctype_readAttributes_217 : decode b_Doctype_readAttributes 217 = .ok (.if_icmp .lt 10, 3) := by decide +kernel
theorem d_Doctype_readAttributes_220 : decode b_Doctype_readAttributes 220 = .ok (.aload_n 0, 1) := by decide +kernel
theorem d_Doctype_readAttributes_221 : decode b_Doctype_readAttributes 221 = .ok (.getfield 17, 3) := by decide +kernel
theorem d_Doctype_readAttributes_224 : decode b_Doctype_readAttributes 224 = .ok (.invokevirtual 220, 3) := by decide +kernel
theorem d_Doctype_readAttributes_227 : decode b_Doctype_readAttributes 227 = .ok (.iload_n 1, 1) := by decide +kernel
theorem d_Doctype_readAttributes_228 : decode b_Doctype_readAttributes 228 = .ok (.ifCond .eq 40, 3) := by decide +kernel
theorem d_Doctype_readAttributes_231 : decode b_Doctype_readAttributes 231 = .ok (.aload_n 0, 1) := by decide +kernel
theorem d_Doctype_readAttributes_232 : decode b_Doctype_readAttributes 232 = .ok (.getfield 17, 3) := by decide +kernel
theorem d_Doctype_readAttributes_235 : decode b_Doctype_readAttributes 235 = .ok (.getfield 140, 3) := by decide +kernel
theorem d_Doctype_readAttributes_238 : decode b_Doctype_readAttributes 238 = .ok (.ifCond .ne 30, 3) := by decide +kernel
theorem d_Doctype_readAttributes_241 : decode b_Doctype_readAttributes 241 = .ok (.aload_n 0, 1) := by decide +kernel
theorem d_Doctype_readAttributes_242 : decode b_Doctype_readAttributes 242 = .ok (.getfield 25, 3) := by decide +kernel
theorem d_Doctype_readAttributes_245 : decode b_Doctype_readAttributes 245 = .ok (.iload_n 3, 1) := by decide +kernel
theorem d_Doctype_readAttributes_246 : decode b_Doctype_readAttributes 246 = .ok (.aload_n 0, 1) := by decide +kernel
theorem d_Doctype_readAttributes_247 : decode b_Doctype_readAttributes 247 = .ok (.getfield 11, 3) := by decide +kernel
theorem d_Doctype_readAttributes_250 : decode b_Doctype_readAttributes 250 = .ok (.iload 6, 2) := by decide +kernel
theorem d_Doctype_readAttributes_252 : decode b_Doctype_readAttributes 252 = .ok (.iload 7, 2) := by decide +kernel
theorem d_Doctype_readAttributes_254 : decode b_Doctype_readAttributes 254 = .ok (.invokevirtual 96, 3) := by decide +kernel
theorem d_Doctype_readAttributes_257 : decode b_Doctype_readAttributes 257 = .ok (.iload 9, 2) := by decide +kernel
theorem d_Doctype_readAttributes_259 : decode b_Doctype_readAttributes 259 = .ok (.iload 10, 2) := by decide +kernel
theorem d_Doctype_readAttributes_261 : decode b_Doctype_readAttributes 261 = .ok (.iload 11, 2) := by decide +kernel
theorem d_Doctype_readAttributes_263 : decode b_Doctype_readAttributes 263 = .ok (.iload 8, 2) := by decide +kernel
theorem d_Doctype_readAttributes_265 : decode b_Doctype_readAttributes 265 = .ok (.invokevirtual 223, 3) := by decide +kernel
theorem d_Doctype_readAttributes_268 : decode b_Doctype_readAttributes 268 = .ok (.iinc 4 1, 3) := by decide +kernel
theorem d_Doctype_readAttributes_271 : decode b_Doctype_readAttributes 271 = .ok (.goto (-218), 3) := by decide +kernel
theorem d_Doctype_readAttributes_274 : decode b_Doctype_readAttributes 274 = .ok (.aload_n 0, 1) := by decide +kernel
theorem d_Doctype_readAttributes_275 : decode b_Doctype_readAttributes 275 = .ok (.getfield 17, 3) := by decide +kernel
theorem d_Doctype_readAttributes_278 : decode b_Doctype_readAttributes 278 = .ok (.iconst 5, 1) := by decide +kernel
theorem d_Doctype_readAttributes_279 : decode b_Doctype_readAttributes 279 = .ok (.invokevirtual 92, 3) := by decide +kernel
theorem d_Doctype_readAttributes_282 : decode b_Doctype_readAttributes 282 = .ok (.return_, 1) := by decide +kernel
/-- Doctype_readAttributes -/
def w_Doctype_readAttributes (L : Nat → Nat) (a1 : Int) (Q : IS → Prop) (σ : IS) : Prop := w_Reader_need L 1029 (fun σ1 => w_Reader_needSpace L  (fun σ3 => w_Reader_readName L  (fun v6 σ5 => WJ (fun (s9 : Int) (σ10 : IS) => WL (fun (K11 : Int → IS → Prop) (s13 : Int) (σ14 : IS) => if s13 < 1000000 ∧ ((σ14.1 2 4) = 0) then w_Reader_skipSpace L  (fun v16 σ15 => w_Reader_skip L 1025 (fun v18 σ17 => if v18 = 0 then WJ (fun (s22 : Unit) (σ23 : IS) => w_Reader_readName L  (fun v25 σ24 => inR ((σ24.1 2 2) - v25) ∧ w_Reader_needSpace L  (fun σ26 => w_Doctype_readType L a1 (fun v29 σ28 => w_Reader_needSpace L  (fun σ30 => w_Doctype_readHow L  (fun v33 σ32 => WJ (fun (s36 : Int) (σ37 : IS) => WJ (fun (s40 : Unit) (σ41 : IS) => inR (s13 + 1) ∧ K11 (s13 + 1) σ41) (fun J38 => if ¬ a1 = 0 ∧ ((σ37.1 2 4) = 0) then w_Store_intern L v25 ((σ24.1 2 2) - v25) (fun v44 σ43 => w_Declared_addAttribute L s9 v44 v29 v33 s36 (σ26.1 4 16) (fun σ45 => J38 () σ45) σ43) σ37 else J38 () σ37)) (fun J34 => if ¬ v33 < 2 ∧ (¬ a1 = 0) then w_Entities_readValue L  (fun v53 σ52 => WJ (fun (s56 : Int) (σ57 : IS) => J34 s56 σ57) (fun J54 => if (σ52.1 2 4) = 0 then w_Entities_keepValue L v53 v29 (fun v60 σ59 => J54 v60 σ59) σ52 else J54 (-1) σ52)) σ32 else if v33 < 2 then J34 (-1) σ32 else w_Reader_checkValue L  (fun σ62 => J34 (-1) σ62) σ32)) σ30) σ28) σ26) σ24) σ23) (fun J20 => if v16 = 0 then w_Reader_fail L 5 (fun σ71 => J20 () σ71) σ17 else J20 () σ17) else Q σ17) σ15) σ14 else w_Reader_fail L 5 (fun σ73 => Q σ73) σ14) 0 σ10) (fun J7 => if a1 = 0 then J7 (-1) σ5 else inR ((σ5.1 2 2) - v6) ∧ w_Store_intern L v6 ((σ5.1 2 2) - v6) (fun v82 σ81 => J7 v82 σ81) σ5)) σ3) σ1) σ
set_option maxHeartbeats 4000000 in
set_option maxRecDepth 20000 in
theorem s_Doctype_readAttributes {L : Nat → Nat} (hL : ∀ r, L r < 2147483648) {d : Nat} (hd : 4 ≤ d) {a1 : Int} {Q : IS → Prop} {σ : IS}  (h : w_Doctype_readAttributes L a1 Q σ) : OkI BF L d 5 b_Doctype_readAttributes 13 0 0 [] [some (.inr 5), some (.inl a1)] σ (qv Q) := by
  unfold w_Doctype_readAttributes at h
  obtain ⟨d, rfl⟩ : ∃ e, d = e + 1 := ⟨d - 1, by omega⟩
  refine k_sb (lv' := [some (.inr 5), some (.inl a1), none, none, none, none, none, none, none, none, none, none, none]) (sb_s (sb_s (sb_e (sb_e (sb_e (sb_e (sb_e (sb_e (sb_e (sb_e (sb_e (sb_e (sb_e sb_nil))))))))))))) ?_
  refine k_aload_n d_Doctype_readAttributes_0 rfl ?_
  refine k_getR d_Doctype_readAttributes_1 fl_5_17 ob_5 rfl ?_
  refine k_ldc d_Doctype_readAttributes_4 ks_5_135 rfl ?_
  refine k_cvv [.inr 1029] d_Doctype_readAttributes_6 ml_5_53 rfl rfl ob_2 rfl (s_Reader_need hL (by omega) it_1029 h) (fun σ1 h => ?_)
  refine k_aload_n d_Doctype_readAttributes_9 rfl ?_
  refine k_getR d_Doctype_readAttributes_10 fl_5_17 ob_5 rfl ?_
  refine k_cvv [] d_Doctype_readAttributes_13 ml_5_59 rfl rfl ob_2 rfl (s_Reader_needSpace hL (by omega)  h) (fun σ3 h => ?_)
  refine k_aload_n d_Doctype_readAttributes_16 rfl ?_
  refine k_getR d_Doctype_readAttributes_17 fl_5_17 ob_5 rfl ?_
  refine k_cvi [] d_Doctype_readAttributes_20 ml_5_62 rfl rfl ob_2 rfl (s_Reader_readName hL (by omega)  h) (fun v6 σ5 h => ?_)
  refine k_istore_n (lv' := [some (.inr 5), some (.inl a1), some (.inl v6), none, none, none, none, none, none, none, none, none, none]) d_Doctype_readAttributes_23 rfl rfl ?_
  refine k_iload_n d_Doctype_readAttributes_24 rfl ?_
  refine k_join (S := Int) (pc' := 49) (st' := fun s9 => [.inl s9]) (lv' := fun s9 => [some (.inr 5), some (.inl a1), none, none, none, none, none, none, none, none, none, none, none]) (fun s9 σ10 h => ?_) (fun J7 hJ8 h => ?_) h
  · refine k_istore_n (lv' := [some (.inr 5), some (.inl a1), none, some (.inl s9), none, none, none, none, none, none, none, none, none]) d_Doctype_readAttributes_49 rfl rfl ?_
    refine k_iconst d_Doctype_readAttributes_50 cI_0 ?_
    refine k_istore (lv' := [some (.inr 5), some (.inl a1), none, some (.inl s9), some (.inl 0), none, none, none, none, none, none, none, none]) d_Doctype_readAttributes_51 rfl rfl ?_
    refine k_sb (lv' := [some (.inr 5), some (.inl a1), none, some (.inl s9), some (.inl 0), none, none, none, none, none, none, none, none]) (sb_s (sb_s (sb_s (sb_s (sb_s (sb_s (sb_s (sb_s (sb_s (sb_s (sb_s (sb_s (sb_s sb_nil))))))))))))) ?_
    refine k_loop (S := Int) (st := fun _ => []) (lv := fun s13 => [some (.inr 5), some (.inl a1), none, some (.inl s9), some (.inl s13), none, none, none, none, none, none, none, none]) (fun K11 hK12 s13 σ14 h => ?_) 0 _ h
    refine k_iload d_Doctype_readAttributes_53 rfl ?_
    refine k_ldc d_Doctype_readAttributes_55 ks_5_191 cL_1000000 ?_
    have hX75 : (s13 < 1000000 ∧ ((σ14.1 2 4) = 0)) → OkI BF L (d + 1) 5 b_Doctype_readAttributes 13 0 70 [] [some (.inr 5), some (.inl a1), none, some (.inl s9), some (.inl s13), none, none, none, none, none, none, none, none] σ14 (qv Q) := fun e77 => by
      have h := ipos e77 h
      refine k_aload_n d_Doctype_readAttributes_70 rfl ?_
      refine k_getR d_Doctype_readAttributes_71 fl_5_17 ob_5 rfl ?_
      refine k_cvi [] d_Doctype_readAttributes_74 ml_5_69 rfl rfl ob_2 rfl (s_Reader_skipSpace hL (by omega)  h) (fun v16 σ15 h => ?_)
      refine k_istore (lv' := [some (.inr 5), some (.inl a1), none, some (.inl s9), some (.inl s13), some (.inl v16), none, none, none, none, none, none, none]) d_Doctype_readAttributes_77 rfl rfl ?_
      refine k_aload_n d_Doctype_readAttributes_79 rfl ?_
      refine k_getR d_Doctype_readAttributes_80 fl_5_17 ob_5 rfl ?_
      refine k_ldc d_Doctype_readAttributes_83 ks_5_90 rfl ?_
      refine k_cvi [.inr 1025] d_Doctype_readAttributes_85 ml_5_87 rfl rfl ob_2 rfl (s_Reader_skip hL (by omega) it_1025 h) (fun v18 σ17 h => ?_)
      refine k_ifeq d_Doctype_readAttributes_88 rfl (fun c19 => ?_) (fun c19 => ?_)
      · have h := ipos c19 h
        refine k_iload d_Doctype_readAttributes_92 rfl ?_
        refine k_join (S := Unit) (pc' := 105) (st' := fun s22 => []) (lv' := fun s22 => [some (.inr 5), some (.inl a1), none, some (.inl s9), some (.inl s13), none, none, none, none, none, none, none, none]) (fun s22 σ23 h => ?_) (fun J20 hJ21 h => ?_) h
        · refine k_aload_n d_Doctype_readAttributes_105 rfl ?_
          refine k_getR d_Doctype_readAttributes_106 fl_5_17 ob_5 rfl ?_
          refine k_cvi [] d_Doctype_readAttributes_109 ml_5_62 rfl rfl ob_2 rfl (s_Reader_readName hL (by omega)  h) (fun v25 σ24 h => ?_)
          refine k_istore (lv' := [some (.inr 5), some (.inl a1), none, some (.inl s9), some (.inl s13), none, some (.inl v25), none, none, none, none, none, none]) d_Doctype_readAttributes_112 rfl rfl ?_
          refine k_aload_n d_Doctype_readAttributes_114 rfl ?_
          refine k_getR d_Doctype_readAttributes_115 fl_5_17 ob_5 rfl ?_
          refine k_getI (x := (σ24.1 2 2)) d_Doctype_readAttributes_118 fl_5_66 ob_2 rfl rfl ?_
          refine k_iload d_Doctype_readAttributes_121 rfl ?_
          obtain ⟨p69, h⟩ := h
          refine k_isub d_Doctype_readAttributes_123 p69 ?_
          refine k_istore (lv' := [some (.inr 5), some (.inl a1), none, some (.inl s9), some (.inl s13), none, some (.inl v25), some (.inl ((σ24.1 2 2) - v25)), none, none, none, none, none]) d_Doctype_readAttributes_124 rfl rfl ?_
          refine k_aload_n d_Doctype_readAttributes_126 rfl ?_
          refine k_getR d_Doctype_readAttributes_127 fl_5_17 ob_5 rfl ?_
          refine k_cvv [] d_Doctype_readAttributes_130 ml_5_59 rfl rfl ob_2 rfl (s_Reader_needSpace hL (by omega)  h) (fun σ26 h => ?_)
          refine k_aload_n d_Doctype_readAttributes_133 rfl ?_
          refine k_getR d_Doctype_readAttributes_134 fl_5_25 ob_5 rfl ?_
          refine k_getI (x := (σ26.1 4 16)) d_Doctype_readAttributes_137 fl_5_204 ob_4 rfl rfl ?_
          refine k_istore (lv' := [some (.inr 5), some (.inl a1), none, some (.inl s9), some (.inl s13), none, some (.inl v25), some (.inl ((σ24.1 2 2) - v25)), some (.inl (σ26.1 4 16)), none, none, none, none]) d_Doctype_readAttributes_140 rfl rfl ?_
          refine k_aload_n d_Doctype_readAttributes_142 rfl ?_
          refine k_iload_n d_Doctype_readAttributes_143 rfl ?_
          refine k_cvi [.inl a1] d_Doctype_readAttributes_144 ml_5_207 rfl rfl ob_5 rfl (s_Doctype_readType hL (by omega)  h) (fun v29 σ28 h => ?_)
          refine k_istore (lv' := [some (.inr 5), some (.inl a1), none, some (.inl s9), some (.inl s13), none, some (.inl v25), some (.inl ((σ24.1 2 2) - v25)), some (.inl (σ26.1 4 16)), some (.inl v29), none, none, none]) d_Doctype_readAttributes_147 rfl rfl ?_
          refine k_aload_n d_Doctype_readAttributes_149 rfl ?_
          refine k_getR d_Doctype_readAttributes_150 fl_5_17 ob_5 rfl ?_
          refine k_cvv [] d_Doctype_readAttributes_153 ml_5_59 rfl rfl ob_2 rfl (s_Reader_needSpace hL (by omega)  h) (fun σ30 h => ?_)
          refine k_aload_n d_Doctype_readAttributes_156 rfl ?_
          refine k_cvi [] d_Doctype_readAttributes_157 ml_5_211 rfl rfl ob_5 rfl (s_Doctype_readHow hL (by omega)  h) (fun v33 σ32 h => ?_)
          refine k_istore (lv' := [some (.inr 5), some (.inl a1), none, some (.inl s9), some (.inl s13), none, some (.inl v25), some (.inl ((σ24.1 2 2) - v25)), some (.inl (σ26.1 4 16)), some (.inl v29), some (.inl v33), none, none]) d_Doctype_readAttributes_160 rfl rfl ?_
          refine k_iconst d_Doctype_readAttributes_162 cI_m1 ?_
          refine k_istore (lv' := [some (.inr 5), some (.inl a1), none, some (.inl s9), some (.inl s13), none, some (.inl v25), some (.inl ((σ24.1 2 2) - v25)), some (.inl (σ26.1 4 16)), some (.inl v29), some (.inl v33), some (.inl (-1)), none]) d_Doctype_readAttributes_163 rfl rfl ?_
          refine k_iload d_Doctype_readAttributes_165 rfl ?_
          refine k_iconst d_Doctype_readAttributes_167 cI_2 ?_
          refine k_join (S := Int) (pc' := 227) (st' := fun s36 => []) (lv' := fun s36 => [some (.inr 5), some (.inl a1), none, some (.inl s9), some (.inl s13), none, some (.inl v25), some (.inl ((σ24.1 2 2) - v25)), some (.inl (σ26.1 4 16)), some (.inl v29), some (.inl v33), some (.inl s36), none]) (fun s36 σ37 h => ?_) (fun J34 hJ35 h => ?_) h
          · refine k_iload_n d_Doctype_readAttributes_227 rfl ?_
            refine k_join (S := Unit) (pc' := 268) (st' := fun s40 => []) (lv' := fun s40 => [some (.inr 5), some (.inl a1), none, some (.inl s9), some (.inl s13), none, none, none, none, none, none, none, none]) (fun s40 σ41 h => ?_) (fun J38 hJ39 h => ?_) h
            · obtain ⟨p42, h⟩ := h
              refine k_iinc (lv' := [some (.inr 5), some (.inl a1), none, some (.inl s9), some (.inl (s13 + 1)), none, none, none, none, none, none, none, none]) d_Doctype_readAttributes_268 cI_1 rfl rfl p42 rfl ?_
              refine k_goto d_Doctype_readAttributes_271 rfl ?_
              exact k_sb (sb_s (sb_s (sb_s (sb_s (sb_s (sb_s (sb_s (sb_s (sb_s (sb_s (sb_s (sb_s (sb_s sb_nil))))))))))))) (hK12 (s13 + 1) _ h)
            · have hX47 : (¬ a1 = 0 ∧ ((σ37.1 2 4) = 0)) → OkI BF L (d + 1) 5 b_Doctype_readAttributes 13 0 241 [] [some (.inr 5), some (.inl a1), none, some (.inl s9), some (.inl s13), none, some (.inl v25), some (.inl ((σ24.1 2 2) - v25)), some (.inl (σ26.1 4 16)), some (.inl v29), some (.inl v33), some (.inl s36), none] σ37 (qv Q) := fun e49 => by
                have h := ipos e49 h
                refine k_aload_n d_Doctype_readAttributes_241 rfl ?_
                refine k_getR d_Doctype_readAttributes_242 fl_5_25 ob_5 rfl ?_
                refine k_iload_n d_Doctype_readAttributes_245 rfl ?_
                refine k_aload_n d_Doctype_readAttributes_246 rfl ?_
                refine k_getR d_Doctype_readAttributes_247 fl_5_11 ob_5 rfl ?_
                refine k_iload d_Doctype_readAttributes_250 rfl ?_
                refine k_iload d_Doctype_readAttributes_252 rfl ?_
                refine k_cvi [.inl v25, .inl ((σ24.1 2 2) - v25)] d_Doctype_readAttributes_254 ml_5_96 rfl rfl ob_1 rfl (s_Store_intern hL (by omega) stB_BF h) (fun v44 σ43 h => ?_)
                refine k_iload d_Doctype_readAttributes_257 rfl ?_
                refine k_iload d_Doctype_readAttributes_259 rfl ?_
                refine k_iload d_Doctype_readAttributes_261 rfl ?_
                refine k_iload d_Doctype_readAttributes_263 rfl ?_
                refine k_cvv [.inl s9, .inl v44, .inl v29, .inl v33, .inl s36, .inl (σ26.1 4 16)] d_Doctype_readAttributes_265 ml_5_223 rfl rfl ob_4 rfl (s_Declared_addAttribute hL (by omega)  h) (fun σ45 h => ?_)
                exact k_sb (sb_s (sb_s (sb_s (sb_s (sb_s (sb_s (sb_n (sb_n (sb_n (sb_n (sb_n (sb_n (sb_s sb_nil))))))))))))) (hJ39 () _ h)
              have hY48 : ¬ (¬ a1 = 0 ∧ ((σ37.1 2 4) = 0)) → OkI BF L (d + 1) 5 b_Doctype_readAttributes 13 0 268 [] [some (.inr 5), some (.inl a1), none, some (.inl s9), some (.inl s13), none, some (.inl v25), some (.inl ((σ24.1 2 2) - v25)), some (.inl (σ26.1 4 16)), some (.inl v29), some (.inl v33), some (.inl s36), none] σ37 (qv Q) := fun e49 => by
                have h := ineg e49 h
                exact k_sb (sb_s (sb_s (sb_s (sb_s (sb_s (sb_s (sb_n (sb_n (sb_n (sb_n (sb_n (sb_n (sb_s sb_nil))))))))))))) (hJ39 () _ h)
              refine k_ifeq d_Doctype_readAttributes_228 rfl (fun c50 => ?_) (fun c50 => ?_)
              · exact hY48 (fun z => z.1 c50)
              · refine k_aload_n d_Doctype_readAttributes_231 rfl ?_
                refine k_getR d_Doctype_readAttributes_232 fl_5_17 ob_5 rfl ?_
                refine k_getI (x := (σ37.1 2 4)) d_Doctype_readAttributes_235 fl_5_140 ob_2 rfl rfl ?_
                refine k_ifne d_Doctype_readAttributes_238 rfl (fun c51 => ?_) (fun c51 => ?_)
                · exact hY48 (fun z => (c51) z.2)
                · exact hX47 (⟨c50, c51⟩)
          · have hX64 : (¬ v33 < 2 ∧ (¬ a1 = 0)) → OkI BF L (d + 1) 5 b_Doctype_readAttributes 13 0 175 [] [some (.inr 5), some (.inl a1), none, some (.inl s9), some (.inl s13), none, some (.inl v25), some (.inl ((σ24.1 2 2) - v25)), some (.inl (σ26.1 4 16)), some (.inl v29), some (.inl v33), some (.inl (-1)), none] σ32 (qv Q) := fun e66 => by
              have h := ipos e66 h
              refine k_aload_n d_Doctype_readAttributes_175 rfl ?_
              refine k_getR d_Doctype_readAttributes_176 fl_5_21 ob_5 rfl ?_
              refine k_cvi [] d_Doctype_readAttributes_179 ml_5_214 rfl rfl ob_3 rfl (s_Entities_readValue hL (by omega)  h) (fun v53 σ52 h => ?_)
              refine k_istore (lv' := [some (.inr 5), some (.inl a1), none, some (.inl s9), some (.inl s13), none, some (.inl v25), some (.inl ((σ24.1 2 2) - v25)), some (.inl (σ26.1 4 16)), some (.inl v29), some (.inl v33), some (.inl (-1)), some (.inl v53)]) d_Doctype_readAttributes_182 rfl rfl ?_
              refine k_aload_n d_Doctype_readAttributes_184 rfl ?_
              refine k_getR d_Doctype_readAttributes_185 fl_5_17 ob_5 rfl ?_
              refine k_getI (x := (σ52.1 2 4)) d_Doctype_readAttributes_188 fl_5_140 ob_2 rfl rfl ?_
              refine k_join (S := Int) (pc' := 209) (st' := fun s56 => [.inl s56]) (lv' := fun s56 => [some (.inr 5), some (.inl a1), none, some (.inl s9), some (.inl s13), none, some (.inl v25), some (.inl ((σ24.1 2 2) - v25)), some (.inl (σ26.1 4 16)), some (.inl v29), some (.inl v33), none, none]) (fun s56 σ57 h => ?_) (fun J54 hJ55 h => ?_) h
              · refine k_istore (lv' := [some (.inr 5), some (.inl a1), none, some (.inl s9), some (.inl s13), none, some (.inl v25), some (.inl ((σ24.1 2 2) - v25)), some (.inl (σ26.1 4 16)), some (.inl v29), some (.inl v33), some (.inl s56), none]) d_Doctype_readAttributes_209 rfl rfl ?_
                refine k_goto d_Doctype_readAttributes_211 rfl ?_
                exact k_sb (sb_s (sb_s (sb_s (sb_s (sb_s (sb_s (sb_s (sb_s (sb_s (sb_s (sb_s (sb_s (sb_s sb_nil))))))))))))) (hJ35 s56 _ h)
              · refine k_ifne d_Doctype_readAttributes_191 rfl (fun c58 => ?_) (fun c58 => ?_)
                · have h := ineg c58 h
                  refine k_iconst d_Doctype_readAttributes_208 cI_m1 ?_
                  exact k_sb (sb_s (sb_s (sb_s (sb_s (sb_s (sb_s (sb_s (sb_s (sb_s (sb_s (sb_s (sb_n (sb_n sb_nil))))))))))))) (hJ55 (-1) _ h)
                · have h := ipos c58 h
                  refine k_aload_n d_Doctype_readAttributes_194 rfl ?_
                  refine k_getR d_Doctype_readAttributes_195 fl_5_21 ob_5 rfl ?_
                  refine k_iload d_Doctype_readAttributes_198 rfl ?_
                  refine k_iload d_Doctype_readAttributes_200 rfl ?_
                  refine k_cvi [.inl v53, .inl v29] d_Doctype_readAttributes_202 ml_5_217 rfl rfl ob_3 rfl (s_Entities_keepValue hL (by omega)  h) (fun v60 σ59 h => ?_)
                  refine k_goto d_Doctype_readAttributes_205 rfl ?_
                  exact k_sb (sb_s (sb_s (sb_s (sb_s (sb_s (sb_s (sb_s (sb_s (sb_s (sb_s (sb_s (sb_n (sb_n sb_nil))))))))))))) (hJ55 v60 _ h)
            have hY65 : ¬ (¬ v33 < 2 ∧ (¬ a1 = 0)) → OkI BF L (d + 1) 5 b_Doctype_readAttributes 13 0 214 [] [some (.inr 5), some (.inl a1), none, some (.inl s9), some (.inl s13), none, some (.inl v25), some (.inl ((σ24.1 2 2) - v25)), some (.inl (σ26.1 4 16)), some (.inl v29), some (.inl v33), some (.inl (-1)), none] σ32 (qv Q) := fun e66 => by
              have h := ineg e66 h
              refine k_iload d_Doctype_readAttributes_214 rfl ?_
              refine k_iconst d_Doctype_readAttributes_216 cI_2 ?_
              refine k_iclt d_Doctype_readAttributes_217 rfl (fun c61 => ?_) (fun c61 => ?_)
              · have h := ipos c61 h
                exact k_sb (sb_s (sb_s (sb_s (sb_s (sb_s (sb_s (sb_s (sb_s (sb_s (sb_s (sb_s (sb_s (sb_s sb_nil))))))))))))) (hJ35 (-1) _ h)
              · have h := ineg c61 h
                refine k_aload_n d_Doctype_readAttributes_220 rfl ?_
                refine k_getR d_Doctype_readAttributes_221 fl_5_17 ob_5 rfl ?_
                refine k_cvv [] d_Doctype_readAttributes_224 ml_5_220 rfl rfl ob_2 rfl (s_Reader_checkValue hL (by omega)  h) (fun σ62 h => ?_)
                exact k_sb (sb_s (sb_s (sb_s (sb_s (sb_s (sb_s (sb_s (sb_s (sb_s (sb_s (sb_s (sb_s (sb_s sb_nil))))))))))))) (hJ35 (-1) _ h)
            refine k_iclt d_Doctype_readAttributes_168 rfl (fun c67 => ?_) (fun c67 => ?_)
            · exact hY65 (fun z => z.1 c67)
            · refine k_iload_n d_Doctype_readAttributes_171 rfl ?_
              refine k_ifeq d_Doctype_readAttributes_172 rfl (fun c68 => ?_) (fun c68 => ?_)
              · exact hY65 (fun z => (fun z => z c68) z.2)
              · exact hX64 (⟨c67, c68⟩)
        · refine k_ifne d_Doctype_readAttributes_94 rfl (fun c70 => ?_) (fun c70 => ?_)
          · have h := ineg c70 h
            exact k_sb (sb_s (sb_s (sb_s (sb_s (sb_s (sb_n (sb_s (sb_s (sb_s (sb_s (sb_s (sb_s (sb_s sb_nil))))))))))))) (hJ21 () _ h)
          · have h := ipos c70 h
            refine k_aload_n d_Doctype_readAttributes_97 rfl ?_
            refine k_getR d_Doctype_readAttributes_98 fl_5_17 ob_5 rfl ?_
            refine k_iconst d_Doctype_readAttributes_101 cI_5 ?_
            refine k_cvv [.inl 5] d_Doctype_readAttributes_102 ml_5_92 rfl rfl ob_2 rfl (s_Reader_fail hL (by omega)  h) (fun σ71 h => ?_)
            exact k_sb (sb_s (sb_s (sb_s (sb_s (sb_s (sb_n (sb_s (sb_s (sb_s (sb_s (sb_s (sb_s (sb_s sb_nil))))))))))))) (hJ21 () _ h)
      · have h := ineg c19 h
        exact k_ret d_Doctype_readAttributes_91 h
    have hY76 : ¬ (s13 < 1000000 ∧ ((σ14.1 2 4) = 0)) → OkI BF L (d + 1) 5 b_Doctype_readAttributes 13 0 274 [] [some (.inr 5), some (.inl a1), none, some (.inl s9), some (.inl s13), none, none, none, none, none, none, none, none] σ14 (qv Q) := fun e77 => by
      have h := ineg e77 h
      refine k_aload_n d_Doctype_readAttributes_274 rfl ?_
      refine k_getR d_Doctype_readAttributes_275 fl_5_17 ob_5 rfl ?_
      refine k_iconst d_Doctype_readAttributes_278 cI_5 ?_
      refine k_cvv [.inl 5] d_Doctype_readAttributes_279 ml_5_92 rfl rfl ob_2 rfl (s_Reader_fail hL (by omega)  h) (fun σ73 h => ?_)
      exact k_ret d_Doctype_readAttributes_282 h
    refine k_icge d_Doctype_readAttributes_57 rfl (fun c78 => ?_) (fun c78 => ?_)
    · exact hY76 (fun z => c78 z.1)
    · refine k_aload_n d_Doctype_readAttributes_60 rfl ?_
      refine k_getR d_Doctype_readAttributes_61 fl_5_17 ob_5 rfl ?_
      refine k_getI (x := (σ14.1 2 4)) d_Doctype_readAttributes_64 fl_5_140 ob_2 rfl rfl ?_
      refine k_ifne d_Doctype_readAttributes_67 rfl (fun c79 => ?_) (fun c79 => ?_)
      · exact hY76 (fun z => (c79) z.2)
      · exact hX75 (⟨c78, c79⟩)
  · refine k_ifeq d_Doctype_readAttributes_25 rfl (fun c80 => ?_) (fun c80 => ?_)
    · have h := ipos c80 h
      refine k_iconst d_Doctype_readAttributes_48 cI_m1 ?_
      exact k_sb (sb_s (sb_s (sb_n (sb_s (sb_s (sb_s (sb_s (sb_s (sb_s (sb_s (sb_s (sb_s (sb_s sb_nil))))))))))))) (hJ8 (-1) _ h)
    · have h := ineg c80 h
      refine k_aload_n d_Doctype_readAttributes_28 rfl ?_
      refine k_getR d_Doctype_readAttributes_29 fl_5_11 ob_5 rfl ?_
      refine k_iload_n d_Doctype_readAttributes_32 rfl ?_
      refine k_aload_n d_Doctype_readAttributes_33 rfl ?_
      refine k_getR d_Doctype_readAttributes_34 fl_5_17 ob_5 rfl ?_
      refine k_getI (x := (σ5.1 2 2)) d_Doctype_readAttributes_37 fl_5_66 ob_2 rfl rfl ?_
      refine k_iload_n d_Doctype_readAttributes_40 rfl ?_
      obtain ⟨p83, h⟩ := h
      refine k_isub d_Doctype_readAttributes_41 p83 ?_
      refine k_cvi [.inl v6, .inl ((σ5.1 2 2) - v6)] d_Doctype_readAttributes_42 ml_5_96 rfl rfl ob_1 rfl (s_Store_intern hL (by omega) stB_BF h) (fun v82 σ81 h => ?_)
      refine k_goto d_Doctype_readAttributes_45 rfl ?_
      exact k_sb (sb_s (sb_s (sb_n (sb_s (sb_s (sb_s (sb_s (sb_s (sb_s (sb_s (sb_s (sb_s (sb_s sb_nil))))))))))))) (hJ8 v82 _ h)
theorem d_Reader_readLiteral_0 : decode b_Reader_readLiteral 0 = .ok (.aload_n 0, 1) := by decide +kernel
theorem d_Reader_readLiteral_1 : decode b_Reader_readLiteral 1 = .ok (.invokevirtual 152, 3) := by decide +kernel
theorem d_Reader_readLiteral_4 : decode b_Reader_readLiteral 4 = .ok (.istore_n 1, 1) := by decide +kernel
theorem d_Reader_readLiteral_5 : decode b_Reader_readLiteral 5 = .ok (.iload_n 1, 1) := by decide +kernel
theorem d_Reader_readLiteral_6 : decode b_Reader_readLiteral 6 = .ok (.bipush 34, 2) := by decide +kernel
theorem d_Reader_readLiteral_8 : decode b_Reader_readLiteral 8 = .ok (.if_icmp .eq 15, 3) := by decide +kernel
theorem d_Reader_readLiteral_11 : decode b_Reader_readLiteral 11 = .ok (.iload_n 1, 1) := by decide +kernel
theorem d_Reader_readLiteral_12 : decode b_Reader_readLiteral 12 = .ok (.bipush 39, 2) := by decide +kernel
theorem d_Reader_readLiteral_14 : decode b_Reader_readLiteral 14 = .ok (.if_icmp .eq 9, 3) := by decide +kernel
theorem d_Reader_readLiteral_17 : decode b_Reader_readLiteral 17 = .ok (.aload_n 0, 1) := by decide +kernel
theorem d_Reader_readLiteral_18 : decode b_Reader_readLiteral 18 = .ok (.iconst 5, 1) := by decide +kernel
theorem d_Reader_readLiteral_19 : decode b_Reader_readLiteral 19 = .ok (.invokevirtual 66, 3) := by decide +kernel
theorem d_Reader_readLiteral_22 : decode b_Reader_readLiteral 22 = .ok (.return_, 1) := by decide +kernel
theorem d_Reader_readLiteral_23 : decode b_Reader_readLiteral 23 = .ok (.aload_n 0, 1) := by decide +kernel
theorem d_Reader_readLiteral_24 : decode b_Reader_readLiteral 24 = .ok (.aload_n 0, 1) := by decide +kernel
theorem d_Reader_readLiteral_25 : decode b_Reader_readLiteral 25 = .ok (.getfield 26, 3) := by decide +kernel
theorem d_Reader_readLiteral_28 : decode b_Reader_readLiteral 28 = .ok (.iconst 1, 1) := by decide +kernel
theorem d_Reader_readLiteral_29 : decode b_Reader_readLiteral 29 = .ok (.iadd, 1) := by decide +kernel
theorem d_Reader_readLiteral_30 : decode b_Reader_readLiteral 30 = .ok (.putfield 116, 3) := by decide +kernel
theorem d_Reader_readLiteral_33 : decode b_Reader_readLiteral 33 = .ok (.aload_n 0, 1) := by decide +kernel
theorem d_Reader_readLiteral_34 : decode b_Reader_readLiteral 34 = .ok (.getfield 116, 3) := by decide +kernel
theorem d_Reader_readLiteral_37 : decode b_Reader_readLiteral 37 = .ok (.istore_n 2, 1) := by decide +kernel
theorem d_Reader_readLiteral_38 : decode b_Reader_readLiteral 38 = .ok (.iload_n 2, 1) := by decide +kernel
theorem d_Reader_readLiteral_39 : decode b_Reader_readLiteral 39 = .ok (.aload_n 0, 1) := by decide +kernel
theorem d_Reader_readLiteral_40 : decode b_Reader_readLiteral 40 = .ok (.getfield 32, 3) := by decide +kernel
theorem d_Reader_readLiteral_43 : decode b_Reader_readLiteral 43 = .ok (.if_icmp .ge 37, 3) := by decide +kernel
theorem d_Reader_readLiteral_46 : decode b_Reader_readLiteral 46 = .ok (.aload_n 0, 1) := by decide +kernel
theorem d_Reader_readLiteral_47 : decode b_Reader_readLiteral 47 = .ok (.getfield 21, 3) := by decide +kernel
theorem d_Reader_readLiteral_50 : decode b_Reader_readLiteral 50 = .ok (.iload_n 2, 1) := by decide +kernel
theorem d_Reader_readLiteral_51 : decode b_Reader_readLiteral 51 = .ok (.iaload, 1) := by decide +kernel
theorem d_Reader_readLiteral_52 : decode b_Reader_readLiteral 52 = .ok (.iload_n 1, 1) := by decide +kernel
theorem d_Reader_readLiteral_53 : decode b_Reader_readLiteral 53 = .ok (.if_icmp .ne 21, 3) := by decide +kernel
theorem d_Reader_readLiteral_56 : decode b_Reader_readLiteral 56 = .ok (.aload_n 0, 1) := by decide +kernel
theorem d_Reader_readLiteral_57 : decode b_Reader_readLiteral 57 = .ok (.iload_n 2, 1) := by decide +kernel
theorem d_Reader_readLiteral_58 : decode b_Reader_readLiteral 58 = .ok (.aload_n 0, 1) := by decide +kernel
theorem d_Reader_readLiteral_59 : decode b_Reader_readLiteral 59 = .ok (.getfield 116, 3) := by decide +kernel
theorem d_Reader_readLiteral_62 : decode b_Reader_readLiteral 62 = .ok (.isub, 1) := by decide +kernel
theorem d_Reader_readLiteral_63 : decode b_Reader_readLiteral 63 = .ok (.putfield 119, 3) := by decide +kernel
theorem d_Reader_readLiteral_66 : decode b_Reader_readLiteral 66 = .ok (.aload_n 0, 1) := by decide +kernel
theorem d_Reader_readLiteral_67 : decode b_Reader_readLiteral 67 = .ok (.iload_n 2, 1) := by decide +kernel
theorem d_Reader_readLiteral_68 : decode b_Reader_readLiteral 68 = .ok (.iconst 1, 1) := by decide +kernel
theorem d_Reader_readLiteral_69 : decode b_Reader_readLiteral 69 = .ok (.iadd, 1) := by decide +kernel
theorem d_Reader_readLiteral_70 : decode b_Reader_readLiteral 70 = .ok (.putfield 26, 3) := by decide +kernel
theorem d_Reader_readLiteral_73 : decode b_Reader_readLiteral 73 = .ok (.return_, 1) := by decide +kernel
theorem d_Reader_readLiteral_74 : decode b_Reader_readLiteral 74 = .ok (.iinc 2 1, 3) := by decide +kernel
theorem d_Reader_readLiteral_77 : decode b_Reader_readLiteral 77 = .ok (.goto (-39), 3) := by decide +kernel
theorem d_Reader_readLiteral_80 : decode b_Reader_readLiteral 80 = .ok (.aload_n 0, 1) := by decide +kernel
theorem d_Reader_readLiteral_81 : decode b_Reader_readLiteral 81 = .ok (.iconst 5, 1) := by decide +kernel
theorem d_Reader_readLiteral_82 : decode b_Reader_readLiteral 82 = .ok (.invokevirtual 66, 3) := by decide +kernel
theorem d_Reader_readLiteral_85 : decode b_Reader_readLiteral 85 = .ok (.return_, 1) := by decide +kernel
/-- Reader_readLiteral -/
def w_Reader_readLiteral (L : Nat → Nat)  (Q : IS → Prop) (σ : IS) : Prop := w_Reader_peek L  (fun v2 σ1 => if ¬ v2 = 34 ∧ (¬ v2 = 39) then w_Reader_fail L 5 (fun σ3 => Q σ3) σ1 else inR ((σ1.1 2 2) + 1) ∧ WL (fun (K5 : Int → IS → Prop) (s7 : Int) (σ8 : IS) => if s7 < (σ8.1 2 3) then inL L 101 s7 ∧ if (σ8.2 101 (Int.toNat s7)) = v2 then inR (s7 - (σ8.1 2 10)) ∧ inR (s7 + 1) ∧ Q (pf (pf σ8 2 11 (s7 - (σ8.1 2 10))) 2 2 (s7 + 1)) else inR (s7 + 1) ∧ K5 (s7 + 1) σ8 else w_Reader_fail L 5 (fun σ10 => Q σ10) σ8) ((σ1.1 2 2) + 1) (pf σ1 2 10 ((σ1.1 2 2) + 1))) σ
set_option maxHeartbeats 4000000 in
set_option maxRecDepth 20000 in
theorem s_Reader_readLiteral {L : Nat → Nat} (hL : ∀ r, L r < 2147483648) {d : Nat} (hd : 1 ≤ d)  {Q : IS → Prop} {σ : IS}  (h : w_Reader_readLiteral L  Q σ) : OkI BF L d 2 b_Reader_readLiteral 3 0 0 [] [some (.inr 2)] σ (qv Q) := by
  unfold w_Reader_readLiteral at h
  obtain ⟨d, rfl⟩ : ∃ e, d = e + 1 := ⟨d - 1, by omega⟩
  refine k_sb (lv' := [some (.inr 2), none, none]) (sb_s (sb_e (sb_e sb_nil))) ?_
  refine k_aload_n d_Reader_readLiteral_0 rfl ?_
  refine k_cvi [] d_Reader_readLiteral_1 ml_2_152 rfl rfl ob_2 rfl (s_Reader_peek hL (by omega)  h) (fun v2 σ1 h => ?_)
  refine k_istore_n (lv' := [some (.inr 2), some (.inl v2), none]) d_Reader_readLiteral_4 rfl rfl ?_
  refine k_iload_n d_Reader_readLiteral_5 rfl ?_
  refine k_bipush d_Reader_readLiteral_6 cB_34 ?_
  have hX18 : (¬ v2 = 34 ∧ (¬ v2 = 39)) → OkI BF L (d + 1) 2 b_Reader_readLiteral 3 0 17 [] [some (.inr 2), some (.inl v2), none] σ1 (qv Q) := fun e20 => by
    have h := ipos e20 h
    refine k_aload_n d_Reader_readLiteral_17 rfl ?_
    refine k_iconst d_Reader_readLiteral_18 cI_5 ?_
    refine k_cvv [.inl 5] d_Reader_readLiteral_19 ml_2_66 rfl rfl ob_2 rfl (s_Reader_fail hL (by omega)  h) (fun σ3 h => ?_)
    exact k_ret d_Reader_readLiteral_22 h
  have hY19 : ¬ (¬ v2 = 34 ∧ (¬ v2 = 39)) → OkI BF L (d + 1) 2 b_Reader_readLiteral 3 0 23 [] [some (.inr 2), some (.inl v2), none] σ1 (qv Q) := fun e20 => by
    have h := ineg e20 h
    refine k_aload_n d_Reader_readLiteral_23 rfl ?_
    refine k_aload_n d_Reader_readLiteral_24 rfl ?_
    refine k_getI (x := (σ1.1 2 2)) d_Reader_readLiteral_25 fl_2_26 ob_2 rfl rfl ?_
    refine k_iconst d_Reader_readLiteral_28 cI_1 ?_
    obtain ⟨p17, h⟩ := h
    refine k_iadd d_Reader_readLiteral_29 p17 ?_
    refine k_putI d_Reader_readLiteral_30 fl_2_116 ob_2 rfl ?_
    refine k_aload_n d_Reader_readLiteral_33 rfl ?_
    refine k_getI (x := ((σ1.1 2 2) + 1)) d_Reader_readLiteral_34 fl_2_116 ob_2 rfl rfl ?_
    refine k_istore_n (lv' := [some (.inr 2), some (.inl v2), some (.inl ((σ1.1 2 2) + 1))]) d_Reader_readLiteral_37 rfl rfl ?_
    refine k_sb (lv' := [some (.inr 2), some (.inl v2), some (.inl ((σ1.1 2 2) + 1))]) (sb_s (sb_s (sb_s sb_nil))) ?_
    refine k_loop (S := Int) (st := fun _ => []) (lv := fun s7 => [some (.inr 2), some (.inl v2), some (.inl s7)]) (fun K5 hK6 s7 σ8 h => ?_) ((σ1.1 2 2) + 1) _ h
    refine k_iload_n d_Reader_readLiteral_38 rfl ?_
    refine k_aload_n d_Reader_readLiteral_39 rfl ?_
    refine k_getI (x := (σ8.1 2 3)) d_Reader_readLiteral_40 fl_2_32 ob_2 rfl rfl ?_
    refine k_icge d_Reader_readLiteral_43 rfl (fun c9 => ?_) (fun c9 => ?_)
    · have h := ineg c9 h
      refine k_aload_n d_Reader_readLiteral_80 rfl ?_
      refine k_iconst d_Reader_readLiteral_81 cI_5 ?_
      refine k_cvv [.inl 5] d_Reader_readLiteral_82 ml_2_66 rfl rfl ob_2 rfl (s_Reader_fail hL (by omega)  h) (fun σ10 h => ?_)
      exact k_ret d_Reader_readLiteral_85 h
    · have h := ipos c9 h
      refine k_aload_n d_Reader_readLiteral_46 rfl ?_
      refine k_getR d_Reader_readLiteral_47 fl_2_21 ob_2 rfl ?_
      refine k_iload_n d_Reader_readLiteral_50 rfl ?_
      obtain ⟨p16, h⟩ := h
      refine k_ild (x := (σ8.2 101 (Int.toNat s7))) d_Reader_readLiteral_51 rI_101 p16 rfl ?_
      refine k_iload_n d_Reader_readLiteral_52 rfl ?_
      refine k_icne d_Reader_readLiteral_53 rfl (fun c12 => ?_) (fun c12 => ?_)
      · have h := ineg c12 h
        obtain ⟨p13, h⟩ := h
        refine k_iinc (lv' := [some (.inr 2), some (.inl v2), some (.inl (s7 + 1))]) d_Reader_readLiteral_74 cI_1 rfl rfl p13 rfl ?_
        refine k_goto d_Reader_readLiteral_77 rfl ?_
        exact k_sb (sb_s (sb_s (sb_s sb_nil))) (hK6 (s7 + 1) _ h)
      · have h := ipos c12 h
        refine k_aload_n d_Reader_readLiteral_56 rfl ?_
        refine k_iload_n d_Reader_readLiteral_57 rfl ?_
        refine k_aload_n d_Reader_readLiteral_58 rfl ?_
        refine k_getI (x := (σ8.1 2 10)) d_Reader_readLiteral_59 fl_2_116 ob_2 rfl rfl ?_
        obtain ⟨p15, h⟩ := h
        refine k_isub d_Reader_readLiteral_62 p15 ?_
        refine k_putI d_Reader_readLiteral_63 fl_2_119 ob_2 rfl ?_
        refine k_aload_n d_Reader_readLiteral_66 rfl ?_
        refine k_iload_n d_Reader_readLiteral_67 rfl ?_
        refine k_iconst d_Reader_readLiteral_68 cI_1 ?_
        obtain ⟨p14, h⟩ := h
        refine k_iadd d_Reader_readLiteral_69 p14 ?_
        refine k_putI d_Reader_readLiteral_70 fl_2_26 ob_2 rfl ?_
        exact k_ret d_Reader_readLiteral_73 h
  refine k_iceq d_Reader_readLiteral_8 rfl (fun c21 => ?_) (fun c21 => ?_)
  · exact hY19 (fun z => z.1 c21)
  · refine k_iload_n d_Reader_readLiteral_11 rfl ?_
    refine k_bipush d_Reader_readLiteral_12 cB_39 ?_
    refine k_iceq d_Reader_readLiteral_14 rfl (fun c22 => ?_) (fun c22 => ?_)
    · exact hY19 (fun z => (fun z => z c22) z.2)
    · exact hX18 (⟨c21, c22⟩)
