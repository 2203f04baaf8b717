theorem d_KReader_subsetItem_0 : decode b_KReader_subsetItem 0 = .ok (.aload_n 0, 1) := by decide +kernel
theorem d_KReader_subsetItem_1 : decode b_KReader_subsetItem 1 = .ok (.aload_n 0, 1) := by decide +kernel
theorem d_KReader_subsetItem_2 : decode b_KReader_subsetItem 2 = .ok (.getfield 379, 3) := by decide +kernel
theorem d_KReader_subsetItem_5 : decode b_KReader_subsetItem 5 = .ok (.invokevirtual 282, 3) := by decide +kernel
theorem d_KReader_subsetItem_8 : decode b_KReader_subsetItem 8 = .ok (.invokestatic 294, 3) := by decide +kernel
theorem d_KReader_subsetItem_11 : decode b_KReader_subsetItem 11 = .ok (.ifCond .eq 18, 3) := by decide +kernel
theorem d_KReader_subsetItem_14 : decode b_KReader_subsetItem 14 = .ok (.aload_n 0, 1) := by decide +kernel
theorem d_KReader_subsetItem_15 : decode b_KReader_subsetItem 15 = .ok (.aload_n 0, 1) := by decide +kernel
theorem d_KReader_subsetItem_16 : decode b_KReader_subsetItem 16 = .ok (.aload_n 0, 1) := by decide +kernel
theorem d_KReader_subsetItem_17 : decode b_KReader_subsetItem 17 = .ok (.getfield 379, 3) := by decide +kernel
theorem d_KReader_subsetItem_20 : decode b_KReader_subsetItem 20 = .ok (.invokevirtual 297, 3) := by decide +kernel
theorem d_KReader_subsetItem_23 : decode b_KReader_subsetItem 23 = .ok (.putfield 379, 3) := by decide +kernel
theorem d_KReader_subsetItem_26 : decode b_KReader_subsetItem 26 = .ok (.goto 217, 3) := by decide +kernel
theorem d_KReader_subsetItem_29 : decode b_KReader_subsetItem 29 = .ok (.aload_n 0, 1) := by decide +kernel
theorem d_KReader_subsetItem_30 : decode b_KReader_subsetItem 30 = .ok (.aload_n 0, 1) := by decide +kernel
theorem d_KReader_subsetItem_31 : decode b_KReader_subsetItem 31 = .ok (.getfield 379, 3) := by decide +kernel
theorem d_KReader_subsetItem_34 : decode b_KReader_subsetItem 34 = .ok (.ldc_w 407, 3) := by decide +kernel
theorem d_KReader_subsetItem_37 : decode b_KReader_subsetItem 37 = .ok (.invokevirtual 290, 3) := by decide +kernel
theorem d_KReader_subsetItem_40 : decode b_KReader_subsetItem 40 = .ok (.ifCond .eq 10, 3) := by decide +kernel
theorem d_KReader_subsetItem_43 : decode b_KReader_subsetItem 43 = .ok (.aload_n 0, 1) := by decide +kernel
theorem d_KReader_subsetItem_44 : decode b_KReader_subsetItem 44 = .ok (.invokevirtual 409, 3) := by decide +kernel
theorem d_KReader_subsetItem_47 : decode b_KReader_subsetItem 47 = .ok (.goto 196, 3) := by decide +kernel
theorem d_KReader_subsetItem_50 : decode b_KReader_subsetItem 50 = .ok (.aload_n 0, 1) := by decide +kernel
theorem d_KReader_subsetItem_51 : decode b_KReader_subsetItem 51 = .ok (.aload_n 0, 1) := by decide +kernel
theorem d_KReader_subsetItem_52 : decode b_KReader_subsetItem 52 = .ok (.getfield 379, 3) := by decide +kernel
theorem d_KReader_subsetItem_55 : decode b_KReader_subsetItem 55 = .ok (.ldc_w 421, 3) := by decide +kernel
theorem d_KReader_subsetItem_58 : decode b_KReader_subsetItem 58 = .ok (.invokevirtual 290, 3) := by decide +kernel
theorem d_KReader_subsetItem_61 : decode b_KReader_subsetItem 61 = .ok (.ifCond .eq 11, 3) := by decide +kernel
theorem d_KReader_subsetItem_64 : decode b_KReader_subsetItem 64 = .ok (.aload_n 0, 1) := by decide +kernel
theorem d_KReader_subsetItem_65 : decode b_KReader_subsetItem 65 = .ok (.iconst 0, 1) := by decide +kernel
theorem d_KReader_subsetItem_66 : decode b_KReader_subsetItem 66 = .ok (.invokevirtual 423, 3) := by decide +kernel
theorem d_KReader_subsetItem_69 : decode b_KReader_subsetItem 69 = .ok (.goto 174, 3) := by decide +kernel
theorem d_KReader_subsetItem_72 : decode b_KReader_subsetItem 72 = .ok (.aload_n 0, 1) := by decide +kernel
theorem d_KReader_subsetItem_73 : decode b_KReader_subsetItem 73 = .ok (.aload_n 0, 1) := by decide +kernel
theorem d_KReader_subsetItem_74 : decode b_KReader_subsetItem 74 = .ok (.getfield 379, 3) := by decide +kernel
theorem d_KReader_subsetItem_77 : decode b_KReader_subsetItem 77 = .ok (.invokevirtual 282, 3) := by decide +kernel
theorem d_KReader_subsetItem_80 : decode b_KReader_subsetItem 80 = .ok (.bipush 37, 2) := by decide +kernel
theorem d_KReader_subsetItem_82 : decode b_KReader_subsetItem 82 = .ok (.if_icmp .ne 10, 3) := by decide +kernel
theorem d_KReader_subsetItem_85 : decode b_KReader_subsetItem 85 = .ok (.aload_n 0, 1) := by decide +kernel
theorem d_KReader_subsetItem_86 : decode b_KReader_subsetItem 86 = .ok (.invokevirtual 504, 3) := by decide +kernel
theorem d_KReader_subsetItem_89 : decode b_KReader_subsetItem 89 = .ok (.goto 154, 3) := by decide +kernel
theorem d_KReader_subsetItem_92 : decode b_KReader_subsetItem 92 = .ok (.aload_n 0, 1) := by decide +kernel
theorem d_KReader_subsetItem_93 : decode b_KReader_subsetItem 93 = .ok (.aload_n 0, 1) := by decide +kernel
theorem d_KReader_subsetItem_94 : decode b_KReader_subsetItem 94 = .ok (.getfield 379, 3) := by decide +kernel
theorem d_KReader_subsetItem_97 : decode b_KReader_subsetItem 97 = .ok (.ldc_w 507, 3) := by decide +kernel
theorem d_KReader_subsetItem_100 : decode b_KReader_subsetItem 100 = .ok (.invokevirtual 290, 3) := by decide +kernel
theorem d_KReader_subsetItem_103 : decode b_KReader_subsetItem 103 = .ok (.ifCond .eq 10, 3) := by decide +kernel
theorem d_KReader_subsetItem_106 : decode b_KReader_subsetItem 106 = .ok (.aload_n 0, 1) := by decide +kernel
theorem d_KReader_subsetItem_107 : decode b_KReader_subsetItem 107 = .ok (.invokevirtual 509, 3) := by decide +kernel
theorem d_KReader_subsetItem_110 : decode b_KReader_subsetItem 110 = .ok (.goto 133, 3) := by decide +kernel
theorem d_KReader_subsetItem_113 : decode b_KReader_subsetItem 113 = .ok (.aload_n 0, 1) := by decide +kernel
theorem d_KReader_subsetItem_114 : decode b_KReader_subsetItem 114 = .ok (.aload_n 0, 1) := by decide +kernel
theorem d_KReader_subsetItem_115 : decode b_KReader_subsetItem 115 = .ok (.getfield 379, 3) := by decide +kernel
theorem d_KReader_subsetItem_118 : decode b_KReader_subsetItem 118 = .ok (.ldc_w 512, 3) := by decide +kernel
theorem d_KReader_subsetItem_121 : decode b_KReader_subsetItem 121 = .ok (.invokevirtual 290, 3) := by decide +kernel
theorem d_KReader_subsetItem_124 : decode b_KReader_subsetItem 124 = .ok (.ifCond .eq 10, 3) := by decide +kernel
theorem d_KReader_subsetItem_127 : decode b_KReader_subsetItem 127 = .ok (.aload_n 0, 1) := by decide +kernel
theorem d_KReader_subsetItem_128 : decode b_KReader_subsetItem 128 = .ok (.invokevirtual 514, 3) := by decide +kernel
theorem d_KReader_subsetItem_131 : decode b_KReader_subsetItem 131 = .ok (.goto 112, 3) := by decide +kernel
theorem d_KReader_subsetItem_134 : decode b_KReader_subsetItem 134 = .ok (.aload_n 0, 1) := by decide +kernel
theorem d_KReader_subsetItem_135 : decode b_KReader_subsetItem 135 = .ok (.aload_n 0, 1) := by decide +kernel
theorem d_KReader_subsetItem_136 : decode b_KReader_subsetItem 136 = .ok (.getfield 379, 3) := by decide +kernel
theorem d_KReader_subsetItem_139 : decode b_KReader_subsetItem 139 = .ok (.ldc_w 517, 3) := by decide +kernel
theorem d_KReader_subsetItem_142 : decode b_KReader_subsetItem 142 = .ok (.invokevirtual 290, 3) := by decide +kernel
theorem d_KReader_subsetItem_145 : decode b_KReader_subsetItem 145 = .ok (.ifCond .eq 10, 3) := by decide +kernel
theorem d_KReader_subsetItem_148 : decode b_KReader_subsetItem 148 = .ok (.aload_n 0, 1) := by decide +kernel
theorem d_KReader_subsetItem_149 : decode b_KReader_subsetItem 149 = .ok (.invokevirtual 519, 3) := by decide +kernel
theorem d_KReader_subsetItem_152 : decode b_KReader_subsetItem 152 = .ok (.goto 91, 3) := by decide +kernel
theorem d_KReader_subsetItem_155 : decode b_KReader_subsetItem 155 = .ok (.aload_n 0, 1) := by decide +kernel
theorem d_KReader_subsetItem_156 : decode b_KReader_subsetItem 156 = .ok (.aload_n 0, 1) := by decide +kernel
theorem d_KReader_subsetItem_157 : decode b_KReader_subsetItem 157 = .ok (.getfield 379, 3) := by decide +kernel
theorem d_KReader_subsetItem_160 : decode b_KReader_subsetItem 160 = .ok (.ldc_w 522, 3) := by decide +kernel
theorem d_KReader_subsetItem_163 : decode b_KReader_subsetItem 163 = .ok (.invokevirtual 290, 3) := by decide +kernel
theorem d_KReader_subsetItem_166 : decode b_KReader_subsetItem 166 = .ok (.ifCond .eq 10, 3) := by decide +kernel
theorem d_KReader_subsetItem_169 : decode b_KReader_subsetItem 169 = .ok (.aload_n 0, 1) := by decide +kernel
theorem d_KReader_subsetItem_170 : decode b_KReader_subsetItem 170 = .ok (.invokevirtual 524, 3) := by decide +kernel
theorem d_KReader_subsetItem_173 : decode b_KReader_subsetItem 173 = .ok (.goto 70, 3) := by decide +kernel
theorem d_KReader_subsetItem_176 : decode b_KReader_subsetItem 176 = .ok (.aload_n 0, 1) := by decide +kernel
theorem d_KReader_subsetItem_177 : decode b_KReader_subsetItem 177 = .ok (.aload_n 0, 1) := by decide +kernel
theorem d_KReader_subsetItem_178 : decode b_KReader_subsetItem 178 = .ok (.getfield 379, 3) := by decide +kernel
theorem d_KReader_subsetItem_181 : decode b_KReader_subsetItem 181 = .ok (.invokevirtual 282, 3) := by decide +kernel
theorem d_KReader_subsetItem_184 : decode b_KReader_subsetItem 184 = .ok (.bipush 93, 2) := by decide +kernel
theorem d_KReader_subsetItem_186 : decode b_KReader_subsetItem 186 = .ok (.if_icmp .ne 50, 3) := by decide +kernel
theorem d_KReader_subsetItem_189 : decode b_KReader_subsetItem 189 = .ok (.aload_n 0, 1) := by decide +kernel
theorem d_KReader_subsetItem_190 : decode b_KReader_subsetItem 190 = .ok (.getfield 175, 3) := by decide +kernel
theorem d_KReader_subsetItem_193 : decode b_KReader_subsetItem 193 = .ok (.iconst 1, 1) := by decide +kernel
theorem d_KReader_subsetItem_194 : decode b_KReader_subsetItem 194 = .ok (.if_icmp .ne 42, 3) := by decide +kernel
theorem d_KReader_subsetItem_197 : decode b_KReader_subsetItem 197 = .ok (.aload_n 0, 1) := by decide +kernel
theorem d_KReader_subsetItem_198 : decode b_KReader_subsetItem 198 = .ok (.aload_n 0, 1) := by decide +kernel
theorem d_KReader_subsetItem_199 : decode b_KReader_subsetItem 199 = .ok (.aload_n 0, 1) := by decide +kernel
theorem d_KReader_subsetItem_200 : decode b_KReader_subsetItem 200 = .ok (.getfield 379, 3) := by decide +kernel
theorem d_KReader_subsetItem_203 : decode b_KReader_subsetItem 203 = .ok (.iconst 1, 1) := by decide +kernel
theorem d_KReader_subsetItem_204 : decode b_KReader_subsetItem 204 = .ok (.iadd, 1) := by decide +kernel
theorem d_KReader_subsetItem_205 : decode b_KReader_subsetItem 205 = .ok (.invokevirtual 297, 3) := by decide +kernel
theorem d_KReader_subsetItem_208 : decode b_KReader_subsetItem 208 = .ok (.ldc_w 527, 3) := by decide +kernel
theorem d_KReader_subsetItem_211 : decode b_KReader_subsetItem 211 = .ok (.invokevirtual 329, 3) := by decide +kernel
theorem d_KReader_subsetItem_214 : decode b_KReader_subsetItem 214 = .ok (.istore_n 1, 1) := by decide +kernel
theorem d_KReader_subsetItem_215 : decode b_KReader_subsetItem 215 = .ok (.aload_n 0, 1) := by decide +kernel
theorem d_KReader_subsetItem_216 : decode b_KReader_subsetItem 216 = .ok (.iload_n 1, 1) := by decide +kernel
theorem d_KReader_subsetItem_217 : decode b_KReader_subsetItem 217 = .ok (.invokevirtual 437, 3) := by decide +kernel
theorem d_KReader_subsetItem_220 : decode b_KReader_subsetItem 220 = .ok (.ifCond .eq 13, 3) := by decide +kernel
theorem d_KReader_subsetItem_223 : decode b_KReader_subsetItem 223 = .ok (.aload_n 0, 1) := by decide +kernel
theorem d_KReader_subsetItem_224 : decode b_KReader_subsetItem 224 = .ok (.iload_n 1, 1) := by decide +kernel
theorem d_KReader_subsetItem_225 : decode b_KReader_subsetItem 225 = .ok (.putfield 379, 3) := by decide +kernel
theorem d_KReader_subsetItem_228 : decode b_KReader_subsetItem 228 = .ok (.aload_n 0, 1) := by decide +kernel
theorem d_KReader_subsetItem_229 : decode b_KReader_subsetItem 229 = .ok (.iconst 0, 1) := by decide +kernel
theorem d_KReader_subsetItem_230 : decode b_KReader_subsetItem 230 = .ok (.putfield 181, 3) := by decide +kernel
theorem d_KReader_subsetItem_233 : decode b_KReader_subsetItem 233 = .ok (.goto 10, 3) := by decide +kernel
theorem d_KReader_subsetItem_236 : decode b_KReader_subsetItem 236 = .ok (.aload_n 0, 1) := by decide +kernel
theorem d_KReader_subsetItem_237 : decode b_KReader_subsetItem 237 = .ok (.bipush 6, 2) := by decide +kernel
theorem d_KReader_subsetItem_239 : decode b_KReader_subsetItem 239 = .ok (.invokevirtual 392, 3) := by decide +kernel
theorem d_KReader_subsetItem_242 : decode b_KReader_subsetItem 242 = .ok (.pop, 1) := by decide +kernel
theorem d_KReader_subsetItem_243 : decode b_KReader_subsetItem 243 = .ok (.return_, 1) := by decide +kernel
/-- KReader_subsetItem -/
def w_KReader_subsetItem (L : Nat → Nat)  (Q : IS → Prop) (σ : IS) : Prop := w_KReader_look L (σ.1 16 16) (fun v2 σ1 => w_K_isSpace L v2 (fun v4 σ3 => WJ (fun (s7 : Unit) (σ8 : IS) => Q σ8) (fun J5 => if v4 = 0 then w_KReader_says L (σ3.1 16 16) 1103 (fun v11 σ10 => if v11 = 0 then w_KReader_says L (σ10.1 16 16) 1107 (fun v14 σ13 => if v14 = 0 then w_KReader_look L (σ13.1 16 16) (fun v17 σ16 => if v17 = 37 then w_KReader_parameterReference L  (fun σ60 => J5 () σ60) σ16 else w_KReader_says L (σ16.1 16 16) 1120 (fun v20 σ19 => if v20 = 0 then w_KReader_says L (σ19.1 16 16) 1121 (fun v23 σ22 => if v23 = 0 then w_KReader_says L (σ22.1 16 16) 1122 (fun v26 σ25 => if v26 = 0 then w_KReader_says L (σ25.1 16 16) 1123 (fun v29 σ28 => if v29 = 0 then w_KReader_look L (σ28.1 16 16) (fun v32 σ31 => if v32 = 93 ∧ ((σ31.1 16 14) = 1) then inR ((σ31.1 16 16) + 1) ∧ w_KReader_anySpaces L ((σ31.1 16 16) + 1) (fun v34 σ33 => w_KReader_word L v34 1124 (fun v36 σ35 => w_KReader_written L v36 (fun v38 σ37 => WJ (fun (s41 : Unit) (σ42 : IS) => J5 () σ42) (fun J39 => if v38 = 0 then J39 () σ37 else J39 () (pf (pf σ37 16 16 v36) 16 19 0))) σ35) σ33) σ31 else w_KReader_fail L 6 (fun v46 σ45 => J5 () σ45) σ31) σ28 else w_KReader_notation L  (fun σ52 => J5 () σ52) σ28) σ25 else w_KReader_entity L  (fun σ54 => J5 () σ54) σ25) σ22 else w_KReader_attributes L  (fun σ56 => J5 () σ56) σ22) σ19 else w_KReader_element L  (fun σ58 => J5 () σ58) σ19) σ16) σ13 else w_KReader_instruction L 0 (fun σ62 => J5 () σ62) σ13) σ10 else w_KReader_comment L  (fun σ64 => J5 () σ64) σ10) σ3 else w_KReader_anySpaces L (σ3.1 16 16) (fun v67 σ66 => J5 () (pf σ66 16 16 v67)) σ3)) σ1) σ
set_option maxHeartbeats 4000000 in
set_option maxRecDepth 20000 in
theorem s_KReader_subsetItem {L : Nat → Nat} (hL : ∀ r, L r < 2147483648) {d : Nat} (hd : 74 ≤ d)  {Q : IS → Prop} {σ : IS}  (h : w_KReader_subsetItem L  Q σ) : OkI BF L d 15 b_KReader_subsetItem 2 0 0 [] [some (.inr 16)] σ (qv Q) := by
  unfold w_KReader_subsetItem at h
  obtain ⟨d, rfl⟩ : ∃ e, d = e + 1 := ⟨d - 1, by omega⟩
  refine k_sb (lv' := [some (.inr 16), none]) (sb_s (sb_e sb_nil)) ?_
  refine k_aload_n d_KReader_subsetItem_0 rfl ?_
  refine k_aload_n d_KReader_subsetItem_1 rfl ?_
  refine k_getI (x := (σ.1 16 16)) d_KReader_subsetItem_2 fl_15_379 ob_16 rfl rfl ?_
  refine k_cvi [.inl (σ.1 16 16)] d_KReader_subsetItem_5 ml_15_282 rfl rfl ob_16 rfl (s_KReader_look hL (by omega)  h) (fun v2 σ1 h => ?_)
  refine k_csi [.inl v2] d_KReader_subsetItem_8 ml_15_294 (Or.inr rfl) rfl rfl rfl (s_K_isSpace hL (by omega)  h) (fun v4 σ3 h => ?_)
  refine k_join (S := Unit) (pc' := 243) (st' := fun s7 => []) (lv' := fun s7 => [none, none]) (fun s7 σ8 h => ?_) (fun J5 hJ6 h => ?_) h
  · exact k_ret d_KReader_subsetItem_243 h
  · refine k_ifeq d_KReader_subsetItem_11 rfl (fun c9 => ?_) (fun c9 => ?_)
    · have h := ipos c9 h
      refine k_aload_n d_KReader_subsetItem_29 rfl ?_
      refine k_aload_n d_KReader_subsetItem_30 rfl ?_
      refine k_getI (x := (σ3.1 16 16)) d_KReader_subsetItem_31 fl_15_379 ob_16 rfl rfl ?_
      refine k_ldcw d_KReader_subsetItem_34 ks_15_407 rfl ?_
      refine k_cvi [.inl (σ3.1 16 16), .inr 1103] d_KReader_subsetItem_37 ml_15_290 rfl rfl ob_16 rfl (s_KReader_says hL (by omega) it_1103 h) (fun v11 σ10 h => ?_)
      refine k_ifeq d_KReader_subsetItem_40 rfl (fun c12 => ?_) (fun c12 => ?_)
      · have h := ipos c12 h
        refine k_aload_n d_KReader_subsetItem_50 rfl ?_
        refine k_aload_n d_KReader_subsetItem_51 rfl ?_
        refine k_getI (x := (σ10.1 16 16)) d_KReader_subsetItem_52 fl_15_379 ob_16 rfl rfl ?_
        refine k_ldcw d_KReader_subsetItem_55 ks_15_421 rfl ?_
        refine k_cvi [.inl (σ10.1 16 16), .inr 1107] d_KReader_subsetItem_58 ml_15_290 rfl rfl ob_16 rfl (s_KReader_says hL (by omega) it_1107 h) (fun v14 σ13 h => ?_)
        refine k_ifeq d_KReader_subsetItem_61 rfl (fun c15 => ?_) (fun c15 => ?_)
        · have h := ipos c15 h
          refine k_aload_n d_KReader_subsetItem_72 rfl ?_
          refine k_aload_n d_KReader_subsetItem_73 rfl ?_
          refine k_getI (x := (σ13.1 16 16)) d_KReader_subsetItem_74 fl_15_379 ob_16 rfl rfl ?_
          refine k_cvi [.inl (σ13.1 16 16)] d_KReader_subsetItem_77 ml_15_282 rfl rfl ob_16 rfl (s_KReader_look hL (by omega)  h) (fun v17 σ16 h => ?_)
          refine k_bipush d_KReader_subsetItem_80 cB_37 ?_
          refine k_icne d_KReader_subsetItem_82 rfl (fun c18 => ?_) (fun c18 => ?_)
          · have h := ineg c18 h
            refine k_aload_n d_KReader_subsetItem_92 rfl ?_
            refine k_aload_n d_KReader_subsetItem_93 rfl ?_
            refine k_getI (x := (σ16.1 16 16)) d_KReader_subsetItem_94 fl_15_379 ob_16 rfl rfl ?_
            refine k_ldcw d_KReader_subsetItem_97 ks_15_507 rfl ?_
            refine k_cvi [.inl (σ16.1 16 16), .inr 1120] d_KReader_subsetItem_100 ml_15_290 rfl rfl ob_16 rfl (s_KReader_says hL (by omega) it_1120 h) (fun v20 σ19 h => ?_)
            refine k_ifeq d_KReader_subsetItem_103 rfl (fun c21 => ?_) (fun c21 => ?_)
            · have h := ipos c21 h
              refine k_aload_n d_KReader_subsetItem_113 rfl ?_
              refine k_aload_n d_KReader_subsetItem_114 rfl ?_
              refine k_getI (x := (σ19.1 16 16)) d_KReader_subsetItem_115 fl_15_379 ob_16 rfl rfl ?_
              refine k_ldcw d_KReader_subsetItem_118 ks_15_512 rfl ?_
              refine k_cvi [.inl (σ19.1 16 16), .inr 1121] d_KReader_subsetItem_121 ml_15_290 rfl rfl ob_16 rfl (s_KReader_says hL (by omega) it_1121 h) (fun v23 σ22 h => ?_)
              refine k_ifeq d_KReader_subsetItem_124 rfl (fun c24 => ?_) (fun c24 => ?_)
              · have h := ipos c24 h
                refine k_aload_n d_KReader_subsetItem_134 rfl ?_
                refine k_aload_n d_KReader_subsetItem_135 rfl ?_
                refine k_getI (x := (σ22.1 16 16)) d_KReader_subsetItem_136 fl_15_379 ob_16 rfl rfl ?_
                refine k_ldcw d_KReader_subsetItem_139 ks_15_517 rfl ?_
                refine k_cvi [.inl (σ22.1 16 16), .inr 1122] d_KReader_subsetItem_142 ml_15_290 rfl rfl ob_16 rfl (s_KReader_says hL (by omega) it_1122 h) (fun v26 σ25 h => ?_)
                refine k_ifeq d_KReader_subsetItem_145 rfl (fun c27 => ?_) (fun c27 => ?_)
                · have h := ipos c27 h
                  refine k_aload_n d_KReader_subsetItem_155 rfl ?_
                  refine k_aload_n d_KReader_subsetItem_156 rfl ?_
                  refine k_getI (x := (σ25.1 16 16)) d_KReader_subsetItem_157 fl_15_379 ob_16 rfl rfl ?_
                  refine k_ldcw d_KReader_subsetItem_160 ks_15_522 rfl ?_
                  refine k_cvi [.inl (σ25.1 16 16), .inr 1123] d_KReader_subsetItem_163 ml_15_290 rfl rfl ob_16 rfl (s_KReader_says hL (by omega) it_1123 h) (fun v29 σ28 h => ?_)
                  refine k_ifeq d_KReader_subsetItem_166 rfl (fun c30 => ?_) (fun c30 => ?_)
                  · have h := ipos c30 h
                    refine k_aload_n d_KReader_subsetItem_176 rfl ?_
                    refine k_aload_n d_KReader_subsetItem_177 rfl ?_
                    refine k_getI (x := (σ28.1 16 16)) d_KReader_subsetItem_178 fl_15_379 ob_16 rfl rfl ?_
                    refine k_cvi [.inl (σ28.1 16 16)] d_KReader_subsetItem_181 ml_15_282 rfl rfl ob_16 rfl (s_KReader_look hL (by omega)  h) (fun v32 σ31 h => ?_)
                    refine k_bipush d_KReader_subsetItem_184 cB_93 ?_
                    have hX47 : (v32 = 93 ∧ ((σ31.1 16 14) = 1)) → OkI BF L (d + 1) 15 b_KReader_subsetItem 2 0 197 [] [some (.inr 16), none] σ31 (qv Q) := fun e49 => by
                      have h := ipos e49 h
                      refine k_aload_n d_KReader_subsetItem_197 rfl ?_
                      refine k_aload_n d_KReader_subsetItem_198 rfl ?_
                      refine k_aload_n d_KReader_subsetItem_199 rfl ?_
                      refine k_getI (x := (σ31.1 16 16)) d_KReader_subsetItem_200 fl_15_379 ob_16 rfl rfl ?_
                      refine k_iconst d_KReader_subsetItem_203 cI_1 ?_
                      obtain ⟨p44, h⟩ := h
                      refine k_iadd d_KReader_subsetItem_204 p44 ?_
                      refine k_cvi [.inl ((σ31.1 16 16) + 1)] d_KReader_subsetItem_205 ml_15_297 rfl rfl ob_16 rfl (s_KReader_anySpaces hL (by omega)  h) (fun v34 σ33 h => ?_)
                      refine k_ldcw d_KReader_subsetItem_208 ks_15_527 rfl ?_
                      refine k_cvi [.inl v34, .inr 1124] d_KReader_subsetItem_211 ml_15_329 rfl rfl ob_16 rfl (s_KReader_word hL (by omega) it_1124 h) (fun v36 σ35 h => ?_)
                      refine k_istore_n (lv' := [some (.inr 16), some (.inl v36)]) d_KReader_subsetItem_214 rfl rfl ?_
                      refine k_aload_n d_KReader_subsetItem_215 rfl ?_
                      refine k_iload_n d_KReader_subsetItem_216 rfl ?_
                      refine k_cvi [.inl v36] d_KReader_subsetItem_217 ml_15_437 rfl rfl ob_16 rfl (s_KReader_written hL (by omega)  h) (fun v38 σ37 h => ?_)
                      refine k_join (S := Unit) (pc' := 233) (st' := fun s41 => []) (lv' := fun s41 => [none, none]) (fun s41 σ42 h => ?_) (fun J39 hJ40 h => ?_) h
                      · refine k_goto d_KReader_subsetItem_233 rfl ?_
                        exact k_sb (sb_s (sb_s sb_nil)) (hJ6 () _ h)
                      · refine k_ifeq d_KReader_subsetItem_220 rfl (fun c43 => ?_) (fun c43 => ?_)
                        · have h := ipos c43 h
                          exact k_sb (sb_n (sb_n sb_nil)) (hJ40 () _ h)
                        · have h := ineg c43 h
                          refine k_aload_n d_KReader_subsetItem_223 rfl ?_
                          refine k_iload_n d_KReader_subsetItem_224 rfl ?_
                          refine k_putI d_KReader_subsetItem_225 fl_15_379 ob_16 rfl ?_
                          refine k_aload_n d_KReader_subsetItem_228 rfl ?_
                          refine k_iconst d_KReader_subsetItem_229 cI_0 ?_
                          refine k_putI d_KReader_subsetItem_230 fl_15_181 ob_16 rfl ?_
                          exact k_sb (sb_n (sb_n sb_nil)) (hJ40 () _ h)
                    have hY48 : ¬ (v32 = 93 ∧ ((σ31.1 16 14) = 1)) → OkI BF L (d + 1) 15 b_KReader_subsetItem 2 0 236 [] [some (.inr 16), none] σ31 (qv Q) := fun e49 => by
                      have h := ineg e49 h
                      refine k_aload_n d_KReader_subsetItem_236 rfl ?_
                      refine k_bipush d_KReader_subsetItem_237 cB_6 ?_
                      refine k_cvi [.inl 6] d_KReader_subsetItem_239 ml_15_392 rfl rfl ob_16 rfl (s_KReader_fail hL (by omega)  h) (fun v46 σ45 h => ?_)
                      refine k_pop d_KReader_subsetItem_242 ?_
                      exact k_sb (sb_n (sb_s sb_nil)) (hJ6 () _ h)
                    refine k_icne d_KReader_subsetItem_186 rfl (fun c50 => ?_) (fun c50 => ?_)
                    · exact hY48 (fun z => c50 z.1)
                    · refine k_aload_n d_KReader_subsetItem_189 rfl ?_
                      refine k_getI (x := (σ31.1 16 14)) d_KReader_subsetItem_190 fl_15_175 ob_16 rfl rfl ?_
                      refine k_iconst d_KReader_subsetItem_193 cI_1 ?_
                      refine k_icne d_KReader_subsetItem_194 rfl (fun c51 => ?_) (fun c51 => ?_)
                      · exact hY48 (fun z => (c51) z.2)
                      · exact hX47 (⟨c50, c51⟩)
                  · have h := ineg c30 h
                    refine k_aload_n d_KReader_subsetItem_169 rfl ?_
                    refine k_cvv [] d_KReader_subsetItem_170 ml_15_524 rfl rfl ob_16 rfl (s_KReader_notation hL (by omega)  h) (fun σ52 h => ?_)
                    refine k_goto d_KReader_subsetItem_173 rfl ?_
                    exact k_sb (sb_n (sb_s sb_nil)) (hJ6 () _ h)
                · have h := ineg c27 h
                  refine k_aload_n d_KReader_subsetItem_148 rfl ?_
                  refine k_cvv [] d_KReader_subsetItem_149 ml_15_519 rfl rfl ob_16 rfl (s_KReader_entity hL (by omega)  h) (fun σ54 h => ?_)
                  refine k_goto d_KReader_subsetItem_152 rfl ?_
                  exact k_sb (sb_n (sb_s sb_nil)) (hJ6 () _ h)
              · have h := ineg c24 h
                refine k_aload_n d_KReader_subsetItem_127 rfl ?_
                refine k_cvv [] d_KReader_subsetItem_128 ml_15_514 rfl rfl ob_16 rfl (s_KReader_attributes hL (by omega)  h) (fun σ56 h => ?_)
                refine k_goto d_KReader_subsetItem_131 rfl ?_
                exact k_sb (sb_n (sb_s sb_nil)) (hJ6 () _ h)
            · have h := ineg c21 h
              refine k_aload_n d_KReader_subsetItem_106 rfl ?_
              refine k_cvv [] d_KReader_subsetItem_107 ml_15_509 rfl rfl ob_16 rfl (s_KReader_element hL (by omega)  h) (fun σ58 h => ?_)
              refine k_goto d_KReader_subsetItem_110 rfl ?_
              exact k_sb (sb_n (sb_s sb_nil)) (hJ6 () _ h)
          · have h := ipos c18 h
            refine k_aload_n d_KReader_subsetItem_85 rfl ?_
            refine k_cvv [] d_KReader_subsetItem_86 ml_15_504 rfl rfl ob_16 rfl (s_KReader_parameterReference hL (by omega)  h) (fun σ60 h => ?_)
            refine k_goto d_KReader_subsetItem_89 rfl ?_
            exact k_sb (sb_n (sb_s sb_nil)) (hJ6 () _ h)
        · have h := ineg c15 h
          refine k_aload_n d_KReader_subsetItem_64 rfl ?_
          refine k_iconst d_KReader_subsetItem_65 cI_0 ?_
          refine k_cvv [.inl 0] d_KReader_subsetItem_66 ml_15_423 rfl rfl ob_16 rfl (s_KReader_instruction hL (by omega)  h) (fun σ62 h => ?_)
          refine k_goto d_KReader_subsetItem_69 rfl ?_
          exact k_sb (sb_n (sb_s sb_nil)) (hJ6 () _ h)
      · have h := ineg c12 h
        refine k_aload_n d_KReader_subsetItem_43 rfl ?_
        refine k_cvv [] d_KReader_subsetItem_44 ml_15_409 rfl rfl ob_16 rfl (s_KReader_comment hL (by omega)  h) (fun σ64 h => ?_)
        refine k_goto d_KReader_subsetItem_47 rfl ?_
        exact k_sb (sb_n (sb_s sb_nil)) (hJ6 () _ h)
    · have h := ineg c9 h
      refine k_aload_n d_KReader_subsetItem_14 rfl ?_
      refine k_aload_n d_KReader_subsetItem_15 rfl ?_
      refine k_aload_n d_KReader_subsetItem_16 rfl ?_
      refine k_getI (x := (σ3.1 16 16)) d_KReader_subsetItem_17 fl_15_379 ob_16 rfl rfl ?_
      refine k_cvi [.inl (σ3.1 16 16)] d_KReader_subsetItem_20 ml_15_297 rfl rfl ob_16 rfl (s_KReader_anySpaces hL (by omega)  h) (fun v67 σ66 h => ?_)
      refine k_putI d_KReader_subsetItem_23 fl_15_379 ob_16 rfl ?_
      refine k_goto d_KReader_subsetItem_26 rfl ?_
      exact k_sb (sb_n (sb_s sb_nil)) (hJ6 () _ h)
theorem d_KReader_spoil_0 : decode b_KReader_spoil 0 = .ok (.aload_n 0, 1) := by decide +kernel
theorem d_KReader_spoil_1 : decode b_KReader_spoil 1 = .ok (.getfield 22, 3) := by decide +kernel
theorem d_KReader_spoil_4 : decode b_KReader_spoil 4 = .ok (.aload_n 0, 1) := by decide +kernel
theorem d_KReader_spoil_5 : decode b_KReader_spoil 5 = .ok (.getfield 221, 3) := by decide +kernel
theorem d_KReader_spoil_8 : decode b_KReader_spoil 8 = .ok (.iconst 1, 1) := by decide +kernel
theorem d_KReader_spoil_9 : decode b_KReader_spoil 9 = .ok (.isub, 1) := by decide +kernel
theorem d_KReader_spoil_10 : decode b_KReader_spoil 10 = .ok (.iconst 1, 1) := by decide +kernel
theorem d_KReader_spoil_11 : decode b_KReader_spoil 11 = .ok (.bastore, 1) := by decide +kernel
theorem d_KReader_spoil_12 : decode b_KReader_spoil 12 = .ok (.return_, 1) := by decide +kernel
/-- KReader_spoil -/
def w_KReader_spoil (L : Nat → Nat)  (Q : IS → Prop) (σ : IS) : Prop := inR ((σ.1 16 64) - 1) ∧ inL L 169 ((σ.1 16 64) - 1) ∧ Q (pr σ 169 (Int.toNat ((σ.1 16 64) - 1)) 1)
set_option maxHeartbeats 4000000 in
set_option maxRecDepth 20000 in
theorem s_KReader_spoil {L : Nat → Nat} (hL : ∀ r, L r < 2147483648) {d : Nat} (hd : 0 ≤ d)  {Q : IS → Prop} {σ : IS}  (h : w_KReader_spoil L  Q σ) : OkI BF L d 15 b_KReader_spoil 1 0 0 [] [some (.inr 16)] σ (qv Q) := by
  unfold w_KReader_spoil at h
  refine k_sb (lv' := [some (.inr 16)]) (sb_s sb_nil) ?_
  refine k_aload_n d_KReader_spoil_0 rfl ?_
  refine k_getR d_KReader_spoil_1 fl_15_22 ob_16 rfl ?_
  refine k_aload_n d_KReader_spoil_4 rfl ?_
  refine k_getI (x := (σ.1 16 64)) d_KReader_spoil_5 fl_15_221 ob_16 rfl rfl ?_
  refine k_iconst d_KReader_spoil_8 cI_1 ?_
  obtain ⟨p2, h⟩ := h
  refine k_isub d_KReader_spoil_9 p2 ?_
  refine k_iconst d_KReader_spoil_10 cI_1 ?_
  obtain ⟨p1, h⟩ := h
  refine k_zst d_KReader_spoil_11 rz_169 p1 (Or.inr rfl) ?_
  exact k_ret d_KReader_spoil_12 h
theorem d_KDoc_text_0 : decode b_KDoc_text 0 = .ok (.aload_n 0, 1) := by decide +kernel
theorem d_KDoc_text_1 : decode b_KDoc_text 1 = .ok (.dup, 1) := by decide +kernel
theorem d_KDoc_text_2 : decode b_KDoc_text 2 = .ok (.getfield 85, 3) := by decide +kernel
theorem d_KDoc_text_5 : decode b_KDoc_text 5 = .ok (.iconst 1, 1) := by decide +kernel
theorem d_KDoc_text_6 : decode b_KDoc_text 6 = .ok (.iadd, 1) := by decide +kernel
theorem d_KDoc_text_7 : decode b_KDoc_text 7 = .ok (.putfield 85, 3) := by decide +kernel
theorem d_KDoc_text_10 : decode b_KDoc_text 10 = .ok (.aload_n 0, 1) := by decide +kernel
theorem d_KDoc_text_11 : decode b_KDoc_text 11 = .ok (.getfield 82, 3) := by decide +kernel
theorem d_KDoc_text_14 : decode b_KDoc_text 14 = .ok (.ifCond .ge 51, 3) := by decide +kernel
theorem d_KDoc_text_17 : decode b_KDoc_text 17 = .ok (.aload_n 0, 1) := by decide +kernel
theorem d_KDoc_text_18 : decode b_KDoc_text 18 = .ok (.iconst 2, 1) := by decide +kernel
theorem d_KDoc_text_19 : decode b_KDoc_text 19 = .ok (.invokevirtual 91, 3) := by decide +kernel
theorem d_KDoc_text_22 : decode b_KDoc_text 22 = .ok (.aload_n 0, 1) := by decide +kernel
theorem d_KDoc_text_23 : decode b_KDoc_text 23 = .ok (.aload_n 0, 1) := by decide +kernel
theorem d_KDoc_text_24 : decode b_KDoc_text 24 = .ok (.getfield 79, 3) := by decide +kernel
theorem d_KDoc_text_27 : decode b_KDoc_text 27 = .ok (.putfield 82, 3) := by decide +kernel
theorem d_KDoc_text_30 : decode b_KDoc_text 30 = .ok (.aload_n 0, 1) := by decide +kernel
theorem d_KDoc_text_31 : decode b_KDoc_text 31 = .ok (.getfield 25, 3) := by decide +kernel
theorem d_KDoc_text_34 : decode b_KDoc_text 34 = .ok (.aload_n 0, 1) := by decide +kernel
theorem d_KDoc_text_35 : decode b_KDoc_text 35 = .ok (.getfield 79, 3) := by decide +kernel
theorem d_KDoc_text_38 : decode b_KDoc_text 38 = .ok (.aload_n 0, 1) := by decide +kernel
theorem d_KDoc_text_39 : decode b_KDoc_text 39 = .ok (.getfield 69, 3) := by decide +kernel
theorem d_KDoc_text_42 : decode b_KDoc_text 42 = .ok (.iastore, 1) := by decide +kernel
theorem d_KDoc_text_43 : decode b_KDoc_text 43 = .ok (.aload_n 0, 1) := by decide +kernel
theorem d_KDoc_text_44 : decode b_KDoc_text 44 = .ok (.getfield 25, 3) := by decide +kernel
theorem d_KDoc_text_47 : decode b_KDoc_text 47 = .ok (.aload_n 0, 1) := by decide +kernel
theorem d_KDoc_text_48 : decode b_KDoc_text 48 = .ok (.getfield 79, 3) := by decide +kernel
theorem d_KDoc_text_51 : decode b_KDoc_text 51 = .ok (.iconst 1, 1) := by decide +kernel
theorem d_KDoc_text_52 : decode b_KDoc_text 52 = .ok (.iadd, 1) := by decide +kernel
theorem d_KDoc_text_53 : decode b_KDoc_text 53 = .ok (.iconst 0, 1) := by decide +kernel
theorem d_KDoc_text_54 : decode b_KDoc_text 54 = .ok (.iastore, 1) := by decide +kernel
theorem d_KDoc_text_55 : decode b_KDoc_text 55 = .ok (.aload_n 0, 1) := by decide +kernel
theorem d_KDoc_text_56 : decode b_KDoc_text 56 = .ok (.dup, 1) := by decide +kernel
theorem d_KDoc_text_57 : decode b_KDoc_text 57 = .ok (.getfield 79, 3) := by decide +kernel
theorem d_KDoc_text_60 : decode b_KDoc_text 60 = .ok (.iconst 2, 1) := by decide +kernel
theorem d_KDoc_text_61 : decode b_KDoc_text 61 = .ok (.iadd, 1) := by decide +kernel
theorem d_KDoc_text_62 : decode b_KDoc_text 62 = .ok (.putfield 79, 3) := by decide +kernel
theorem d_KDoc_text_65 : decode b_KDoc_text 65 = .ok (.aload_n 0, 1) := by decide +kernel
theorem d_KDoc_text_66 : decode b_KDoc_text 66 = .ok (.iload_n 1, 1) := by decide +kernel
theorem d_KDoc_text_67 : decode b_KDoc_text 67 = .ok (.invokevirtual 95, 3) := by decide +kernel
theorem d_KDoc_text_70 : decode b_KDoc_text 70 = .ok (.aload_n 0, 1) := by decide +kernel
theorem d_KDoc_text_71 : decode b_KDoc_text 71 = .ok (.getfield 25, 3) := by decide +kernel
theorem d_KDoc_text_74 : decode b_KDoc_text 74 = .ok (.aload_n 0, 1) := by decide +kernel
theorem d_KDoc_text_75 : decode b_KDoc_text 75 = .ok (.getfield 82, 3) := by decide +kernel
theorem d_KDoc_text_78 : decode b_KDoc_text 78 = .ok (.iconst 1, 1) := by decide +kernel
theorem d_KDoc_text_79 : decode b_KDoc_text 79 = .ok (.iadd, 1) := by decide +kernel
theorem d_KDoc_text_80 : decode b_KDoc_text 80 = .ok (.dup2, 1) := by decide +kernel
theorem d_KDoc_text_81 : decode b_KDoc_text 81 = .ok (.iaload, 1) := by decide +kernel
theorem d_KDoc_text_82 : decode b_KDoc_text 82 = .ok (.iconst 1, 1) := by decide +kernel
theorem d_KDoc_text_83 : decode b_KDoc_text 83 = .ok (.iadd, 1) := by decide +kernel
theorem d_KDoc_text_84 : decode b_KDoc_text 84 = .ok (.iastore, 1) := by decide +kernel
theorem d_KDoc_text_85 : decode b_KDoc_text 85 = .ok (.return_, 1) := by decide +kernel
/-- KDoc_text -/
def w_KDoc_text (L : Nat → Nat) (o : Nat) (a1 : Int) (Q : IS → Prop) (σ : IS) : Prop := inR ((σ.1 o 20) + 1) ∧ WJ (fun (s3 : Unit) (σ4 : IS) => w_KDoc_add L o a1 (fun σ5 => inR ((σ5.1 o 17) + 1) ∧ inL L (rfo o 15) ((σ5.1 o 17) + 1) ∧ inR ((σ5.2 (rfo o 15) (Int.toNat ((σ5.1 o 17) + 1))) + 1) ∧ inL L (rfo o 15) ((σ5.1 o 17) + 1) ∧ Q (pr σ5 (rfo o 15) (Int.toNat ((σ5.1 o 17) + 1)) ((σ5.2 (rfo o 15) (Int.toNat ((σ5.1 o 17) + 1))) + 1))) σ4) (fun J1 => if (σ.1 o 17) < 0 then w_KDoc_event L o 2 (fun σ12 => inL L (rfo o 15) (σ12.1 o 16) ∧ inR ((σ12.1 o 16) + 1) ∧ inL L (rfo o 15) ((σ12.1 o 16) + 1) ∧ inR ((σ12.1 o 16) + 2) ∧ J1 () (pf (pr (pr (pf σ12 o 17 (σ12.1 o 16)) (rfo o 15) (Int.toNat (σ12.1 o 16)) (σ12.1 o 2)) (rfo o 15) (Int.toNat ((σ12.1 o 16) + 1)) 0) o 16 ((σ12.1 o 16) + 2))) (pf σ o 20 ((σ.1 o 20) + 1)) else J1 () (pf σ o 20 ((σ.1 o 20) + 1)))
set_option maxHeartbeats 4000000 in
set_option maxRecDepth 20000 in
theorem s_KDoc_text {L : Nat → Nat} (hL : ∀ r, L r < 2147483648) {d : Nat} (hd : 1 ≤ d) {o : Nat} {a1 : Int} {Q : IS → Prop} {σ : IS} (ho : isDoc o) (h : w_KDoc_text L o a1 Q σ) : OkI BF L d 14 b_KDoc_text 2 0 0 [] [some (.inr o), some (.inl a1)] σ (qv Q) := by
  unfold w_KDoc_text at h
  obtain ⟨d, rfl⟩ : ∃ e, d = e + 1 := ⟨d - 1, by omega⟩
  refine k_sb (lv' := [some (.inr o), some (.inl a1)]) (sb_s (sb_s sb_nil)) ?_
  refine k_aload_n d_KDoc_text_0 rfl ?_
  refine k_dup d_KDoc_text_1 ?_
  refine k_getI (x := (σ.1 o 20)) d_KDoc_text_2 fl_14_85 (doc_ob ho) (dfi_20 ho) rfl ?_
  refine k_iconst d_KDoc_text_5 cI_1 ?_
  obtain ⟨p18, h⟩ := h
  refine k_iadd d_KDoc_text_6 p18 ?_
  refine k_putI d_KDoc_text_7 fl_14_85 (doc_ob ho) (dfz_20 ho) ?_
  refine k_aload_n d_KDoc_text_10 rfl ?_
  refine k_getI (x := (σ.1 o 17)) d_KDoc_text_11 fl_14_82 (doc_ob ho) (dfi_17 ho) ((pf_nk (by decide)).trans rfl) ?_
  refine k_join (S := Unit) (pc' := 65) (st' := fun s3 => []) (lv' := fun s3 => [some (.inr o), some (.inl a1)]) (fun s3 σ4 h => ?_) (fun J1 hJ2 h => ?_) h
  · refine k_aload_n d_KDoc_text_65 rfl ?_
    refine k_iload_n d_KDoc_text_66 rfl ?_
    refine k_cvv [.inl a1] d_KDoc_text_67 ml_14_95 rfl rfl (doc_ob ho) rfl (s_KDoc_add hL (by omega) ho h) (fun σ5 h => ?_)
    refine k_aload_n d_KDoc_text_70 rfl ?_
    refine k_getR d_KDoc_text_71 fl_14_25 (doc_ob ho) (dfr_15 ho) ?_
    refine k_aload_n d_KDoc_text_74 rfl ?_
    refine k_getI (x := (σ5.1 o 17)) d_KDoc_text_75 fl_14_82 (doc_ob ho) (dfi_17 ho) rfl ?_
    refine k_iconst d_KDoc_text_78 cI_1 ?_
    obtain ⟨p10, h⟩ := h
    refine k_iadd d_KDoc_text_79 p10 ?_
    refine k_dup2 d_KDoc_text_80 ?_
    obtain ⟨p9, h⟩ := h
    refine k_ild (x := (σ5.2 (rfo o 15) (Int.toNat ((σ5.1 o 17) + 1)))) d_KDoc_text_81 (drI_15 ho) p9 rfl ?_
    refine k_iconst d_KDoc_text_82 cI_1 ?_
    obtain ⟨p8, h⟩ := h
    refine k_iadd d_KDoc_text_83 p8 ?_
    obtain ⟨p7, h⟩ := h
    refine k_ist d_KDoc_text_84 (drI_15 ho) p7 ?_
    exact k_ret d_KDoc_text_85 h
  · refine k_ifge d_KDoc_text_14 rfl (fun c11 => ?_) (fun c11 => ?_)
    · have h := ineg c11 h
      exact k_sb (sb_s (sb_s sb_nil)) (hJ2 () _ h)
    · have h := ipos c11 h
      refine k_aload_n d_KDoc_text_17 rfl ?_
      refine k_iconst d_KDoc_text_18 cI_2 ?_
      refine k_cvv [.inl 2] d_KDoc_text_19 ml_14_91 rfl rfl (doc_ob ho) rfl (s_KDoc_event hL (by omega) ho h) (fun σ12 h => ?_)
      refine k_aload_n d_KDoc_text_22 rfl ?_
      refine k_aload_n d_KDoc_text_23 rfl ?_
      refine k_getI (x := (σ12.1 o 16)) d_KDoc_text_24 fl_14_79 (doc_ob ho) (dfi_16 ho) rfl ?_
      refine k_putI d_KDoc_text_27 fl_14_82 (doc_ob ho) (dfz_17 ho) ?_
      refine k_aload_n d_KDoc_text_30 rfl ?_
      refine k_getR d_KDoc_text_31 fl_14_25 (doc_ob ho) (dfr_15 ho) ?_
      refine k_aload_n d_KDoc_text_34 rfl ?_
      refine k_getI (x := (σ12.1 o 16)) d_KDoc_text_35 fl_14_79 (doc_ob ho) (dfi_16 ho) ((pf_nk (by decide)).trans rfl) ?_
      refine k_aload_n d_KDoc_text_38 rfl ?_
      refine k_getI (x := (σ12.1 o 2)) d_KDoc_text_39 fl_14_69 (doc_ob ho) (dfi_2 ho) ((pf_nk (by decide)).trans rfl) ?_
      obtain ⟨p17, h⟩ := h
      refine k_ist d_KDoc_text_42 (drI_15 ho) p17 ?_
      refine k_aload_n d_KDoc_text_43 rfl ?_
      refine k_getR d_KDoc_text_44 fl_14_25 (doc_ob ho) (dfr_15 ho) ?_
      refine k_aload_n d_KDoc_text_47 rfl ?_
      refine k_getI (x := (σ12.1 o 16)) d_KDoc_text_48 fl_14_79 (doc_ob ho) (dfi_16 ho) ((rfl).trans ((pf_nk (by decide)).trans rfl)) ?_
      refine k_iconst d_KDoc_text_51 cI_1 ?_
      obtain ⟨p16, h⟩ := h
      refine k_iadd d_KDoc_text_52 p16 ?_
      refine k_iconst d_KDoc_text_53 cI_0 ?_
      obtain ⟨p15, h⟩ := h
      refine k_ist d_KDoc_text_54 (drI_15 ho) p15 ?_
      refine k_aload_n d_KDoc_text_55 rfl ?_
      refine k_dup d_KDoc_text_56 ?_
      refine k_getI (x := (σ12.1 o 16)) d_KDoc_text_57 fl_14_79 (doc_ob ho) (dfi_16 ho) ((rfl).trans ((rfl).trans ((pf_nk (by decide)).trans rfl))) ?_
      refine k_iconst d_KDoc_text_60 cI_2 ?_
      obtain ⟨p14, h⟩ := h
      refine k_iadd d_KDoc_text_61 p14 ?_
      refine k_putI d_KDoc_text_62 fl_14_79 (doc_ob ho) (dfz_16 ho) ?_
      exact k_sb (sb_s (sb_s sb_nil)) (hJ2 () _ h)
theorem d_KReader_section_0 : decode b_KReader_section 0 = .ok (.aload_n 0, 1) := by decide +kernel
theorem d_KReader_section_1 : decode b_KReader_section 1 = .ok (.getfield 379, 3) := by decide +kernel
theorem d_KReader_section_4 : decode b_KReader_section 4 = .ok (.bipush 9, 2) := by decide +kernel
theorem d_KReader_section_6 : decode b_KReader_section 6 = .ok (.iadd, 1) := by decide +kernel
theorem d_KReader_section_7 : decode b_KReader_section 7 = .ok (.istore_n 1, 1) := by decide +kernel
theorem d_KReader_section_8 : decode b_KReader_section 8 = .ok (.iload_n 1, 1) := by decide +kernel
theorem d_KReader_section_9 : decode b_KReader_section 9 = .ok (.aload_n 0, 1) := by decide +kernel
theorem d_KReader_section_10 : decode b_KReader_section 10 = .ok (.getfield 273, 3) := by decide +kernel
theorem d_KReader_section_13 : decode b_KReader_section 13 = .ok (.if_icmp .ge 20, 3) := by decide +kernel
theorem d_KReader_section_16 : decode b_KReader_section 16 = .ok (.aload_n 0, 1) := by decide +kernel
theorem d_KReader_section_17 : decode b_KReader_section 17 = .ok (.iload_n 1, 1) := by decide +kernel
theorem d_KReader_section_18 : decode b_KReader_section 18 = .ok (.ldc_w 711, 3) := by decide +kernel
theorem d_KReader_section_21 : decode b_KReader_section 21 = .ok (.invokevirtual 290, 3) := by decide +kernel
theorem d_KReader_section_24 : decode b_KReader_section 24 = .ok (.ifCond .ne 9, 3) := by decide +kernel
theorem d_KReader_section_27 : decode b_KReader_section 27 = .ok (.iinc 1 1, 3) := by decide +kernel
theorem d_KReader_section_30 : decode b_KReader_section 30 = .ok (.goto (-22), 3) := by decide +kernel
theorem d_KReader_section_33 : decode b_KReader_section 33 = .ok (.aload_n 0, 1) := by decide +kernel
theorem d_KReader_section_34 : decode b_KReader_section 34 = .ok (.aload_n 0, 1) := by decide +kernel
theorem d_KReader_section_35 : decode b_KReader_section 35 = .ok (.iload_n 1, 1) := by decide +kernel
theorem d_KReader_section_36 : decode b_KReader_section 36 = .ok (.ldc_w 711, 3) := by decide +kernel
theorem d_KReader_section_39 : decode b_KReader_section 39 = .ok (.invokevirtual 329, 3) := by decide +kernel
theorem d_KReader_section_42 : decode b_KReader_section 42 = .ok (.invokevirtual 437, 3) := by decide +kernel
theorem d_KReader_section_45 : decode b_KReader_section 45 = .ok (.ifCond .ne 4, 3) := by decide +kernel
theorem d_KReader_section_48 : decode b_KReader_section 48 = .ok (.return_, 1) := by decide +kernel
theorem d_KReader_section_49 : decode b_KReader_section 49 = .ok (.aload_n 0, 1) := by decide +kernel
theorem d_KReader_section_50 : decode b_KReader_section 50 = .ok (.invokevirtual 465, 3) := by decide +kernel
theorem d_KReader_section_53 : decode b_KReader_section 53 = .ok (.aload_n 0, 1) := by decide +kernel
theorem d_KReader_section_54 : decode b_KReader_section 54 = .ok (.invokevirtual 713, 3) := by decide +kernel
theorem d_KReader_section_57 : decode b_KReader_section 57 = .ok (.aload_n 0, 1) := by decide +kernel
theorem d_KReader_section_58 : decode b_KReader_section 58 = .ok (.getfield 379, 3) := by decide +kernel
theorem d_KReader_section_61 : decode b_KReader_section 61 = .ok (.bipush 9, 2) := by decide +kernel
theorem d_KReader_section_63 : decode b_KReader_section 63 = .ok (.iadd, 1) := by decide +kernel
theorem d_KReader_section_64 : decode b_KReader_section 64 = .ok (.istore_n 2, 1) := by decide +kernel
theorem d_KReader_section_65 : decode b_KReader_section 65 = .ok (.iload_n 2, 1) := by decide +kernel
theorem d_KReader_section_66 : decode b_KReader_section 66 = .ok (.iload_n 1, 1) := by decide +kernel
theorem d_KReader_section_67 : decode b_KReader_section 67 = .ok (.if_icmp .ge 22, 3) := by decide +kernel
theorem d_KReader_section_70 : decode b_KReader_section 70 = .ok (.aload_n 0, 1) := by decide +kernel
theorem d_KReader_section_71 : decode b_KReader_section 71 = .ok (.getfield 150, 3) := by decide +kernel
theorem d_KReader_section_74 : decode b_KReader_section 74 = .ok (.aload_n 0, 1) := by decide +kernel
theorem d_KReader_section_75 : decode b_KReader_section 75 = .ok (.getfield 45, 3) := by decide +kernel
theorem d_KReader_section_78 : decode b_KReader_section 78 = .ok (.iload_n 2, 1) := by decide +kernel
theorem d_KReader_section_79 : decode b_KReader_section 79 = .ok (.iaload, 1) := by decide +kernel
theorem d_KReader_section_80 : decode b_KReader_section 80 = .ok (.invokevirtual 716, 3) := by decide +kernel
theorem d_KReader_section_83 : decode b_KReader_section 83 = .ok (.iinc 2 1, 3) := by decide +kernel
theorem d_KReader_section_86 : decode b_KReader_section 86 = .ok (.goto (-21), 3) := by decide +kernel
theorem d_KReader_section_89 : decode b_KReader_section 89 = .ok (.aload_n 0, 1) := by decide +kernel
theorem d_KReader_section_90 : decode b_KReader_section 90 = .ok (.iload_n 1, 1) := by decide +kernel
theorem d_KReader_section_91 : decode b_KReader_section 91 = .ok (.iconst 3, 1) := by decide +kernel
theorem d_KReader_section_92 : decode b_KReader_section 92 = .ok (.iadd, 1) := by decide +kernel
theorem d_KReader_section_93 : decode b_KReader_section 93 = .ok (.putfield 379, 3) := by decide +kernel
theorem d_KReader_section_96 : decode b_KReader_section 96 = .ok (.return_, 1) := by decide +kernel
/-- KReader_section -/
def w_KReader_section (L : Nat → Nat)  (Q : IS → Prop) (σ : IS) : Prop := inR ((σ.1 16 16) + 9) ∧ WL (fun (K1 : Int → IS → Prop) (s3 : Int) (σ4 : IS) => WJ (fun (s7 : Unit) (σ8 : IS) => w_KReader_word L s3 1146 (fun v10 σ9 => w_KReader_written L v10 (fun v12 σ11 => if v12 = 0 then Q σ11 else w_KReader_touch L  (fun σ14 => w_KReader_spoil L  (fun σ16 => inR ((σ16.1 16 16) + 9) ∧ WL (fun (K18 : Int → IS → Prop) (s20 : Int) (σ21 : IS) => if s20 < s3 then dyD (σ21.1 16 2) ∧ inL L 176 s20 ∧ w_KDoc_text L (Int.toNat (σ21.1 16 2)) (σ21.2 176 (Int.toNat s20)) (fun σ25 => inR (s20 + 1) ∧ K18 (s20 + 1) σ25) σ21 else inR (s3 + 3) ∧ Q (pf σ21 16 16 (s3 + 3))) ((σ16.1 16 16) + 9) σ16) σ14) σ11) σ9) σ8) (fun J5 => if s3 < (σ4.1 16 17) then w_KReader_says L s3 1146 (fun v32 σ31 => if v32 = 0 then inR (s3 + 1) ∧ K1 (s3 + 1) σ31 else J5 () σ31) σ4 else J5 () σ4)) ((σ.1 16 16) + 9) σ
set_option maxHeartbeats 4000000 in
set_option maxRecDepth 20000 in
theorem s_KReader_section {L : Nat → Nat} (hL : ∀ r, L r < 2147483648) {d : Nat} (hd : 3 ≤ d)  {Q : IS → Prop} {σ : IS}  (h : w_KReader_section L  Q σ) : OkI BF L d 15 b_KReader_section 3 0 0 [] [some (.inr 16)] σ (qv Q) := by
  unfold w_KReader_section at h
  obtain ⟨d, rfl⟩ : ∃ e, d = e + 1 := ⟨d - 1, by omega⟩
  refine k_sb (lv' := [some (.inr 16), none, none]) (sb_s (sb_e (sb_e sb_nil))) ?_
  refine k_aload_n d_KReader_section_0 rfl ?_
  refine k_getI (x := (σ.1 16 16)) d_KReader_section_1 fl_15_379 ob_16 rfl rfl ?_
  refine k_bipush d_KReader_section_4 cB_9 ?_
  obtain ⟨p35, h⟩ := h
  refine k_iadd d_KReader_section_6 p35 ?_
  refine k_istore_n (lv' := [some (.inr 16), some (.inl ((σ.1 16 16) + 9)), none]) d_KReader_section_7 rfl rfl ?_
  refine k_sb (lv' := [some (.inr 16), some (.inl ((σ.1 16 16) + 9)), none]) (sb_s (sb_s (sb_s sb_nil))) ?_
  refine k_loop (S := Int) (st := fun _ => []) (lv := fun s3 => [some (.inr 16), some (.inl s3), none]) (fun K1 hK2 s3 σ4 h => ?_) ((σ.1 16 16) + 9) _ h
  refine k_iload_n d_KReader_section_8 rfl ?_
  refine k_aload_n d_KReader_section_9 rfl ?_
  refine k_getI (x := (σ4.1 16 17)) d_KReader_section_10 fl_15_273 ob_16 rfl rfl ?_
  refine k_join (S := Unit) (pc' := 33) (st' := fun s7 => []) (lv' := fun s7 => [some (.inr 16), some (.inl s3), none]) (fun s7 σ8 h => ?_) (fun J5 hJ6 h => ?_) h
  · refine k_aload_n d_KReader_section_33 rfl ?_
    refine k_aload_n d_KReader_section_34 rfl ?_
    refine k_iload_n d_KReader_section_35 rfl ?_
    refine k_ldcw d_KReader_section_36 ks_15_711 rfl ?_
    refine k_cvi [.inl s3, .inr 1146] d_KReader_section_39 ml_15_329 rfl rfl ob_16 rfl (s_KReader_word hL (by omega) it_1146 h) (fun v10 σ9 h => ?_)
    refine k_cvi [.inl v10] d_KReader_section_42 ml_15_437 rfl rfl ob_16 rfl (s_KReader_written hL (by omega)  h) (fun v12 σ11 h => ?_)
    refine k_ifne d_KReader_section_45 rfl (fun c13 => ?_) (fun c13 => ?_)
    · have h := ineg c13 h
      refine k_aload_n d_KReader_section_49 rfl ?_
      refine k_cvv [] d_KReader_section_50 ml_15_465 rfl rfl ob_16 rfl (s_KReader_touch hL (by omega)  h) (fun σ14 h => ?_)
      refine k_aload_n d_KReader_section_53 rfl ?_
      refine k_cvv [] d_KReader_section_54 ml_15_713 rfl rfl ob_16 rfl (s_KReader_spoil hL (by omega)  h) (fun σ16 h => ?_)
      refine k_aload_n d_KReader_section_57 rfl ?_
      refine k_getI (x := (σ16.1 16 16)) d_KReader_section_58 fl_15_379 ob_16 rfl rfl ?_
      refine k_bipush d_KReader_section_61 cB_9 ?_
      obtain ⟨p29, h⟩ := h
      refine k_iadd d_KReader_section_63 p29 ?_
      refine k_istore_n (lv' := [some (.inr 16), some (.inl s3), some (.inl ((σ16.1 16 16) + 9))]) d_KReader_section_64 rfl rfl ?_
      refine k_sb (lv' := [some (.inr 16), some (.inl s3), some (.inl ((σ16.1 16 16) + 9))]) (sb_s (sb_s (sb_s sb_nil))) ?_
      refine k_loop (S := Int) (st := fun _ => []) (lv := fun s20 => [some (.inr 16), some (.inl s3), some (.inl s20)]) (fun K18 hK19 s20 σ21 h => ?_) ((σ16.1 16 16) + 9) _ h
      refine k_iload_n d_KReader_section_65 rfl ?_
      refine k_iload_n d_KReader_section_66 rfl ?_
      refine k_icge d_KReader_section_67 rfl (fun c22 => ?_) (fun c22 => ?_)
      · have h := ineg c22 h
        refine k_aload_n d_KReader_section_89 rfl ?_
        refine k_iload_n d_KReader_section_90 rfl ?_
        refine k_iconst d_KReader_section_91 cI_3 ?_
        obtain ⟨p23, h⟩ := h
        refine k_iadd d_KReader_section_92 p23 ?_
        refine k_putI d_KReader_section_93 fl_15_379 ob_16 rfl ?_
        exact k_ret d_KReader_section_96 h
      · have h := ipos c22 h
        refine k_aload_n d_KReader_section_70 rfl ?_
        obtain ⟨y24, h⟩ := h
        refine k_getD (x := (σ21.1 16 2)) d_KReader_section_71 fl_15_150 ob_16 rfl rfl (dyD_pos y24) ?_
        refine k_aload_n d_KReader_section_74 rfl ?_
        refine k_getR d_KReader_section_75 fl_15_45 ob_16 rfl ?_
        refine k_iload_n d_KReader_section_78 rfl ?_
        obtain ⟨p28, h⟩ := h
        refine k_ild (x := (σ21.2 176 (Int.toNat s20))) d_KReader_section_79 rI_176 p28 rfl ?_
        refine k_cvv [.inl (σ21.2 176 (Int.toNat s20))] d_KReader_section_80 ml_15_716 rfl rfl (doc_ob (dyD_doc y24)) rfl (s_KDoc_text hL (by omega) (dyD_doc y24) h) (fun σ25 h => ?_)
        obtain ⟨p27, h⟩ := h
        refine k_iinc (lv' := [some (.inr 16), some (.inl s3), some (.inl (s20 + 1))]) d_KReader_section_83 cI_1 rfl rfl p27 rfl ?_
        refine k_goto d_KReader_section_86 rfl ?_
        exact k_sb (sb_s (sb_s (sb_s sb_nil))) (hK19 (s20 + 1) _ h)
    · have h := ipos c13 h
      exact k_ret d_KReader_section_48 h
  · refine k_icge d_KReader_section_13 rfl (fun c30 => ?_) (fun c30 => ?_)
    · have h := ineg c30 h
      exact k_sb (sb_s (sb_s (sb_s sb_nil))) (hJ6 () _ h)
    · have h := ipos c30 h
      refine k_aload_n d_KReader_section_16 rfl ?_
      refine k_iload_n d_KReader_section_17 rfl ?_
      refine k_ldcw d_KReader_section_18 ks_15_711 rfl ?_
      refine k_cvi [.inl s3, .inr 1146] d_KReader_section_21 ml_15_290 rfl rfl ob_16 rfl (s_KReader_says hL (by omega) it_1146 h) (fun v32 σ31 h => ?_)
      refine k_ifne d_KReader_section_24 rfl (fun c33 => ?_) (fun c33 => ?_)
      · have h := ineg c33 h
        exact k_sb (sb_s (sb_s (sb_s sb_nil))) (hJ6 () _ h)
      · have h := ipos c33 h
        obtain ⟨p34, h⟩ := h
        refine k_iinc (lv' := [some (.inr 16), some (.inl (s3 + 1)), none]) d_KReader_section_27 cI_1 rfl rfl p34 rfl ?_
        refine k_goto d_KReader_section_30 rfl ?_
        exact k_sb (sb_s (sb_s (sb_s sb_nil))) (hK2 (s3 + 1) _ h)
theorem d_KReader_makes_0 : decode b_KReader_makes 0 = .ok (.aload_n 0, 1) := by decide +kernel
theorem d_KReader_makes_1 : decode b_KReader_makes 1 = .ok (.iload_n 1, 1) := by decide +kernel
theorem d_KReader_makes_2 : decode b_KReader_makes 2 = .ok (.invokevirtual 601, 3) := by decide +kernel
theorem d_KReader_makes_5 : decode b_KReader_makes 5 = .ok (.istore_n 3, 1) := by decide +kernel
theorem d_KReader_makes_6 : decode b_KReader_makes 6 = .ok (.aload_n 0, 1) := by decide +kernel
theorem d_KReader_makes_7 : decode b_KReader_makes 7 = .ok (.iload_n 3, 1) := by decide +kernel
theorem d_KReader_makes_8 : decode b_KReader_makes 8 = .ok (.invokevirtual 604, 3) := by decide +kernel
theorem d_KReader_makes_11 : decode b_KReader_makes 11 = .ok (.aload_n 0, 1) := by decide +kernel
theorem d_KReader_makes_12 : decode b_KReader_makes 12 = .ok (.iload_n 1, 1) := by decide +kernel
theorem d_KReader_makes_13 : decode b_KReader_makes 13 = .ok (.invokevirtual 595, 3) := by decide +kernel
theorem d_KReader_makes_16 : decode b_KReader_makes 16 = .ok (.aload_n 0, 1) := by decide +kernel
theorem d_KReader_makes_17 : decode b_KReader_makes 17 = .ok (.aload_n 0, 1) := by decide +kernel
theorem d_KReader_makes_18 : decode b_KReader_makes 18 = .ok (.iload_n 1, 1) := by decide +kernel
theorem d_KReader_makes_19 : decode b_KReader_makes 19 = .ok (.invokevirtual 592, 3) := by decide +kernel
theorem d_KReader_makes_22 : decode b_KReader_makes 22 = .ok (.putfield 598, 3) := by decide +kernel
theorem d_KReader_makes_25 : decode b_KReader_makes 25 = .ok (.iload_n 2, 1) := by decide +kernel
theorem d_KReader_makes_26 : decode b_KReader_makes 26 = .ok (.istore 4, 2) := by decide +kernel
theorem d_KReader_makes_28 : decode b_KReader_makes 28 = .ok (.iload 4, 2) := by decide +kernel
theorem d_KReader_makes_30 : decode b_KReader_makes 30 = .ok (.aload_n 0, 1) := by decide +kernel
theorem d_KReader_makes_31 : decode b_KReader_makes 31 = .ok (.getfield 224, 3) := by decide +kernel
theorem d_KReader_makes_34 : decode b_KReader_makes 34 = .ok (.if_icmp .ge 101, 3) := by decide +kernel
theorem d_KReader_makes_37 : decode b_KReader_makes 37 = .ok (.iconst 0, 1) := by decide +kernel
theorem d_KReader_makes_38 : decode b_KReader_makes 38 = .ok (.istore 5, 2) := by decide +kernel
theorem d_KReader_makes_40 : decode b_KReader_makes 40 = .ok (.iload 5, 2) := by decide +kernel
theorem d_KReader_makes_42 : decode b_KReader_makes 42 = .ok (.iload_n 3, 1) := by decide +kernel
theorem d_KReader_makes_43 : decode b_KReader_makes 43 = .ok (.if_icmp .ge 23, 3) := by decide +kernel
theorem d_KReader_makes_46 : decode b_KReader_makes 46 = .ok (.aload_n 0, 1) := by decide +kernel
theorem d_KReader_makes_47 : decode b_KReader_makes 47 = .ok (.getfield 34, 3) := by decide +kernel
theorem d_KReader_makes_50 : decode b_KReader_makes 50 = .ok (.iload 5, 2) := by decide +kernel
theorem d_KReader_makes_52 : decode b_KReader_makes 52 = .ok (.aload_n 0, 1) := by decide +kernel
theorem d_KReader_makes_53 : decode b_KReader_makes 53 = .ok (.getfield 37, 3) := by decide +kernel
theorem d_KReader_makes_56 : decode b_KReader_makes 56 = .ok (.iload 5, 2) := by decide +kernel
theorem d_KReader_makes_58 : decode b_KReader_makes 58 = .ok (.baload, 1) := by decide +kernel
theorem d_KReader_makes_59 : decode b_KReader_makes 59 = .ok (.bastore, 1) := by decide +kernel
theorem d_KReader_makes_60 : decode b_KReader_makes 60 = .ok (.iinc 5 1, 3) := by decide +kernel
theorem d_KReader_makes_63 : decode b_KReader_makes 63 = .ok (.goto (-23), 3) := by decide +kernel
theorem d_KReader_makes_66 : decode b_KReader_makes 66 = .ok (.aload_n 0, 1) := by decide +kernel
theorem d_KReader_makes_67 : decode b_KReader_makes 67 = .ok (.iload_n 3, 1) := by decide +kernel
theorem d_KReader_makes_68 : decode b_KReader_makes 68 = .ok (.invokevirtual 604, 3) := by decide +kernel
theorem d_KReader_makes_71 : decode b_KReader_makes 71 = .ok (.iconst 0, 1) := by decide +kernel
theorem d_KReader_makes_72 : decode b_KReader_makes 72 = .ok (.istore 5, 2) := by decide +kernel
theorem d_KReader_makes_74 : decode b_KReader_makes 74 = .ok (.iload 5, 2) := by decide +kernel
theorem d_KReader_makes_76 : decode b_KReader_makes 76 = .ok (.iload_n 3, 1) := by decide +kernel
theorem d_KReader_makes_77 : decode b_KReader_makes 77 = .ok (.if_icmp .ge 52, 3) := by decide +kernel
theorem d_KReader_makes_80 : decode b_KReader_makes 80 = .ok (.aload_n 0, 1) := by decide +kernel
theorem d_KReader_makes_81 : decode b_KReader_makes 81 = .ok (.getfield 34, 3) := by decide +kernel
theorem d_KReader_makes_84 : decode b_KReader_makes 84 = .ok (.iload 5, 2) := by decide +kernel
theorem d_KReader_makes_86 : decode b_KReader_makes 86 = .ok (.baload, 1) := by decide +kernel
theorem d_KReader_makes_87 : decode b_KReader_makes 87 = .ok (.ifCond .eq 36, 3) := by decide +kernel
theorem d_KReader_makes_90 : decode b_KReader_makes 90 = .ok (.aload_n 0, 1) := by decide +kernel
theorem d_KReader_makes_91 : decode b_KReader_makes 91 = .ok (.getfield 102, 3) := by decide +kernel
theorem d_KReader_makes_94 : decode b_KReader_makes 94 = .ok (.aload_n 0, 1) := by decide +kernel
theorem d_KReader_makes_95 : decode b_KReader_makes 95 = .ok (.getfield 31, 3) := by decide +kernel
theorem d_KReader_makes_98 : decode b_KReader_makes 98 = .ok (.iload 5, 2) := by decide +kernel
theorem d_KReader_makes_100 : decode b_KReader_makes 100 = .ok (.iaload, 1) := by decide +kernel
theorem d_KReader_makes_101 : decode b_KReader_makes 101 = .ok (.iaload, 1) := by decide +kernel
theorem d_KReader_makes_102 : decode b_KReader_makes 102 = .ok (.aload_n 0, 1) := by decide +kernel
theorem d_KReader_makes_103 : decode b_KReader_makes 103 = .ok (.getfield 28, 3) := by decide +kernel
theorem d_KReader_makes_106 : decode b_KReader_makes 106 = .ok (.iload 4, 2) := by decide +kernel
theorem d_KReader_makes_108 : decode b_KReader_makes 108 = .ok (.iaload, 1) := by decide +kernel
theorem d_KReader_makes_109 : decode b_KReader_makes 109 = .ok (.if_icmp .ne 14, 3) := by decide +kernel
theorem d_KReader_makes_112 : decode b_KReader_makes 112 = .ok (.aload_n 0, 1) := by decide +kernel
theorem d_KReader_makes_113 : decode b_KReader_makes 113 = .ok (.aload_n 0, 1) := by decide +kernel
theorem d_KReader_makes_114 : decode b_KReader_makes 114 = .ok (.getfield 31, 3) := by decide +kernel
theorem d_KReader_makes_117 : decode b_KReader_makes 117 = .ok (.iload 5, 2) := by decide +kernel
theorem d_KReader_makes_119 : decode b_KReader_makes 119 = .ok (.iaload, 1) := by decide +kernel
theorem d_KReader_makes_120 : decode b_KReader_makes 120 = .ok (.invokevirtual 610, 3) := by decide +kernel
theorem d_KReader_makes_123 : decode b_KReader_makes 123 = .ok (.iinc 5 1, 3) := by decide +kernel
theorem d_KReader_makes_126 : decode b_KReader_makes 126 = .ok (.goto (-52), 3) := by decide +kernel
theorem d_KReader_makes_129 : decode b_KReader_makes 129 = .ok (.iinc 4 1, 3) := by decide +kernel
theorem d_KReader_makes_132 : decode b_KReader_makes 132 = .ok (.goto (-104), 3) := by decide +kernel
theorem d_KReader_makes_135 : decode b_KReader_makes 135 = .ok (.aload_n 0, 1) := by decide +kernel
theorem d_KReader_makes_136 : decode b_KReader_makes 136 = .ok (.getfield 598, 3) := by decide +kernel
theorem d_KReader_makes_139 : decode b_KReader_makes 139 = .ok (.ireturn, 1) := by decide +kernel
/-- KReader_makes -/
def w_KReader_makes (L : Nat → Nat) (a1 : Int) (a2 : Int) (Q : Int → IS → Prop) (σ : IS) : Prop := w_KReader_leafs L a1 (fun v2 σ1 => w_KReader_clearLater L v2 (fun σ3 => w_KReader_enter L 70 a1 (fun σ5 => w_KReader_isNullable L 70 a1 (fun v8 σ7 => is01 v8 ∧ WL (fun (K9 : Int → IS → Prop) (s11 : Int) (σ12 : IS) => if s11 < (σ12.1 16 66) then WL (fun (K15 : Int → IS → Prop) (s17 : Int) (σ18 : IS) => if s17 < v2 then inL L 174 s17 ∧ inL L 173 s17 ∧ is01 (σ18.2 174 (Int.toNat s17)) ∧ inR (s17 + 1) ∧ K15 (s17 + 1) (pr σ18 173 (Int.toNat s17) (σ18.2 174 (Int.toNat s17))) else w_KReader_clearLater L v2 (fun σ20 => WL (fun (K22 : Int → IS → Prop) (s24 : Int) (σ25 : IS) => if s24 < v2 then inL L 173 s24 ∧ WJ (fun (s30 : Unit) (σ31 : IS) => inR (s24 + 1) ∧ K22 (s24 + 1) σ31) (fun J28 => ((¬ (σ25.2 173 (Int.toNat s24)) = 0 → (inL L 172 s24 ∧ inL L 195 (σ25.2 172 (Int.toNat s24)) ∧ inL L 171 s11))) ∧ if ¬ (σ25.2 173 (Int.toNat s24)) = 0 ∧ ((σ25.2 195 (Int.toNat (σ25.2 172 (Int.toNat s24)))) = (σ25.2 171 (Int.toNat s11))) then inL L 172 s24 ∧ w_KReader_leave L (σ25.2 172 (Int.toNat s24)) (fun σ36 => J28 () σ36) σ25 else J28 () σ25) else inR (s11 + 1) ∧ K9 (s11 + 1) σ25) 0 σ20) σ18) 0 σ12 else is01 (σ12.1 16 73) ∧ Q (σ12.1 16 73) σ12) a2 (pf σ7 16 73 v8)) σ5) σ3) σ1) σ
set_option maxHeartbeats 4000000 in
set_option maxRecDepth 20000 in
theorem s_KReader_makes {L : Nat → Nat} (hL : ∀ r, L r < 2147483648) {d : Nat} (hd : 72 ≤ d) {a1 : Int} {a2 : Int} {Q : Int → IS → Prop} {σ : IS}  (h : w_KReader_makes L a1 a2 Q σ) : OkI BF L d 15 b_KReader_makes 6 2 0 [] [some (.inr 16), some (.inl a1), some (.inl a2)] σ (qi Q) := by
  unfold w_KReader_makes at h
  obtain ⟨d, rfl⟩ : ∃ e, d = e + 1 := ⟨d - 1, by omega⟩
  refine k_sb (lv' := [some (.inr 16), some (.inl a1), some (.inl a2), none, none, none]) (sb_s (sb_s (sb_s (sb_e (sb_e (sb_e sb_nil)))))) ?_
  refine k_aload_n d_KReader_makes_0 rfl ?_
  refine k_iload_n d_KReader_makes_1 rfl ?_
  refine k_cvi [.inl a1] d_KReader_makes_2 ml_15_601 rfl rfl ob_16 rfl (s_KReader_leafs hL (by omega)  h) (fun v2 σ1 h => ?_)
  refine k_istore_n (lv' := [some (.inr 16), some (.inl a1), some (.inl a2), some (.inl v2), none, none]) d_KReader_makes_5 rfl rfl ?_
  refine k_aload_n d_KReader_makes_6 rfl ?_
  refine k_iload_n d_KReader_makes_7 rfl ?_
  refine k_cvv [.inl v2] d_KReader_makes_8 ml_15_604 rfl rfl ob_16 rfl (s_KReader_clearLater hL (by omega)  h) (fun σ3 h => ?_)
  refine k_aload_n d_KReader_makes_11 rfl ?_
  refine k_iload_n d_KReader_makes_12 rfl ?_
  refine k_cvv [.inl a1] d_KReader_makes_13 ml_15_595 rfl rfl ob_16 rfl (s_KReader_enter hL 70 (by omega)  h) (fun σ5 h => ?_)
  refine k_aload_n d_KReader_makes_16 rfl ?_
  refine k_aload_n d_KReader_makes_17 rfl ?_
  refine k_iload_n d_KReader_makes_18 rfl ?_
  refine k_cvi [.inl a1] d_KReader_makes_19 ml_15_592 rfl rfl ob_16 rfl (s_KReader_isNullable hL 70 (by omega)  h) (fun v8 σ7 h => ?_)
  obtain ⟨p51, h⟩ := h
  refine k_putZ d_KReader_makes_22 fl_15_598 ob_16 rfl p51 ?_
  refine k_iload_n d_KReader_makes_25 rfl ?_
  refine k_istore (lv' := [some (.inr 16), some (.inl a1), some (.inl a2), some (.inl v2), some (.inl a2), none]) d_KReader_makes_26 rfl rfl ?_
  refine k_sb (lv' := [some (.inr 16), none, none, some (.inl v2), some (.inl a2), none]) (sb_s (sb_n (sb_n (sb_s (sb_s (sb_s sb_nil)))))) ?_
  refine k_loop (S := Int) (st := fun _ => []) (lv := fun s11 => [some (.inr 16), none, none, some (.inl v2), some (.inl s11), none]) (fun K9 hK10 s11 σ12 h => ?_) a2 _ h
  refine k_iload d_KReader_makes_28 rfl ?_
  refine k_aload_n d_KReader_makes_30 rfl ?_
  refine k_getI (x := (σ12.1 16 66)) d_KReader_makes_31 fl_15_224 ob_16 rfl rfl ?_
  refine k_icge d_KReader_makes_34 rfl (fun c13 => ?_) (fun c13 => ?_)
  · have h := ineg c13 h
    refine k_aload_n d_KReader_makes_135 rfl ?_
    refine k_getI (x := (σ12.1 16 73)) d_KReader_makes_136 fl_15_598 ob_16 rfl rfl ?_
    obtain ⟨p14, h⟩ := h
    exact k_iret d_KReader_makes_139 (Or.inr ⟨rfl, p14⟩) h
  · have h := ipos c13 h
    refine k_iconst d_KReader_makes_37 cI_0 ?_
    refine k_istore (lv' := [some (.inr 16), none, none, some (.inl v2), some (.inl s11), some (.inl 0)]) d_KReader_makes_38 rfl rfl ?_
    refine k_sb (lv' := [some (.inr 16), none, none, some (.inl v2), some (.inl s11), some (.inl 0)]) (sb_s (sb_s (sb_s (sb_s (sb_s (sb_s sb_nil)))))) ?_
    refine k_loop (S := Int) (st := fun _ => []) (lv := fun s17 => [some (.inr 16), none, none, some (.inl v2), some (.inl s11), some (.inl s17)]) (fun K15 hK16 s17 σ18 h => ?_) 0 _ h
    refine k_iload d_KReader_makes_40 rfl ?_
    refine k_iload_n d_KReader_makes_42 rfl ?_
    refine k_icge d_KReader_makes_43 rfl (fun c19 => ?_) (fun c19 => ?_)
    · have h := ineg c19 h
      refine k_aload_n d_KReader_makes_66 rfl ?_
      refine k_iload_n d_KReader_makes_67 rfl ?_
      refine k_cvv [.inl v2] d_KReader_makes_68 ml_15_604 rfl rfl ob_16 rfl (s_KReader_clearLater hL (by omega)  h) (fun σ20 h => ?_)
      refine k_iconst d_KReader_makes_71 cI_0 ?_
      refine k_istore (lv' := [some (.inr 16), none, none, some (.inl v2), some (.inl s11), some (.inl 0)]) d_KReader_makes_72 rfl rfl ?_
      refine k_sb (lv' := [some (.inr 16), none, none, some (.inl v2), some (.inl s11), some (.inl 0)]) (sb_s (sb_s (sb_s (sb_s (sb_s (sb_s sb_nil)))))) ?_
      refine k_loop (S := Int) (st := fun _ => []) (lv := fun s24 => [some (.inr 16), none, none, some (.inl v2), some (.inl s11), some (.inl s24)]) (fun K22 hK23 s24 σ25 h => ?_) 0 _ h
      refine k_iload d_KReader_makes_74 rfl ?_
      refine k_iload_n d_KReader_makes_76 rfl ?_
      refine k_icge d_KReader_makes_77 rfl (fun c26 => ?_) (fun c26 => ?_)
      · have h := ineg c26 h
        obtain ⟨p27, h⟩ := h
        refine k_iinc (lv' := [some (.inr 16), none, none, some (.inl v2), some (.inl (s11 + 1)), some (.inl s24)]) d_KReader_makes_129 cI_1 rfl rfl p27 rfl ?_
        refine k_goto d_KReader_makes_132 rfl ?_
        exact k_sb (sb_s (sb_s (sb_s (sb_s (sb_s (sb_n sb_nil)))))) (hK10 (s11 + 1) _ h)
      · have h := ipos c26 h
        refine k_aload_n d_KReader_makes_80 rfl ?_
        refine k_getR d_KReader_makes_81 fl_15_34 ob_16 rfl ?_
        refine k_iload d_KReader_makes_84 rfl ?_
        obtain ⟨p46, h⟩ := h
        refine k_bld (x := (σ25.2 173 (Int.toNat s24))) d_KReader_makes_86 rB_173 p46 rfl ?_
        refine k_join (S := Unit) (pc' := 123) (st' := fun s30 => []) (lv' := fun s30 => [some (.inr 16), none, none, some (.inl v2), some (.inl s11), some (.inl s24)]) (fun s30 σ31 h => ?_) (fun J28 hJ29 h => ?_) h
        · obtain ⟨p32, h⟩ := h
          refine k_iinc (lv' := [some (.inr 16), none, none, some (.inl v2), some (.inl s11), some (.inl (s24 + 1))]) d_KReader_makes_123 cI_1 rfl rfl p32 rfl ?_
          refine k_goto d_KReader_makes_126 rfl ?_
          exact k_sb (sb_s (sb_s (sb_s (sb_s (sb_s (sb_s sb_nil)))))) (hK23 (s24 + 1) _ h)
        · obtain ⟨pt42, h⟩ := h
          have hX39 : (¬ (σ25.2 173 (Int.toNat s24)) = 0 ∧ ((σ25.2 195 (Int.toNat (σ25.2 172 (Int.toNat s24)))) = (σ25.2 171 (Int.toNat s11)))) → OkI BF L (d + 1) 15 b_KReader_makes 6 2 112 [] [some (.inr 16), none, none, some (.inl v2), some (.inl s11), some (.inl s24)] σ25 (qi Q) := fun e41 => by
            have h := ipos e41 h
            refine k_aload_n d_KReader_makes_112 rfl ?_
            refine k_aload_n d_KReader_makes_113 rfl ?_
            refine k_getR d_KReader_makes_114 fl_15_31 ob_16 rfl ?_
            refine k_iload d_KReader_makes_117 rfl ?_
            obtain ⟨p38, h⟩ := h
            refine k_ild (x := (σ25.2 172 (Int.toNat s24))) d_KReader_makes_119 rI_172 p38 rfl ?_
            refine k_cvv [.inl (σ25.2 172 (Int.toNat s24))] d_KReader_makes_120 ml_15_610 rfl rfl ob_16 rfl (s_KReader_leave hL (by omega)  h) (fun σ36 h => ?_)
            exact k_sb (sb_s (sb_s (sb_s (sb_s (sb_s (sb_s sb_nil)))))) (hJ29 () _ h)
          have hY40 : ¬ (¬ (σ25.2 173 (Int.toNat s24)) = 0 ∧ ((σ25.2 195 (Int.toNat (σ25.2 172 (Int.toNat s24)))) = (σ25.2 171 (Int.toNat s11)))) → OkI BF L (d + 1) 15 b_KReader_makes 6 2 123 [] [some (.inr 16), none, none, some (.inl v2), some (.inl s11), some (.inl s24)] σ25 (qi Q) := fun e41 => by
            have h := ineg e41 h
            exact k_sb (sb_s (sb_s (sb_s (sb_s (sb_s (sb_s sb_nil)))))) (hJ29 () _ h)
          have pb43 := pt42
          refine k_ifeq d_KReader_makes_87 rfl (fun c44 => ?_) (fun c44 => ?_)
          · exact hY40 (fun z => z.1 c44)
          · have pb43 := pb43 c44
            obtain ⟨p33, p34, p35⟩ := pb43
            refine k_aload_n d_KReader_makes_90 rfl ?_
            refine k_getR d_KReader_makes_91 fl_15_102 ob_16 rfl ?_
            refine k_aload_n d_KReader_makes_94 rfl ?_
            refine k_getR d_KReader_makes_95 fl_15_31 ob_16 rfl ?_
            refine k_iload d_KReader_makes_98 rfl ?_
            refine k_ild (x := (σ25.2 172 (Int.toNat s24))) d_KReader_makes_100 rI_172 p33 rfl ?_
            refine k_ild (x := (σ25.2 195 (Int.toNat (σ25.2 172 (Int.toNat s24))))) d_KReader_makes_101 rI_195 p34 rfl ?_
            refine k_aload_n d_KReader_makes_102 rfl ?_
            refine k_getR d_KReader_makes_103 fl_15_28 ob_16 rfl ?_
            refine k_iload d_KReader_makes_106 rfl ?_
            refine k_ild (x := (σ25.2 171 (Int.toNat s11))) d_KReader_makes_108 rI_171 p35 rfl ?_
            refine k_icne d_KReader_makes_109 rfl (fun c45 => ?_) (fun c45 => ?_)
            · exact hY40 (fun z => (c45) z.2)
            · exact hX39 (⟨c44, c45⟩)
    · have h := ipos c19 h
      refine k_aload_n d_KReader_makes_46 rfl ?_
      refine k_getR d_KReader_makes_47 fl_15_34 ob_16 rfl ?_
      refine k_iload d_KReader_makes_50 rfl ?_
      refine k_aload_n d_KReader_makes_52 rfl ?_
      refine k_getR d_KReader_makes_53 fl_15_37 ob_16 rfl ?_
      refine k_iload d_KReader_makes_56 rfl ?_
      obtain ⟨p50, h⟩ := h
      refine k_bld (x := (σ18.2 174 (Int.toNat s17))) d_KReader_makes_58 rB_174 p50 rfl ?_
      obtain ⟨p48, h⟩ := h
      obtain ⟨p49, h⟩ := h
      refine k_zst d_KReader_makes_59 rz_173 p48 p49 ?_
      obtain ⟨p47, h⟩ := h
      refine k_iinc (lv' := [some (.inr 16), none, none, some (.inl v2), some (.inl s11), some (.inl (s17 + 1))]) d_KReader_makes_60 cI_1 rfl rfl p47 rfl ?_
      refine k_goto d_KReader_makes_63 rfl ?_
      exact k_sb (sb_s (sb_s (sb_s (sb_s (sb_s (sb_s sb_nil)))))) (hK16 (s17 + 1) _ h)
theorem d_KReader_isFit_0 : decode b_KReader_isFit 0 = .ok (.aload_n 0, 1) := by decide +kernel
theorem d_KReader_isFit_1 : decode b_KReader_isFit 1 = .ok (.getfield 25, 3) := by decide +kernel
theorem d_KReader_isFit_4 : decode b_KReader_isFit 4 = .ok (.aload_n 0, 1) := by decide +kernel
theorem d_KReader_isFit_5 : decode b_KReader_isFit 5 = .ok (.getfield 221, 3) := by decide +kernel
theorem d_KReader_isFit_8 : decode b_KReader_isFit 8 = .ok (.iaload, 1) := by decide +kernel
theorem d_KReader_isFit_9 : decode b_KReader_isFit 9 = .ok (.istore_n 2, 1) := by decide +kernel
theorem d_KReader_isFit_10 : decode b_KReader_isFit 10 = .ok (.aload_n 0, 1) := by decide +kernel
theorem d_KReader_isFit_11 : decode b_KReader_isFit 11 = .ok (.getfield 87, 3) := by decide +kernel
theorem d_KReader_isFit_14 : decode b_KReader_isFit 14 = .ok (.iload_n 1, 1) := by decide +kernel
theorem d_KReader_isFit_15 : decode b_KReader_isFit 15 = .ok (.baload, 1) := by decide +kernel
theorem d_KReader_isFit_16 : decode b_KReader_isFit 16 = .ok (.iconst 1, 1) := by decide +kernel
theorem d_KReader_isFit_17 : decode b_KReader_isFit 17 = .ok (.if_icmp .ne 21, 3) := by decide +kernel
theorem d_KReader_isFit_20 : decode b_KReader_isFit 20 = .ok (.aload_n 0, 1) := by decide +kernel
theorem d_KReader_isFit_21 : decode b_KReader_isFit 21 = .ok (.getfield 18, 3) := by decide +kernel
theorem d_KReader_isFit_24 : decode b_KReader_isFit 24 = .ok (.aload_n 0, 1) := by decide +kernel
theorem d_KReader_isFit_25 : decode b_KReader_isFit 25 = .ok (.getfield 221, 3) := by decide +kernel
theorem d_KReader_isFit_28 : decode b_KReader_isFit 28 = .ok (.baload, 1) := by decide +kernel
theorem d_KReader_isFit_29 : decode b_KReader_isFit 29 = .ok (.ifCond .ne 7, 3) := by decide +kernel
theorem d_KReader_isFit_32 : decode b_KReader_isFit 32 = .ok (.iconst 1, 1) := by decide +kernel
theorem d_KReader_isFit_33 : decode b_KReader_isFit 33 = .ok (.goto 4, 3) := by decide +kernel
theorem d_KReader_isFit_36 : decode b_KReader_isFit 36 = .ok (.iconst 0, 1) := by decide +kernel
theorem d_KReader_isFit_37 : decode b_KReader_isFit 37 = .ok (.ireturn, 1) := by decide +kernel
theorem d_KReader_isFit_38 : decode b_KReader_isFit 38 = .ok (.aload_n 0, 1) := by decide +kernel
theorem d_KReader_isFit_39 : decode b_KReader_isFit 39 = .ok (.getfield 87, 3) := by decide +kernel
theorem d_KReader_isFit_42 : decode b_KReader_isFit 42 = .ok (.iload_n 1, 1) := by decide +kernel
theorem d_KReader_isFit_43 : decode b_KReader_isFit 43 = .ok (.baload, 1) := by decide +kernel
theorem d_KReader_isFit_44 : decode b_KReader_isFit 44 = .ok (.iconst 4, 1) := by decide +kernel
theorem d_KReader_isFit_45 : decode b_KReader_isFit 45 = .ok (.if_icmp .ne 35, 3) := by decide +kernel
theorem d_KReader_isFit_48 : decode b_KReader_isFit 48 = .ok (.aload_n 0, 1) := by decide +kernel
theorem d_KReader_isFit_49 : decode b_KReader_isFit 49 = .ok (.getfield 22, 3) := by decide +kernel
theorem d_KReader_isFit_52 : decode b_KReader_isFit 52 = .ok (.aload_n 0, 1) := by decide +kernel
theorem d_KReader_isFit_53 : decode b_KReader_isFit 53 = .ok (.getfield 221, 3) := by decide +kernel
theorem d_KReader_isFit_56 : decode b_KReader_isFit 56 = .ok (.baload, 1) := by decide +kernel
theorem d_KReader_isFit_57 : decode b_KReader_isFit 57 = .ok (.ifCond .ne 21, 3) := by decide +kernel
theorem d_KReader_isFit_60 : decode b_KReader_isFit 60 = .ok (.aload_n 0, 1) := by decide +kernel
theorem d_KReader_isFit_61 : decode b_KReader_isFit 61 = .ok (.aload_n 0, 1) := by decide +kernel
theorem d_KReader_isFit_62 : decode b_KReader_isFit 62 = .ok (.getfield 90, 3) := by decide +kernel
theorem d_KReader_isFit_65 : decode b_KReader_isFit 65 = .ok (.iload_n 1, 1) := by decide +kernel
theorem d_KReader_isFit_66 : decode b_KReader_isFit 66 = .ok (.iaload, 1) := by decide +kernel
theorem d_KReader_isFit_67 : decode b_KReader_isFit 67 = .ok (.iload_n 2, 1) := by decide +kernel
theorem d_KReader_isFit_68 : decode b_KReader_isFit 68 = .ok (.invokevirtual 799, 3) := by decide +kernel
theorem d_KReader_isFit_71 : decode b_KReader_isFit 71 = .ok (.ifCond .eq 7, 3) := by decide +kernel
theorem d_KReader_isFit_74 : decode b_KReader_isFit 74 = .ok (.iconst 1, 1) := by decide +kernel
theorem d_KReader_isFit_75 : decode b_KReader_isFit 75 = .ok (.goto 4, 3) := by decide +kernel
theorem d_KReader_isFit_78 : decode b_KReader_isFit 78 = .ok (.iconst 0, 1) := by decide +kernel
theorem d_KReader_isFit_79 : decode b_KReader_isFit 79 = .ok (.ireturn, 1) := by decide +kernel
theorem d_KReader_isFit_80 : decode b_KReader_isFit 80 = .ok (.iconst 1, 1) := by decide +kernel
theorem d_KReader_isFit_81 : decode b_KReader_isFit 81 = .ok (.istore_n 3, 1) := by decide +kernel
theorem d_KReader_isFit_82 : decode b_KReader_isFit 82 = .ok (.iload_n 2, 1) := by decide +kernel
theorem d_KReader_isFit_83 : decode b_KReader_isFit 83 = .ok (.istore 4, 2) := by decide +kernel
theorem d_KReader_isFit_85 : decode b_KReader_isFit 85 = .ok (.iload 4, 2) := by decide +kernel
theorem d_KReader_isFit_87 : decode b_KReader_isFit 87 = .ok (.aload_n 0, 1) := by decide +kernel
theorem d_KReader_isFit_88 : decode b_KReader_isFit 88 = .ok (.getfield 224, 3) := by decide +kernel
theorem d_KReader_isFit_91 : decode b_KReader_isFit 91 = .ok (.if_icmp .ge 121, 3) := by decide +kernel
theorem d_KReader_isFit_94 : decode b_KReader_isFit 94 = .ok (.aload_n 0, 1) := by decide +kernel
theorem d_KReader_isFit_95 : decode b_KReader_isFit 95 = .ok (.getfield 87, 3) := by decide +kernel
theorem d_KReader_isFit_98 : decode b_KReader_isFit 98 = .ok (.iload_n 1, 1) := by decide +kernel
theorem d_KReader_isFit_99 : decode b_KReader_isFit 99 = .ok (.baload, 1) := by decide +kernel
theorem d_KReader_isFit_100 : decode b_KReader_isFit 100 = .ok (.iconst 2, 1) := by decide +kernel
theorem d_KReader_isFit_101 : decode b_KReader_isFit 101 = .ok (.if_icmp .ne 21, 3) := by decide +kernel
theorem d_KReader_isFit_104 : decode b_KReader_isFit 104 = .ok (.aload_n 0, 1) := by decide +kernel
theorem d_KReader_isFit_105 : decode b_KReader_isFit 105 = .ok (.aload_n 0, 1) := by decide +kernel
theorem d_KReader_isFit_106 : decode b_KReader_isFit 106 = .ok (.getfield 28, 3) := by decide +kernel
theorem d_KReader_isFit_109 : decode b_KReader_isFit 109 = .ok (.iload 4, 2) := by decide +kernel
theorem d_KReader_isFit_111 : decode b_KReader_isFit 111 = .ok (.iaload, 1) := by decide +kernel
theorem d_KReader_isFit_112 : decode b_KReader_isFit 112 = .ok (.invokevirtual 558, 3) := by decide +kernel
theorem d_KReader_isFit_115 : decode b_KReader_isFit 115 = .ok (.ifCond .lt 7, 3) := by decide +kernel
theorem d_KReader_isFit_118 : decode b_KReader_isFit 118 = .ok (.iconst 1, 1) := by decide +kernel
theorem d_KReader_isFit_119 : decode b_KReader_isFit 119 = .ok (.goto 4, 3) := by decide +kernel
theorem d_KReader_isFit_122 : decode b_KReader_isFit 122 = .ok (.iconst 0, 1) := by decide +kernel
theorem d_KReader_isFit_123 : decode b_KReader_isFit 123 = .ok (.istore 5, 2) := by decide +kernel
theorem d_KReader_isFit_125 : decode b_KReader_isFit 125 = .ok (.iconst 0, 1) := by decide +kernel
theorem d_KReader_isFit_126 : decode b_KReader_isFit 126 = .ok (.istore 6, 2) := by decide +kernel
theorem d_KReader_isFit_128 : decode b_KReader_isFit 128 = .ok (.iload 6, 2) := by decide +kernel
theorem d_KReader_isFit_130 : decode b_KReader_isFit 130 = .ok (.aload_n 0, 1) := by decide +kernel
theorem d_KReader_isFit_131 : decode b_KReader_isFit 131 = .ok (.getfield 93, 3) := by decide +kernel
theorem d_KReader_isFit_134 : decode b_KReader_isFit 134 = .ok (.iload_n 1, 1) := by decide +kernel
theorem d_KReader_isFit_135 : decode b_KReader_isFit 135 = .ok (.iaload, 1) := by decide +kernel
theorem d_KReader_isFit_136 : decode b_KReader_isFit 136 = .ok (.if_icmp .ge 55, 3) := by decide +kernel
theorem d_KReader_isFit_139 : decode b_KReader_isFit 139 = .ok (.aload_n 0, 1) := by decide +kernel
theorem d_KReader_isFit_140 : decode b_KReader_isFit 140 = .ok (.getfield 87, 3) := by decide +kernel
theorem d_KReader_isFit_143 : decode b_KReader_isFit 143 = .ok (.iload_n 1, 1) := by decide +kernel
theorem d_KReader_isFit_144 : decode b_KReader_isFit 144 = .ok (.baload, 1) := by decide +kernel
theorem d_KReader_isFit_145 : decode b_KReader_isFit 145 = .ok (.iconst 3, 1) := by decide +kernel
theorem d_KReader_isFit_146 : decode b_KReader_isFit 146 = .ok (.if_icmp .ne 45, 3) := by decide +kernel
theorem d_KReader_isFit_149 : decode b_KReader_isFit 149 = .ok (.iload 5, 2) := by decide +kernel
theorem d_KReader_isFit_151 : decode b_KReader_isFit 151 = .ok (.ifCond .ne 27, 3) := by decide +kernel
theorem d_KReader_isFit_154 : decode b_KReader_isFit 154 = .ok (.aload_n 0, 1) := by decide +kernel
theorem d_KReader_isFit_155 : decode b_KReader_isFit 155 = .ok (.getfield 138, 3) := by decide +kernel
theorem d_KReader_isFit_158 : decode b_KReader_isFit 158 = .ok (.aload_n 0, 1) := by decide +kernel
theorem d_KReader_isFit_159 : decode b_KReader_isFit 159 = .ok (.getfield 90, 3) := by decide +kernel
theorem d_KReader_isFit_162 : decode b_KReader_isFit 162 = .ok (.iload_n 1, 1) := by decide +kernel
theorem d_KReader_isFit_163 : decode b_KReader_isFit 163 = .ok (.iaload, 1) := by decide +kernel
theorem d_KReader_isFit_164 : decode b_KReader_isFit 164 = .ok (.iload 6, 2) := by decide +kernel
theorem d_KReader_isFit_166 : decode b_KReader_isFit 166 = .ok (.iadd, 1) := by decide +kernel
theorem d_KReader_isFit_167 : decode b_KReader_isFit 167 = .ok (.iaload, 1) := by decide +kernel
theorem d_KReader_isFit_168 : decode b_KReader_isFit 168 = .ok (.aload_n 0, 1) := by decide +kernel
theorem d_KReader_isFit_169 : decode b_KReader_isFit 169 = .ok (.getfield 28, 3) := by decide +kernel
theorem d_KReader_isFit_172 : decode b_KReader_isFit 172 = .ok (.iload 4, 2) := by decide +kernel
theorem d_KReader_isFit_174 : decode b_KReader_isFit 174 = .ok (.iaload, 1) := by decide +kernel
theorem d_KReader_isFit_175 : decode b_KReader_isFit 175 = .ok (.if_icmp .ne 7, 3) := by decide +kernel
theorem d_KReader_isFit_178 : decode b_KReader_isFit 178 = .ok (.iconst 1, 1) := by decide +kernel
theorem d_KReader_isFit_179 : decode b_KReader_isFit 179 = .ok (.goto 4, 3) := by decide +kernel
theorem d_KReader_isFit_182 : decode b_KReader_isFit 182 = .ok (.iconst 0, 1) := by decide +kernel
theorem d_KReader_isFit_183 : decode b_KReader_isFit 183 = .ok (.istore 5, 2) := by decide +kernel
theorem d_KReader_isFit_185 : decode b_KReader_isFit 185 = .ok (.iinc 6 1, 3) := by decide +kernel
theorem d_KReader_isFit_188 : decode b_KReader_isFit 188 = .ok (.goto (-60), 3) := by decide +kernel
theorem d_KReader_isFit_191 : decode b_KReader_isFit 191 = .ok (.iload_n 3, 1) := by decide +kernel
theorem d_KReader_isFit_192 : decode b_KReader_isFit 192 = .ok (.ifCond .eq 12, 3) := by decide +kernel
theorem d_KReader_isFit_195 : decode b_KReader_isFit 195 = .ok (.iload 5, 2) := by decide +kernel
theorem d_KReader_isFit_197 : decode b_KReader_isFit 197 = .ok (.ifCond .eq 7, 3) := by decide +kernel
theorem d_KReader_isFit_200 : decode b_KReader_isFit 200 = .ok (.iconst 1, 1) := by decide +kernel
theorem d_KReader_isFit_201 : decode b_KReader_isFit 201 = .ok (.goto 4, 3) := by decide +kernel
theorem d_KReader_isFit_204 : decode b_KReader_isFit 204 = .ok (.iconst 0, 1) := by decide +kernel
theorem d_KReader_isFit_205 : decode b_KReader_isFit 205 = .ok (.istore_n 3, 1) := by decide +kernel
theorem d_KReader_isFit_206 : decode b_KReader_isFit 206 = .ok (.iinc 4 1, 3) := by decide +kernel
theorem d_KReader_isFit_209 : decode b_KReader_isFit 209 = .ok (.goto (-124), 3) := by decide +kernel
theorem d_KReader_isFit_212 : decode b_KReader_isFit 212 = .ok (.iload_n 3, 1) := by decide +kernel
theorem d_KReader_isFit_213 : decode b_KReader_isFit 213 = .ok (.ireturn, 1) := by decide +kernel
/-- KReader_isFit -/
def w_KReader_isFit (L : Nat → Nat) (a1 : Int) (Q : Int → IS → Prop) (σ : IS) : Prop := inL L 170 (σ.1 16 64) ∧ inL L 190 a1 ∧ if (σ.2 190 (Int.toNat a1)) = 1 then inL L 168 (σ.1 16 64) ∧ Q (if (σ.2 168 (Int.toNat (σ.1 16 64))) = 0 then (1 : Int) else (0 : Int)) σ else inL L 190 a1 ∧ if (σ.2 190 (Int.toNat a1)) = 4 then inL L 169 (σ.1 16 64) ∧ WJ (fun (s62 : Int) (σ63 : IS) => is01 s62 ∧ Q s62 σ63) (fun J60 => WJ (fun (s67 : Unit) (σ68 : IS) => J60 0 σ68) (fun J65 => if (σ.2 169 (Int.toNat (σ.1 16 64))) = 0 then inL L 191 a1 ∧ w_KReader_makes L (σ.2 191 (Int.toNat a1)) (σ.2 170 (Int.toNat (σ.1 16 64))) (fun v71 σ70 => if v71 = 0 then J65 () σ70 else J60 1 σ70) σ else J65 () σ)) else WL (fun (K3 : Int × Int → IS → Prop) (s5 : Int × Int) (σ6 : IS) => if s5.2 < (σ6.1 16 66) then inL L 190 a1 ∧ WJ (fun (s11 : Int) (σ12 : IS) => WL (fun (K13 : Int × Int → IS → Prop) (s15 : Int × Int) (σ16 : IS) => inL L 192 a1 ∧ ((s15.2 < (σ16.2 192 (Int.toNat a1)) → inL L 190 a1)) ∧ if s15.2 < (σ16.2 192 (Int.toNat a1)) ∧ ((σ16.2 190 (Int.toNat a1)) = 3) then ((s15.1 = 0 → (inL L 191 a1 ∧ inR ((σ16.2 191 (Int.toNat a1)) + s15.2) ∧ inL L 207 ((σ16.2 191 (Int.toNat a1)) + s15.2) ∧ inL L 171 s5.2))) ∧ LETI (if s15.1 = 0 then (if (σ16.2 207 (Int.toNat ((σ16.2 191 (Int.toNat a1)) + s15.2))) = (σ16.2 171 (Int.toNat s5.2)) then (1 : Int) else (0 : Int)) else (1 : Int)) (fun t22 => inR (s15.2 + 1) ∧ K13 (t22, (s15.2 + 1)) σ16) else inR (s5.2 + 1) ∧ K3 ((if s5.1 = 0 then (0 : Int) else (if s15.1 = 0 then (0 : Int) else (1 : Int))), (s5.2 + 1)) σ16) (s11, 0) σ12) (fun J9 => WJ (fun (s52 : Unit) (σ53 : IS) => J9 0 σ53) (fun J50 => if (σ6.2 190 (Int.toNat a1)) = 2 then inL L 171 s5.2 ∧ w_KReader_contentOf L (σ6.2 171 (Int.toNat s5.2)) (fun v56 σ55 => if v56 < 0 then J50 () σ55 else J9 1 σ55) σ6 else J50 () σ6)) else is01 s5.1 ∧ Q s5.1 σ6) (1, (σ.2 170 (Int.toNat (σ.1 16 64)))) σ
set_option maxHeartbeats 4000000 in
set_option maxRecDepth 20000 in
theorem s_KReader_isFit {L : Nat → Nat} (hL : ∀ r, L r < 2147483648) {d : Nat} (hd : 73 ≤ d) {a1 : Int} {Q : Int → IS → Prop} {σ : IS}  (h : w_KReader_isFit L a1 Q σ) : OkI BF L d 15 b_KReader_isFit 7 2 0 [] [some (.inr 16), some (.inl a1)] σ (qi Q) := by
  unfold w_KReader_isFit at h
  obtain ⟨d, rfl⟩ : ∃ e, d = e + 1 := ⟨d - 1, by omega⟩
  refine k_sb (lv' := [some (.inr 16), some (.inl a1), none, none, none, none, none]) (sb_s (sb_s (sb_e (sb_e (sb_e (sb_e (sb_e sb_nil))))))) ?_
  refine k_aload_n d_KReader_isFit_0 rfl ?_
  refine k_getR d_KReader_isFit_1 fl_15_25 ob_16 rfl ?_
  refine k_aload_n d_KReader_isFit_4 rfl ?_
  refine k_getI (x := (σ.1 16 64)) d_KReader_isFit_5 fl_15_221 ob_16 rfl rfl ?_
  obtain ⟨p82, h⟩ := h
  refine k_ild (x := (σ.2 170 (Int.toNat (σ.1 16 64)))) d_KReader_isFit_8 rI_170 p82 rfl ?_
  refine k_istore_n (lv' := [some (.inr 16), some (.inl a1), some (.inl (σ.2 170 (Int.toNat (σ.1 16 64)))), none, none, none, none]) d_KReader_isFit_9 rfl rfl ?_
  refine k_aload_n d_KReader_isFit_10 rfl ?_
  refine k_getR d_KReader_isFit_11 fl_15_87 ob_16 rfl ?_
  refine k_iload_n d_KReader_isFit_14 rfl ?_
  obtain ⟨p81, h⟩ := h
  refine k_bld (x := (σ.2 190 (Int.toNat a1))) d_KReader_isFit_15 rB_190 p81 rfl ?_
  refine k_iconst d_KReader_isFit_16 cI_1 ?_
  refine k_icne d_KReader_isFit_17 rfl (fun c1 => ?_) (fun c1 => ?_)
  · have h := ineg c1 h
    refine k_aload_n d_KReader_isFit_38 rfl ?_
    refine k_getR d_KReader_isFit_39 fl_15_87 ob_16 rfl ?_
    refine k_iload_n d_KReader_isFit_42 rfl ?_
    obtain ⟨p75, h⟩ := h
    refine k_bld (x := (σ.2 190 (Int.toNat a1))) d_KReader_isFit_43 rB_190 p75 rfl ?_
    refine k_iconst d_KReader_isFit_44 cI_4 ?_
    refine k_icne d_KReader_isFit_45 rfl (fun c2 => ?_) (fun c2 => ?_)
    · have h := ineg c2 h
      refine k_iconst d_KReader_isFit_80 cI_1 ?_
      refine k_istore_n (lv' := [some (.inr 16), some (.inl a1), some (.inl (σ.2 170 (Int.toNat (σ.1 16 64)))), some (.inl 1), none, none, none]) d_KReader_isFit_81 rfl rfl ?_
      refine k_iload_n d_KReader_isFit_82 rfl ?_
      refine k_istore (lv' := [some (.inr 16), some (.inl a1), some (.inl (σ.2 170 (Int.toNat (σ.1 16 64)))), some (.inl 1), some (.inl (σ.2 170 (Int.toNat (σ.1 16 64)))), none, none]) d_KReader_isFit_83 rfl rfl ?_
      refine k_sb (lv' := [some (.inr 16), some (.inl a1), none, some (.inl 1), some (.inl (σ.2 170 (Int.toNat (σ.1 16 64)))), none, none]) (sb_s (sb_s (sb_n (sb_s (sb_s (sb_s (sb_s sb_nil))))))) ?_
      refine k_loop (S := Int × Int) (st := fun _ => []) (lv := fun s5 => [some (.inr 16), some (.inl a1), none, some (.inl s5.1), some (.inl s5.2), none, none]) (fun K3 hK4 s5 σ6 h => ?_) (1, (σ.2 170 (Int.toNat (σ.1 16 64)))) _ h
      refine k_iload d_KReader_isFit_85 rfl ?_
      refine k_aload_n d_KReader_isFit_87 rfl ?_
      refine k_getI (x := (σ6.1 16 66)) d_KReader_isFit_88 fl_15_224 ob_16 rfl rfl ?_
      refine k_icge d_KReader_isFit_91 rfl (fun c7 => ?_) (fun c7 => ?_)
      · have h := ineg c7 h
        refine k_iload_n d_KReader_isFit_212 rfl ?_
        obtain ⟨p8, h⟩ := h
        exact k_iret d_KReader_isFit_213 (Or.inr ⟨rfl, p8⟩) h
      · have h := ipos c7 h
        refine k_aload_n d_KReader_isFit_94 rfl ?_
        refine k_getR d_KReader_isFit_95 fl_15_87 ob_16 rfl ?_
        refine k_iload_n d_KReader_isFit_98 rfl ?_
        obtain ⟨p59, h⟩ := h
        refine k_bld (x := (σ6.2 190 (Int.toNat a1))) d_KReader_isFit_99 rB_190 p59 rfl ?_
        refine k_iconst d_KReader_isFit_100 cI_2 ?_
        refine k_join (S := Int) (pc' := 123) (st' := fun s11 => [.inl s11]) (lv' := fun s11 => [some (.inr 16), some (.inl a1), none, some (.inl s5.1), some (.inl s5.2), none, none]) (fun s11 σ12 h => ?_) (fun J9 hJ10 h => ?_) h
        · refine k_istore (lv' := [some (.inr 16), some (.inl a1), none, some (.inl s5.1), some (.inl s5.2), some (.inl s11), none]) d_KReader_isFit_123 rfl rfl ?_
          refine k_iconst d_KReader_isFit_125 cI_0 ?_
          refine k_istore (lv' := [some (.inr 16), some (.inl a1), none, some (.inl s5.1), some (.inl s5.2), some (.inl s11), some (.inl 0)]) d_KReader_isFit_126 rfl rfl ?_
          refine k_sb (lv' := [some (.inr 16), some (.inl a1), none, some (.inl s5.1), some (.inl s5.2), some (.inl s11), some (.inl 0)]) (sb_s (sb_s (sb_s (sb_s (sb_s (sb_s (sb_s sb_nil))))))) ?_
          refine k_loop (S := Int × Int) (st := fun _ => []) (lv := fun s15 => [some (.inr 16), some (.inl a1), none, some (.inl s5.1), some (.inl s5.2), some (.inl s15.1), some (.inl s15.2)]) (fun K13 hK14 s15 σ16 h => ?_) (s11, 0) _ h
          refine k_iload d_KReader_isFit_128 rfl ?_
          refine k_aload_n d_KReader_isFit_130 rfl ?_
          refine k_getR d_KReader_isFit_131 fl_15_93 ob_16 rfl ?_
          refine k_iload_n d_KReader_isFit_134 rfl ?_
          obtain ⟨p49, h⟩ := h
          refine k_ild (x := (σ16.2 192 (Int.toNat a1))) d_KReader_isFit_135 rI_192 p49 rfl ?_
          obtain ⟨pt45, h⟩ := h
          have hX42 : (s15.2 < (σ16.2 192 (Int.toNat a1)) ∧ ((σ16.2 190 (Int.toNat a1)) = 3)) → OkI BF L (d + 1) 15 b_KReader_isFit 7 2 149 [] [some (.inr 16), some (.inl a1), none, some (.inl s5.1), some (.inl s5.2), some (.inl s15.1), some (.inl s15.2)] σ16 (qi Q) := fun e44 => by
            have h := ipos e44 h
            refine k_iload d_KReader_isFit_149 rfl ?_
            obtain ⟨pt26, h⟩ := h
            have hV25 : OkI BF L (d + 1) 15 b_KReader_isFit 7 2 183 [.inl (if s15.1 = 0 then (if (σ16.2 207 (Int.toNat ((σ16.2 191 (Int.toNat a1)) + s15.2))) = (σ16.2 171 (Int.toNat s5.2)) then (1 : Int) else (0 : Int)) else (1 : Int))] [some (.inr 16), some (.inl a1), none, some (.inl s5.1), some (.inl s5.2), some (.inl s15.1), some (.inl s15.2)] σ16 (qi Q) := by
              refine k_letI (fun t22 ht23 h => ?_) h
              refine k_istore (lv' := [some (.inr 16), some (.inl a1), none, some (.inl s5.1), some (.inl s5.2), some (.inl t22), some (.inl s15.2)]) d_KReader_isFit_183 rfl rfl ?_
              obtain ⟨p24, h⟩ := h
              refine k_iinc (lv' := [some (.inr 16), some (.inl a1), none, some (.inl s5.1), some (.inl s5.2), some (.inl t22), some (.inl (s15.2 + 1))]) d_KReader_isFit_185 cI_1 rfl rfl p24 rfl ?_
              refine k_goto d_KReader_isFit_188 rfl ?_
              exact k_sb (sb_s (sb_s (sb_s (sb_s (sb_s (sb_s (sb_s sb_nil))))))) (hK14 (t22, (s15.2 + 1)) _ h)
            have pa27 := pt26
            refine k_ifne d_KReader_isFit_151 rfl (fun c28 => ?_) (fun c28 => ?_)
            · have hV33 := k_eqI (if_neg c28) hV25
              refine k_iconst d_KReader_isFit_178 cI_1 ?_
              refine k_goto d_KReader_isFit_179 rfl ?_
              exact hV33
            · have pa27 := pa27 c28
              have hV29 := k_eqI (if_pos c28) hV25
              obtain ⟨p18, p19, p20, p21⟩ := pa27
              refine k_aload_n d_KReader_isFit_154 rfl ?_
              refine k_getR d_KReader_isFit_155 fl_15_138 ob_16 rfl ?_
              refine k_aload_n d_KReader_isFit_158 rfl ?_
              refine k_getR d_KReader_isFit_159 fl_15_90 ob_16 rfl ?_
              refine k_iload_n d_KReader_isFit_162 rfl ?_
              refine k_ild (x := (σ16.2 191 (Int.toNat a1))) d_KReader_isFit_163 rI_191 p18 rfl ?_
              refine k_iload d_KReader_isFit_164 rfl ?_
              refine k_iadd d_KReader_isFit_166 p19 ?_
              refine k_ild (x := (σ16.2 207 (Int.toNat ((σ16.2 191 (Int.toNat a1)) + s15.2)))) d_KReader_isFit_167 rI_207 p20 rfl ?_
              refine k_aload_n d_KReader_isFit_168 rfl ?_
              refine k_getR d_KReader_isFit_169 fl_15_28 ob_16 rfl ?_
              refine k_iload d_KReader_isFit_172 rfl ?_
              refine k_ild (x := (σ16.2 171 (Int.toNat s5.2))) d_KReader_isFit_174 rI_171 p21 rfl ?_
              refine k_icne d_KReader_isFit_175 rfl (fun c30 => ?_) (fun c30 => ?_)
              · have hV32 := k_eqI (if_neg c30) hV29
                refine k_iconst d_KReader_isFit_182 cI_0 ?_
                exact hV32
              · have hV31 := k_eqI (if_pos c30) hV29
                refine k_iconst d_KReader_isFit_178 cI_1 ?_
                refine k_goto d_KReader_isFit_179 rfl ?_
                exact hV31
          have hY43 : ¬ (s15.2 < (σ16.2 192 (Int.toNat a1)) ∧ ((σ16.2 190 (Int.toNat a1)) = 3)) → OkI BF L (d + 1) 15 b_KReader_isFit 7 2 191 [] [some (.inr 16), some (.inl a1), none, some (.inl s5.1), some (.inl s5.2), some (.inl s15.1), some (.inl s15.2)] σ16 (qi Q) := fun e44 => by
            have h := ineg e44 h
            refine k_iload_n d_KReader_isFit_191 rfl ?_
            have hV35 : OkI BF L (d + 1) 15 b_KReader_isFit 7 2 205 [.inl (if s5.1 = 0 then (0 : Int) else (if s15.1 = 0 then (0 : Int) else (1 : Int)))] [some (.inr 16), some (.inl a1), none, some (.inl s5.1), some (.inl s5.2), some (.inl s15.1), some (.inl s15.2)] σ16 (qi Q) := by
              refine k_istore_n (lv' := [some (.inr 16), some (.inl a1), none, some (.inl (if s5.1 = 0 then (0 : Int) else (if s15.1 = 0 then (0 : Int) else (1 : Int)))), some (.inl s5.2), some (.inl s15.1), some (.inl s15.2)]) d_KReader_isFit_205 rfl rfl ?_
              obtain ⟨p34, h⟩ := h
              refine k_iinc (lv' := [some (.inr 16), some (.inl a1), none, some (.inl (if s5.1 = 0 then (0 : Int) else (if s15.1 = 0 then (0 : Int) else (1 : Int)))), some (.inl (s5.2 + 1)), some (.inl s15.1), some (.inl s15.2)]) d_KReader_isFit_206 cI_1 rfl rfl p34 rfl ?_
              refine k_goto d_KReader_isFit_209 rfl ?_
              exact k_sb (sb_s (sb_s (sb_s (sb_s (sb_s (sb_n (sb_n sb_nil))))))) (hK4 ((if s5.1 = 0 then (0 : Int) else (if s15.1 = 0 then (0 : Int) else (1 : Int))), (s5.2 + 1)) _ h)
            refine k_ifeq d_KReader_isFit_192 rfl (fun c36 => ?_) (fun c36 => ?_)
            · have hV37 := k_eqI (if_pos c36) hV35
              refine k_iconst d_KReader_isFit_204 cI_0 ?_
              exact hV37
            · have hV38 := k_eqI (if_neg c36) hV35
              refine k_iload d_KReader_isFit_195 rfl ?_
              refine k_ifeq d_KReader_isFit_197 rfl (fun c39 => ?_) (fun c39 => ?_)
              · have hV40 := k_eqI (if_pos c39) hV38
                refine k_iconst d_KReader_isFit_204 cI_0 ?_
                exact hV40
              · have hV41 := k_eqI (if_neg c39) hV38
                refine k_iconst d_KReader_isFit_200 cI_1 ?_
                refine k_goto d_KReader_isFit_201 rfl ?_
                exact hV41
          have pa46 := pt45
          refine k_icge d_KReader_isFit_136 rfl (fun c47 => ?_) (fun c47 => ?_)
          · exact hY43 (fun z => c47 z.1)
          · have pa46 := pa46 c47
            have p17 := pa46
            refine k_aload_n d_KReader_isFit_139 rfl ?_
            refine k_getR d_KReader_isFit_140 fl_15_87 ob_16 rfl ?_
            refine k_iload_n d_KReader_isFit_143 rfl ?_
            refine k_bld (x := (σ16.2 190 (Int.toNat a1))) d_KReader_isFit_144 rB_190 p17 rfl ?_
            refine k_iconst d_KReader_isFit_145 cI_3 ?_
            refine k_icne d_KReader_isFit_146 rfl (fun c48 => ?_) (fun c48 => ?_)
            · exact hY43 (fun z => (c48) z.2)
            · exact hX42 (⟨c47, c48⟩)
        · refine k_join (S := Unit) (pc' := 122) (st' := fun s52 => []) (lv' := fun s52 => [some (.inr 16), some (.inl a1), none, some (.inl s5.1), some (.inl s5.2), none, none]) (fun s52 σ53 h => ?_) (fun J50 hJ51 h => ?_) h
          · refine k_iconst d_KReader_isFit_122 cI_0 ?_
            exact k_sb (sb_s (sb_s (sb_s (sb_s (sb_s (sb_s (sb_s sb_nil))))))) (hJ10 0 _ h)
          · refine k_icne d_KReader_isFit_101 rfl (fun c54 => ?_) (fun c54 => ?_)
            · have h := ineg c54 h
              exact k_sb (sb_s (sb_s (sb_s (sb_s (sb_s (sb_s (sb_s sb_nil))))))) (hJ51 () _ h)
            · have h := ipos c54 h
              refine k_aload_n d_KReader_isFit_104 rfl ?_
              refine k_aload_n d_KReader_isFit_105 rfl ?_
              refine k_getR d_KReader_isFit_106 fl_15_28 ob_16 rfl ?_
              refine k_iload d_KReader_isFit_109 rfl ?_
              obtain ⟨p58, h⟩ := h
              refine k_ild (x := (σ6.2 171 (Int.toNat s5.2))) d_KReader_isFit_111 rI_171 p58 rfl ?_
              refine k_cvi [.inl (σ6.2 171 (Int.toNat s5.2))] d_KReader_isFit_112 ml_15_558 rfl rfl ob_16 rfl (s_KReader_contentOf hL (by omega)  h) (fun v56 σ55 h => ?_)
              refine k_iflt d_KReader_isFit_115 rfl (fun c57 => ?_) (fun c57 => ?_)
              · have h := ipos c57 h
                exact k_sb (sb_s (sb_s (sb_s (sb_s (sb_s (sb_s (sb_s sb_nil))))))) (hJ51 () _ h)
              · have h := ineg c57 h
                refine k_iconst d_KReader_isFit_118 cI_1 ?_
                refine k_goto d_KReader_isFit_119 rfl ?_
                exact k_sb (sb_s (sb_s (sb_s (sb_s (sb_s (sb_s (sb_s sb_nil))))))) (hJ10 1 _ h)
    · have h := ipos c2 h
      refine k_aload_n d_KReader_isFit_48 rfl ?_
      refine k_getR d_KReader_isFit_49 fl_15_22 ob_16 rfl ?_
      refine k_aload_n d_KReader_isFit_52 rfl ?_
      refine k_getI (x := (σ.1 16 64)) d_KReader_isFit_53 fl_15_221 ob_16 rfl rfl ?_
      obtain ⟨p74, h⟩ := h
      refine k_bld (x := (σ.2 169 (Int.toNat (σ.1 16 64)))) d_KReader_isFit_56 rB_169 p74 rfl ?_
      refine k_join (S := Int) (pc' := 79) (st' := fun s62 => [.inl s62]) (lv' := fun s62 => [none, none, none, none, none, none, none]) (fun s62 σ63 h => ?_) (fun J60 hJ61 h => ?_) h
      · obtain ⟨p64, h⟩ := h
        exact k_iret d_KReader_isFit_79 (Or.inr ⟨rfl, p64⟩) h
      · refine k_join (S := Unit) (pc' := 78) (st' := fun s67 => []) (lv' := fun s67 => [none, none, none, none, none, none, none]) (fun s67 σ68 h => ?_) (fun J65 hJ66 h => ?_) h
        · refine k_iconst d_KReader_isFit_78 cI_0 ?_
          exact k_sb (sb_s (sb_s (sb_s (sb_s (sb_s (sb_s (sb_s sb_nil))))))) (hJ61 0 _ h)
        · refine k_ifne d_KReader_isFit_57 rfl (fun c69 => ?_) (fun c69 => ?_)
          · have h := ineg c69 h
            exact k_sb (sb_n (sb_n (sb_n (sb_s (sb_s (sb_s (sb_s sb_nil))))))) (hJ66 () _ h)
          · have h := ipos c69 h
            refine k_aload_n d_KReader_isFit_60 rfl ?_
            refine k_aload_n d_KReader_isFit_61 rfl ?_
            refine k_getR d_KReader_isFit_62 fl_15_90 ob_16 rfl ?_
            refine k_iload_n d_KReader_isFit_65 rfl ?_
            obtain ⟨p73, h⟩ := h
            refine k_ild (x := (σ.2 191 (Int.toNat a1))) d_KReader_isFit_66 rI_191 p73 rfl ?_
            refine k_iload_n d_KReader_isFit_67 rfl ?_
            refine k_cvi [.inl (σ.2 191 (Int.toNat a1)), .inl (σ.2 170 (Int.toNat (σ.1 16 64)))] d_KReader_isFit_68 ml_15_799 rfl rfl ob_16 rfl (s_KReader_makes hL (by omega)  h) (fun v71 σ70 h => ?_)
            refine k_ifeq d_KReader_isFit_71 rfl (fun c72 => ?_) (fun c72 => ?_)
            · have h := ipos c72 h
              exact k_sb (sb_n (sb_n (sb_n (sb_s (sb_s (sb_s (sb_s sb_nil))))))) (hJ66 () _ h)
            · have h := ineg c72 h
              refine k_iconst d_KReader_isFit_74 cI_1 ?_
              refine k_goto d_KReader_isFit_75 rfl ?_
              exact k_sb (sb_n (sb_n (sb_n (sb_s (sb_s (sb_s (sb_s sb_nil))))))) (hJ61 1 _ h)
  · have h := ipos c1 h
    refine k_aload_n d_KReader_isFit_20 rfl ?_
    refine k_getR d_KReader_isFit_21 fl_15_18 ob_16 rfl ?_
    refine k_aload_n d_KReader_isFit_24 rfl ?_
    refine k_getI (x := (σ.1 16 64)) d_KReader_isFit_25 fl_15_221 ob_16 rfl rfl ?_
    obtain ⟨p80, h⟩ := h
    refine k_bld (x := (σ.2 168 (Int.toNat (σ.1 16 64)))) d_KReader_isFit_28 rB_168 p80 rfl ?_
    have hV76 : OkI BF L (d + 1) 15 b_KReader_isFit 7 2 37 [.inl (if (σ.2 168 (Int.toNat (σ.1 16 64))) = 0 then (1 : Int) else (0 : Int))] [some (.inr 16), some (.inl a1), some (.inl (σ.2 170 (Int.toNat (σ.1 16 64)))), none, none, none, none] σ (qi Q) := by
      exact k_iret d_KReader_isFit_37 (Or.inr ⟨rfl, it01 (Or.inr rfl) (Or.inl rfl)⟩) h
    refine k_ifne d_KReader_isFit_29 rfl (fun c77 => ?_) (fun c77 => ?_)
    · have hV79 := k_eqI (if_neg c77) hV76
      refine k_iconst d_KReader_isFit_36 cI_0 ?_
      exact hV79
    · have hV78 := k_eqI (if_pos c77) hV76
      refine k_iconst d_KReader_isFit_32 cI_1 ?_
      refine k_goto d_KReader_isFit_33 rfl ?_
      exact hV78
theorem d_KReader_close_0 : decode b_KReader_close 0 = .ok (.aload_n 0, 1) := by decide +kernel
theorem d_KReader_close_1 : decode b_KReader_close 1 = .ok (.dup, 1) := by decide +kernel
theorem d_KReader_close_2 : decode b_KReader_close 2 = .ok (.getfield 221, 3) := by decide +kernel
theorem d_KReader_close_5 : decode b_KReader_close 5 = .ok (.iconst 1, 1) := by decide +kernel
theorem d_KReader_close_6 : decode b_KReader_close 6 = .ok (.isub, 1) := by decide +kernel
theorem d_KReader_close_7 : decode b_KReader_close 7 = .ok (.putfield 221, 3) := by decide +kernel
theorem d_KReader_close_10 : decode b_KReader_close 10 = .ok (.aload_n 0, 1) := by decide +kernel
theorem d_KReader_close_11 : decode b_KReader_close 11 = .ok (.getfield 150, 3) := by decide +kernel
theorem d_KReader_close_14 : decode b_KReader_close 14 = .ok (.getfield 738, 3) := by decide +kernel
theorem d_KReader_close_17 : decode b_KReader_close 17 = .ok (.aload_n 0, 1) := by decide +kernel
theorem d_KReader_close_18 : decode b_KReader_close 18 = .ok (.getfield 9, 3) := by decide +kernel
theorem d_KReader_close_21 : decode b_KReader_close 21 = .ok (.aload_n 0, 1) := by decide +kernel
theorem d_KReader_close_22 : decode b_KReader_close 22 = .ok (.getfield 221, 3) := by decide +kernel
theorem d_KReader_close_25 : decode b_KReader_close 25 = .ok (.iaload, 1) := by decide +kernel
theorem d_KReader_close_26 : decode b_KReader_close 26 = .ok (.iaload, 1) := by decide +kernel
theorem d_KReader_close_27 : decode b_KReader_close 27 = .ok (.istore_n 1, 1) := by decide +kernel
theorem d_KReader_close_28 : decode b_KReader_close 28 = .ok (.aload_n 0, 1) := by decide +kernel
theorem d_KReader_close_29 : decode b_KReader_close 29 = .ok (.iload_n 1, 1) := by decide +kernel
theorem d_KReader_close_30 : decode b_KReader_close 30 = .ok (.invokevirtual 558, 3) := by decide +kernel
theorem d_KReader_close_33 : decode b_KReader_close 33 = .ok (.istore_n 2, 1) := by decide +kernel
theorem d_KReader_close_34 : decode b_KReader_close 34 = .ok (.aload_n 0, 1) := by decide +kernel
theorem d_KReader_close_35 : decode b_KReader_close 35 = .ok (.getfield 150, 3) := by decide +kernel
theorem d_KReader_close_38 : decode b_KReader_close 38 = .ok (.getfield 561, 3) := by decide +kernel
theorem d_KReader_close_41 : decode b_KReader_close 41 = .ok (.iconst 5, 1) := by decide +kernel
theorem d_KReader_close_42 : decode b_KReader_close 42 = .ok (.dup2, 1) := by decide +kernel
theorem d_KReader_close_43 : decode b_KReader_close 43 = .ok (.iaload, 1) := by decide +kernel
theorem d_KReader_close_44 : decode b_KReader_close 44 = .ok (.iload_n 2, 1) := by decide +kernel
theorem d_KReader_close_45 : decode b_KReader_close 45 = .ok (.ifCond .ge 7, 3) := by decide +kernel
theorem d_KReader_close_48 : decode b_KReader_close 48 = .ok (.iconst 1, 1) := by decide +kernel
theorem d_KReader_close_49 : decode b_KReader_close 49 = .ok (.goto 4, 3) := by decide +kernel
theorem d_KReader_close_52 : decode b_KReader_close 52 = .ok (.iconst 0, 1) := by decide +kernel
theorem d_KReader_close_53 : decode b_KReader_close 53 = .ok (.iadd, 1) := by decide +kernel
theorem d_KReader_close_54 : decode b_KReader_close 54 = .ok (.iastore, 1) := by decide +kernel
theorem d_KReader_close_55 : decode b_KReader_close 55 = .ok (.aload_n 0, 1) := by decide +kernel
theorem d_KReader_close_56 : decode b_KReader_close 56 = .ok (.getfield 150, 3) := by decide +kernel
theorem d_KReader_close_59 : decode b_KReader_close 59 = .ok (.getfield 561, 3) := by decide +kernel
theorem d_KReader_close_62 : decode b_KReader_close 62 = .ok (.bipush 6, 2) := by decide +kernel
theorem d_KReader_close_64 : decode b_KReader_close 64 = .ok (.dup2, 1) := by decide +kernel
theorem d_KReader_close_65 : decode b_KReader_close 65 = .ok (.iaload, 1) := by decide +kernel
theorem d_KReader_close_66 : decode b_KReader_close 66 = .ok (.iload_n 2, 1) := by decide +kernel
theorem d_KReader_close_67 : decode b_KReader_close 67 = .ok (.ifCond .lt 15, 3) := by decide +kernel
theorem d_KReader_close_70 : decode b_KReader_close 70 = .ok (.aload_n 0, 1) := by decide +kernel
theorem d_KReader_close_71 : decode b_KReader_close 71 = .ok (.iload_n 2, 1) := by decide +kernel
theorem d_KReader_close_72 : decode b_KReader_close 72 = .ok (.invokevirtual 796, 3) := by decide +kernel
theorem d_KReader_close_75 : decode b_KReader_close 75 = .ok (.ifCond .ne 7, 3) := by decide +kernel
theorem d_KReader_close_78 : decode b_KReader_close 78 = .ok (.iconst 1, 1) := by decide +kernel
theorem d_KReader_close_79 : decode b_KReader_close 79 = .ok (.goto 4, 3) := by decide +kernel
theorem d_KReader_close_82 : decode b_KReader_close 82 = .ok (.iconst 0, 1) := by decide +kernel
theorem d_KReader_close_83 : decode b_KReader_close 83 = .ok (.iadd, 1) := by decide +kernel
theorem d_KReader_close_84 : decode b_KReader_close 84 = .ok (.iastore, 1) := by decide +kernel
theorem d_KReader_close_85 : decode b_KReader_close 85 = .ok (.aload_n 0, 1) := by decide +kernel
theorem d_KReader_close_86 : decode b_KReader_close 86 = .ok (.aload_n 0, 1) := by decide +kernel
theorem d_KReader_close_87 : decode b_KReader_close 87 = .ok (.getfield 25, 3) := by decide +kernel
theorem d_KReader_close_90 : decode b_KReader_close 90 = .ok (.aload_n 0, 1) := by decide +kernel
theorem d_KReader_close_91 : decode b_KReader_close 91 = .ok (.getfield 221, 3) := by decide +kernel
theorem d_KReader_close_94 : decode b_KReader_close 94 = .ok (.iaload, 1) := by decide +kernel
theorem d_KReader_close_95 : decode b_KReader_close 95 = .ok (.putfield 224, 3) := by decide +kernel
theorem d_KReader_close_98 : decode b_KReader_close 98 = .ok (.aload_n 0, 1) := by decide +kernel
theorem d_KReader_close_99 : decode b_KReader_close 99 = .ok (.getfield 150, 3) := by decide +kernel
theorem d_KReader_close_102 : decode b_KReader_close 102 = .ok (.iconst 1, 1) := by decide +kernel
theorem d_KReader_close_103 : decode b_KReader_close 103 = .ok (.invokevirtual 480, 3) := by decide +kernel
theorem d_KReader_close_106 : decode b_KReader_close 106 = .ok (.aload_n 0, 1) := by decide +kernel
theorem d_KReader_close_107 : decode b_KReader_close 107 = .ok (.getfield 221, 3) := by decide +kernel
theorem d_KReader_close_110 : decode b_KReader_close 110 = .ok (.ifCond .ne 8, 3) := by decide +kernel
theorem d_KReader_close_113 : decode b_KReader_close 113 = .ok (.aload_n 0, 1) := by decide +kernel
theorem d_KReader_close_114 : decode b_KReader_close 114 = .ok (.iconst 3, 1) := by decide +kernel
theorem d_KReader_close_115 : decode b_KReader_close 115 = .ok (.putfield 181, 3) := by decide +kernel
theorem d_KReader_close_118 : decode b_KReader_close 118 = .ok (.return_, 1) := by decide +kernel
/-- KReader_close -/
def w_KReader_close (L : Nat → Nat)  (Q : IS → Prop) (σ : IS) : Prop := inR ((σ.1 16 64) - 1) ∧ dyD (σ.1 16 2) ∧ inL L 166 ((σ.1 16 64) - 1) ∧ inL L (rfo (Int.toNat (σ.1 16 2)) 3) (σ.2 166 (Int.toNat ((σ.1 16 64) - 1))) ∧ w_KReader_contentOf L (σ.2 (rfo (Int.toNat (σ.1 16 2)) 3) (Int.toNat (σ.2 166 (Int.toNat ((σ.1 16 64) - 1))))) (fun v3 σ2 => dyD (σ2.1 16 2) ∧ inL L (rfo (Int.toNat (σ2.1 16 2)) 18) 5 ∧ inR ((σ2.2 (rfo (Int.toNat (σ2.1 16 2)) 18) (Int.toNat 5)) + (if v3 < 0 then (1 : Int) else (0 : Int))) ∧ inL L (rfo (Int.toNat (σ2.1 16 2)) 18) 5 ∧ inL L (rfo (Int.toNat (σ2.1 16 2)) 18) 6 ∧ WJ (fun (s7 : Int) (σ8 : IS) => inR (((pr σ2 (rfo (Int.toNat (σ2.1 16 2)) 18) (Int.toNat 5) ((σ2.2 (rfo (Int.toNat (σ2.1 16 2)) 18) (Int.toNat 5)) + (if v3 < 0 then (1 : Int) else (0 : Int)))).2 (rfo (Int.toNat (σ2.1 16 2)) 18) (Int.toNat 6)) + s7) ∧ inL L (rfo (Int.toNat (σ2.1 16 2)) 18) 6 ∧ inL L 170 (σ8.1 16 64) ∧ dyD (σ8.1 16 2) ∧ w_KDoc_event L (Int.toNat (σ8.1 16 2)) 1 (fun σ10 => WJ (fun (s14 : Unit) (σ15 : IS) => Q σ15) (fun J12 => if (σ10.1 16 64) = 0 then J12 () (pf σ10 16 19 3) else J12 () σ10)) (pf (pr σ8 (rfo (Int.toNat (σ2.1 16 2)) 18) (Int.toNat 6) (((pr σ2 (rfo (Int.toNat (σ2.1 16 2)) 18) (Int.toNat 5) ((σ2.2 (rfo (Int.toNat (σ2.1 16 2)) 18) (Int.toNat 5)) + (if v3 < 0 then (1 : Int) else (0 : Int)))).2 (rfo (Int.toNat (σ2.1 16 2)) 18) (Int.toNat 6)) + s7)) 16 66 ((pr σ8 (rfo (Int.toNat (σ2.1 16 2)) 18) (Int.toNat 6) (((pr σ2 (rfo (Int.toNat (σ2.1 16 2)) 18) (Int.toNat 5) ((σ2.2 (rfo (Int.toNat (σ2.1 16 2)) 18) (Int.toNat 5)) + (if v3 < 0 then (1 : Int) else (0 : Int)))).2 (rfo (Int.toNat (σ2.1 16 2)) 18) (Int.toNat 6)) + s7)).2 170 (Int.toNat (σ8.1 16 64))))) (fun J5 => WJ (fun (s22 : Unit) (σ23 : IS) => J5 0 σ23) (fun J20 => if v3 < 0 then J20 () (pr σ2 (rfo (Int.toNat (σ2.1 16 2)) 18) (Int.toNat 5) ((σ2.2 (rfo (Int.toNat (σ2.1 16 2)) 18) (Int.toNat 5)) + (if v3 < 0 then (1 : Int) else (0 : Int)))) else w_KReader_isFit L v3 (fun v26 σ25 => if v26 = 0 then J5 1 σ25 else J20 () σ25) (pr σ2 (rfo (Int.toNat (σ2.1 16 2)) 18) (Int.toNat 5) ((σ2.2 (rfo (Int.toNat (σ2.1 16 2)) 18) (Int.toNat 5)) + (if v3 < 0 then (1 : Int) else (0 : Int))))))) (pf σ 16 64 ((σ.1 16 64) - 1))
set_option maxHeartbeats 4000000 in
set_option maxRecDepth 20000 in
theorem s_KReader_close {L : Nat → Nat} (hL : ∀ r, L r < 2147483648) {d : Nat} (hd : 74 ≤ d)  {Q : IS → Prop} {σ : IS}  (h : w_KReader_close L  Q σ) : OkI BF L d 15 b_KReader_close 3 0 0 [] [some (.inr 16)] σ (qv Q) := by
  unfold w_KReader_close at h
  obtain ⟨d, rfl⟩ : ∃ e, d = e + 1 := ⟨d - 1, by omega⟩
  refine k_sb (lv' := [some (.inr 16), none, none]) (sb_s (sb_e (sb_e sb_nil))) ?_
  refine k_aload_n d_KReader_close_0 rfl ?_
  refine k_dup d_KReader_close_1 ?_
  refine k_getI (x := (σ.1 16 64)) d_KReader_close_2 fl_15_221 ob_16 rfl rfl ?_
  refine k_iconst d_KReader_close_5 cI_1 ?_
  obtain ⟨p38, h⟩ := h
  refine k_isub d_KReader_close_6 p38 ?_
  refine k_putI d_KReader_close_7 fl_15_221 ob_16 rfl ?_
  refine k_aload_n d_KReader_close_10 rfl ?_
  obtain ⟨y1, h⟩ := h
  refine k_getD (x := (σ.1 16 2)) d_KReader_close_11 fl_15_150 ob_16 rfl rfl (dyD_pos y1) ?_
  refine k_getR d_KReader_close_14 fl_15_738 (doc_ob (dyD_doc y1)) (dfr_3 (dyD_doc y1)) ?_
  refine k_aload_n d_KReader_close_17 rfl ?_
  refine k_getR d_KReader_close_18 fl_15_9 ob_16 rfl ?_
  refine k_aload_n d_KReader_close_21 rfl ?_
  refine k_getI (x := ((σ.1 16 64) - 1)) d_KReader_close_22 fl_15_221 ob_16 rfl rfl ?_
  obtain ⟨p37, h⟩ := h
  refine k_ild (x := (σ.2 166 (Int.toNat ((σ.1 16 64) - 1)))) d_KReader_close_25 rI_166 p37 rfl ?_
  obtain ⟨p36, h⟩ := h
  refine k_ild (x := (σ.2 (rfo (Int.toNat (σ.1 16 2)) 3) (Int.toNat (σ.2 166 (Int.toNat ((σ.1 16 64) - 1)))))) d_KReader_close_26 (drI_3 (dyD_doc y1)) p36 rfl ?_
  refine k_istore_n (lv' := [some (.inr 16), some (.inl (σ.2 (rfo (Int.toNat (σ.1 16 2)) 3) (Int.toNat (σ.2 166 (Int.toNat ((σ.1 16 64) - 1)))))), none]) d_KReader_close_27 rfl rfl ?_
  refine k_aload_n d_KReader_close_28 rfl ?_
  refine k_iload_n d_KReader_close_29 rfl ?_
  refine k_cvi [.inl (σ.2 (rfo (Int.toNat (σ.1 16 2)) 3) (Int.toNat (σ.2 166 (Int.toNat ((σ.1 16 64) - 1)))))] d_KReader_close_30 ml_15_558 rfl rfl ob_16 rfl (s_KReader_contentOf hL (by omega)  h) (fun v3 σ2 h => ?_)
  refine k_istore_n (lv' := [some (.inr 16), some (.inl (σ.2 (rfo (Int.toNat (σ.1 16 2)) 3) (Int.toNat (σ.2 166 (Int.toNat ((σ.1 16 64) - 1)))))), some (.inl v3)]) d_KReader_close_33 rfl rfl ?_
  refine k_aload_n d_KReader_close_34 rfl ?_
  obtain ⟨y4, h⟩ := h
  refine k_getD (x := (σ2.1 16 2)) d_KReader_close_35 fl_15_150 ob_16 rfl rfl (dyD_pos y4) ?_
  refine k_getR d_KReader_close_38 fl_15_561 (doc_ob (dyD_doc y4)) (dfr_18 (dyD_doc y4)) ?_
  refine k_iconst d_KReader_close_41 cI_5 ?_
  refine k_dup2 d_KReader_close_42 ?_
  obtain ⟨p35, h⟩ := h
  refine k_ild (x := (σ2.2 (rfo (Int.toNat (σ2.1 16 2)) 18) (Int.toNat 5))) d_KReader_close_43 (drI_18 (dyD_doc y4)) p35 rfl ?_
  refine k_iload_n d_KReader_close_44 rfl ?_
  have hV31 : OkI BF L (d + 1) 15 b_KReader_close 3 0 53 [.inl (if v3 < 0 then (1 : Int) else (0 : Int)), .inl (σ2.2 (rfo (Int.toNat (σ2.1 16 2)) 18) (Int.toNat 5)), .inl 5, .inr (rfo (Int.toNat (σ2.1 16 2)) 18)] [some (.inr 16), some (.inl (σ.2 (rfo (Int.toNat (σ.1 16 2)) 3) (Int.toNat (σ.2 166 (Int.toNat ((σ.1 16 64) - 1)))))), some (.inl v3)] σ2 (qv Q) := by
    obtain ⟨p30, h⟩ := h
    refine k_iadd d_KReader_close_53 p30 ?_
    obtain ⟨p29, h⟩ := h
    refine k_ist d_KReader_close_54 (drI_18 (dyD_doc y4)) p29 ?_
    refine k_aload_n d_KReader_close_55 rfl ?_
    refine k_getD (x := (σ2.1 16 2)) d_KReader_close_56 fl_15_150 ob_16 rfl rfl (dyD_pos y4) ?_
    refine k_getR d_KReader_close_59 fl_15_561 (doc_ob (dyD_doc y4)) (dfr_18 (dyD_doc y4)) ?_
    refine k_bipush d_KReader_close_62 cB_6 ?_
    refine k_dup2 d_KReader_close_64 ?_
    obtain ⟨p28, h⟩ := h
    refine k_ild (x := ((pr σ2 (rfo (Int.toNat (σ2.1 16 2)) 18) (Int.toNat 5) ((σ2.2 (rfo (Int.toNat (σ2.1 16 2)) 18) (Int.toNat 5)) + (if v3 < 0 then (1 : Int) else (0 : Int)))).2 (rfo (Int.toNat (σ2.1 16 2)) 18) (Int.toNat 6))) d_KReader_close_65 (drI_18 (dyD_doc y4)) p28 rfl ?_
    refine k_iload_n d_KReader_close_66 rfl ?_
    refine k_join (S := Int) (pc' := 83) (st' := fun s7 => [.inl s7, .inl ((pr σ2 (rfo (Int.toNat (σ2.1 16 2)) 18) (Int.toNat 5) ((σ2.2 (rfo (Int.toNat (σ2.1 16 2)) 18) (Int.toNat 5)) + (if v3 < 0 then (1 : Int) else (0 : Int)))).2 (rfo (Int.toNat (σ2.1 16 2)) 18) (Int.toNat 6)), .inl 6, .inr (rfo (Int.toNat (σ2.1 16 2)) 18)]) (lv' := fun s7 => [some (.inr 16), none, none]) (fun s7 σ8 h => ?_) (fun J5 hJ6 h => ?_) h
    · obtain ⟨p19, h⟩ := h
      refine k_iadd d_KReader_close_83 p19 ?_
      obtain ⟨p18, h⟩ := h
      refine k_ist d_KReader_close_84 (drI_18 (dyD_doc y4)) p18 ?_
      refine k_aload_n d_KReader_close_85 rfl ?_
      refine k_aload_n d_KReader_close_86 rfl ?_
      refine k_getR d_KReader_close_87 fl_15_25 ob_16 rfl ?_
      refine k_aload_n d_KReader_close_90 rfl ?_
      refine k_getI (x := (σ8.1 16 64)) d_KReader_close_91 fl_15_221 ob_16 rfl rfl ?_
      obtain ⟨p17, h⟩ := h
      refine k_ild (x := ((pr σ8 (rfo (Int.toNat (σ2.1 16 2)) 18) (Int.toNat 6) (((pr σ2 (rfo (Int.toNat (σ2.1 16 2)) 18) (Int.toNat 5) ((σ2.2 (rfo (Int.toNat (σ2.1 16 2)) 18) (Int.toNat 5)) + (if v3 < 0 then (1 : Int) else (0 : Int)))).2 (rfo (Int.toNat (σ2.1 16 2)) 18) (Int.toNat 6)) + s7)).2 170 (Int.toNat (σ8.1 16 64)))) d_KReader_close_94 rI_170 p17 rfl ?_
      refine k_putI d_KReader_close_95 fl_15_224 ob_16 rfl ?_
      refine k_aload_n d_KReader_close_98 rfl ?_
      obtain ⟨y9, h⟩ := h
      refine k_getD (x := (σ8.1 16 2)) d_KReader_close_99 fl_15_150 ob_16 rfl rfl (dyD_pos y9) ?_
      refine k_iconst d_KReader_close_102 cI_1 ?_
      refine k_cvv [.inl 1] d_KReader_close_103 ml_15_480 rfl rfl (doc_ob (dyD_doc y9)) rfl (s_KDoc_event hL (by omega) (dyD_doc y9) h) (fun σ10 h => ?_)
      refine k_aload_n d_KReader_close_106 rfl ?_
      refine k_getI (x := (σ10.1 16 64)) d_KReader_close_107 fl_15_221 ob_16 rfl rfl ?_
      refine k_join (S := Unit) (pc' := 118) (st' := fun s14 => []) (lv' := fun s14 => [none, none, none]) (fun s14 σ15 h => ?_) (fun J12 hJ13 h => ?_) h
      · exact k_ret d_KReader_close_118 h
      · refine k_ifne d_KReader_close_110 rfl (fun c16 => ?_) (fun c16 => ?_)
        · have h := ineg c16 h
          exact k_sb (sb_n (sb_s (sb_s sb_nil))) (hJ13 () _ h)
        · have h := ipos c16 h
          refine k_aload_n d_KReader_close_113 rfl ?_
          refine k_iconst d_KReader_close_114 cI_3 ?_
          refine k_putI d_KReader_close_115 fl_15_181 ob_16 rfl ?_
          exact k_sb (sb_n (sb_s (sb_s sb_nil))) (hJ13 () _ h)
    · refine k_join (S := Unit) (pc' := 82) (st' := fun s22 => [.inl ((pr σ2 (rfo (Int.toNat (σ2.1 16 2)) 18) (Int.toNat 5) ((σ2.2 (rfo (Int.toNat (σ2.1 16 2)) 18) (Int.toNat 5)) + (if v3 < 0 then (1 : Int) else (0 : Int)))).2 (rfo (Int.toNat (σ2.1 16 2)) 18) (Int.toNat 6)), .inl 6, .inr (rfo (Int.toNat (σ2.1 16 2)) 18)]) (lv' := fun s22 => [some (.inr 16), none, none]) (fun s22 σ23 h => ?_) (fun J20 hJ21 h => ?_) h
      · refine k_iconst d_KReader_close_82 cI_0 ?_
        exact k_sb (sb_s (sb_s (sb_s sb_nil))) (hJ6 0 _ h)
      · refine k_iflt d_KReader_close_67 rfl (fun c24 => ?_) (fun c24 => ?_)
        · have h := ipos c24 h
          exact k_sb (sb_s (sb_n (sb_n sb_nil))) (hJ21 () _ h)
        · have h := ineg c24 h
          refine k_aload_n d_KReader_close_70 rfl ?_
          refine k_iload_n d_KReader_close_71 rfl ?_
          refine k_cvi [.inl v3] d_KReader_close_72 ml_15_796 rfl rfl ob_16 rfl (s_KReader_isFit hL (by omega)  h) (fun v26 σ25 h => ?_)
          refine k_ifne d_KReader_close_75 rfl (fun c27 => ?_) (fun c27 => ?_)
          · have h := ineg c27 h
            exact k_sb (sb_s (sb_n (sb_n sb_nil))) (hJ21 () _ h)
          · have h := ipos c27 h
            refine k_iconst d_KReader_close_78 cI_1 ?_
            refine k_goto d_KReader_close_79 rfl ?_
            exact k_sb (sb_s (sb_n (sb_n sb_nil))) (hJ6 1 _ h)
  refine k_ifge d_KReader_close_45 rfl (fun c32 => ?_) (fun c32 => ?_)
  · have hV34 := k_eqI (if_neg c32) hV31
    refine k_iconst d_KReader_close_52 cI_0 ?_
    exact hV34
  · have hV33 := k_eqI (if_pos c32) hV31
    refine k_iconst d_KReader_close_48 cI_1 ?_
    refine k_goto d_KReader_close_49 rfl ?_
    exact hV33
theorem d_KReader_endTag_0 : decode b_KReader_endTag 0 = .ok (.aload_n 0, 1) := by decide +kernel
theorem d_KReader_endTag_1 : decode b_KReader_endTag 1 = .ok (.aload_n 0, 1) := by decide +kernel
theorem d_KReader_endTag_2 : decode b_KReader_endTag 2 = .ok (.getfield 379, 3) := by decide +kernel
theorem d_KReader_endTag_5 : decode b_KReader_endTag 5 = .ok (.iconst 2, 1) := by decide +kernel
theorem d_KReader_endTag_6 : decode b_KReader_endTag 6 = .ok (.iadd, 1) := by decide +kernel
theorem d_KReader_endTag_7 : decode b_KReader_endTag 7 = .ok (.invokevirtual 341, 3) := by decide +kernel
theorem d_KReader_endTag_10 : decode b_KReader_endTag 10 = .ok (.istore_n 1, 1) := by decide +kernel
theorem d_KReader_endTag_11 : decode b_KReader_endTag 11 = .ok (.aload_n 0, 1) := by decide +kernel
theorem d_KReader_endTag_12 : decode b_KReader_endTag 12 = .ok (.aload_n 0, 1) := by decide +kernel
theorem d_KReader_endTag_13 : decode b_KReader_endTag 13 = .ok (.iload_n 1, 1) := by decide +kernel
theorem d_KReader_endTag_14 : decode b_KReader_endTag 14 = .ok (.invokevirtual 297, 3) := by decide +kernel
theorem d_KReader_endTag_17 : decode b_KReader_endTag 17 = .ok (.ldc_w 527, 3) := by decide +kernel
theorem d_KReader_endTag_20 : decode b_KReader_endTag 20 = .ok (.invokevirtual 329, 3) := by decide +kernel
theorem d_KReader_endTag_23 : decode b_KReader_endTag 23 = .ok (.istore_n 2, 1) := by decide +kernel
theorem d_KReader_endTag_24 : decode b_KReader_endTag 24 = .ok (.aload_n 0, 1) := by decide +kernel
theorem d_KReader_endTag_25 : decode b_KReader_endTag 25 = .ok (.iload_n 2, 1) := by decide +kernel
theorem d_KReader_endTag_26 : decode b_KReader_endTag 26 = .ok (.invokevirtual 437, 3) := by decide +kernel
theorem d_KReader_endTag_29 : decode b_KReader_endTag 29 = .ok (.ifCond .ne 4, 3) := by decide +kernel
theorem d_KReader_endTag_32 : decode b_KReader_endTag 32 = .ok (.return_, 1) := by decide +kernel
theorem d_KReader_endTag_33 : decode b_KReader_endTag 33 = .ok (.aload_n 0, 1) := by decide +kernel
theorem d_KReader_endTag_34 : decode b_KReader_endTag 34 = .ok (.getfield 150, 3) := by decide +kernel
theorem d_KReader_endTag_37 : decode b_KReader_endTag 37 = .ok (.getfield 227, 3) := by decide +kernel
theorem d_KReader_endTag_40 : decode b_KReader_endTag 40 = .ok (.aload_n 0, 1) := by decide +kernel
theorem d_KReader_endTag_41 : decode b_KReader_endTag 41 = .ok (.getfield 45, 3) := by decide +kernel
theorem d_KReader_endTag_44 : decode b_KReader_endTag 44 = .ok (.aload_n 0, 1) := by decide +kernel
theorem d_KReader_endTag_45 : decode b_KReader_endTag 45 = .ok (.getfield 379, 3) := by decide +kernel
theorem d_KReader_endTag_48 : decode b_KReader_endTag 48 = .ok (.iconst 2, 1) := by decide +kernel
theorem d_KReader_endTag_49 : decode b_KReader_endTag 49 = .ok (.iadd, 1) := by decide +kernel
theorem d_KReader_endTag_50 : decode b_KReader_endTag 50 = .ok (.iload_n 1, 1) := by decide +kernel
theorem d_KReader_endTag_51 : decode b_KReader_endTag 51 = .ok (.aload_n 0, 1) := by decide +kernel
theorem d_KReader_endTag_52 : decode b_KReader_endTag 52 = .ok (.getfield 379, 3) := by decide +kernel
theorem d_KReader_endTag_55 : decode b_KReader_endTag 55 = .ok (.isub, 1) := by decide +kernel
theorem d_KReader_endTag_56 : decode b_KReader_endTag 56 = .ok (.iconst 2, 1) := by decide +kernel
theorem d_KReader_endTag_57 : decode b_KReader_endTag 57 = .ok (.isub, 1) := by decide +kernel
theorem d_KReader_endTag_58 : decode b_KReader_endTag 58 = .ok (.invokevirtual 529, 3) := by decide +kernel
theorem d_KReader_endTag_61 : decode b_KReader_endTag 61 = .ok (.istore_n 3, 1) := by decide +kernel
theorem d_KReader_endTag_62 : decode b_KReader_endTag 62 = .ok (.aload_n 0, 1) := by decide +kernel
theorem d_KReader_endTag_63 : decode b_KReader_endTag 63 = .ok (.getfield 15, 3) := by decide +kernel
theorem d_KReader_endTag_66 : decode b_KReader_endTag 66 = .ok (.aload_n 0, 1) := by decide +kernel
theorem d_KReader_endTag_67 : decode b_KReader_endTag 67 = .ok (.getfield 221, 3) := by decide +kernel
theorem d_KReader_endTag_70 : decode b_KReader_endTag 70 = .ok (.iconst 1, 1) := by decide +kernel
theorem d_KReader_endTag_71 : decode b_KReader_endTag 71 = .ok (.isub, 1) := by decide +kernel
theorem d_KReader_endTag_72 : decode b_KReader_endTag 72 = .ok (.iaload, 1) := by decide +kernel
theorem d_KReader_endTag_73 : decode b_KReader_endTag 73 = .ok (.aload_n 0, 1) := by decide +kernel
theorem d_KReader_endTag_74 : decode b_KReader_endTag 74 = .ok (.getfield 60, 3) := by decide +kernel
theorem d_KReader_endTag_77 : decode b_KReader_endTag 77 = .ok (.aload_n 0, 1) := by decide +kernel
theorem d_KReader_endTag_78 : decode b_KReader_endTag 78 = .ok (.getfield 175, 3) := by decide +kernel
theorem d_KReader_endTag_81 : decode b_KReader_endTag 81 = .ok (.iconst 1, 1) := by decide +kernel
theorem d_KReader_endTag_82 : decode b_KReader_endTag 82 = .ok (.isub, 1) := by decide +kernel
theorem d_KReader_endTag_83 : decode b_KReader_endTag 83 = .ok (.iaload, 1) := by decide +kernel
theorem d_KReader_endTag_84 : decode b_KReader_endTag 84 = .ok (.if_icmp .ne 7, 3) := by decide +kernel
theorem d_KReader_endTag_87 : decode b_KReader_endTag 87 = .ok (.iconst 1, 1) := by decide +kernel
theorem d_KReader_endTag_88 : decode b_KReader_endTag 88 = .ok (.goto 4, 3) := by decide +kernel
theorem d_KReader_endTag_91 : decode b_KReader_endTag 91 = .ok (.iconst 0, 1) := by decide +kernel
theorem d_KReader_endTag_92 : decode b_KReader_endTag 92 = .ok (.istore 4, 2) := by decide +kernel
theorem d_KReader_endTag_94 : decode b_KReader_endTag 94 = .ok (.aload_n 0, 1) := by decide +kernel
theorem d_KReader_endTag_95 : decode b_KReader_endTag 95 = .ok (.getfield 150, 3) := by decide +kernel
theorem d_KReader_endTag_98 : decode b_KReader_endTag 98 = .ok (.getfield 738, 3) := by decide +kernel
theorem d_KReader_endTag_101 : decode b_KReader_endTag 101 = .ok (.aload_n 0, 1) := by decide +kernel
theorem d_KReader_endTag_102 : decode b_KReader_endTag 102 = .ok (.getfield 9, 3) := by decide +kernel
theorem d_KReader_endTag_105 : decode b_KReader_endTag 105 = .ok (.aload_n 0, 1) := by decide +kernel
theorem d_KReader_endTag_106 : decode b_KReader_endTag 106 = .ok (.getfield 221, 3) := by decide +kernel
theorem d_KReader_endTag_109 : decode b_KReader_endTag 109 = .ok (.iconst 1, 1) := by decide +kernel
theorem d_KReader_endTag_110 : decode b_KReader_endTag 110 = .ok (.isub, 1) := by decide +kernel
theorem d_KReader_endTag_111 : decode b_KReader_endTag 111 = .ok (.iaload, 1) := by decide +kernel
theorem d_KReader_endTag_112 : decode b_KReader_endTag 112 = .ok (.iaload, 1) := by decide +kernel
theorem d_KReader_endTag_113 : decode b_KReader_endTag 113 = .ok (.iload_n 3, 1) := by decide +kernel
theorem d_KReader_endTag_114 : decode b_KReader_endTag 114 = .ok (.if_icmp .ne 7, 3) := by decide +kernel
theorem d_KReader_endTag_117 : decode b_KReader_endTag 117 = .ok (.iconst 1, 1) := by decide +kernel
theorem d_KReader_endTag_118 : decode b_KReader_endTag 118 = .ok (.goto 4, 3) := by decide +kernel
theorem d_KReader_endTag_121 : decode b_KReader_endTag 121 = .ok (.iconst 0, 1) := by decide +kernel
theorem d_KReader_endTag_122 : decode b_KReader_endTag 122 = .ok (.istore 5, 2) := by decide +kernel
theorem d_KReader_endTag_124 : decode b_KReader_endTag 124 = .ok (.iload 5, 2) := by decide +kernel
theorem d_KReader_endTag_126 : decode b_KReader_endTag 126 = .ok (.ifCond .eq 8, 3) := by decide +kernel
theorem d_KReader_endTag_129 : decode b_KReader_endTag 129 = .ok (.iload 4, 2) := by decide +kernel
theorem d_KReader_endTag_131 : decode b_KReader_endTag 131 = .ok (.ifCond .ne 21, 3) := by decide +kernel
theorem d_KReader_endTag_134 : decode b_KReader_endTag 134 = .ok (.aload_n 0, 1) := by decide +kernel
theorem d_KReader_endTag_135 : decode b_KReader_endTag 135 = .ok (.iload 5, 2) := by decide +kernel
theorem d_KReader_endTag_137 : decode b_KReader_endTag 137 = .ok (.ifCond .eq 8, 3) := by decide +kernel
theorem d_KReader_endTag_140 : decode b_KReader_endTag 140 = .ok (.bipush 14, 2) := by decide +kernel
theorem d_KReader_endTag_142 : decode b_KReader_endTag 142 = .ok (.goto 5, 3) := by decide +kernel
theorem d_KReader_endTag_145 : decode b_KReader_endTag 145 = .ok (.bipush 7, 2) := by decide +kernel
theorem d_KReader_endTag_147 : decode b_KReader_endTag 147 = .ok (.invokevirtual 392, 3) := by decide +kernel
theorem d_KReader_endTag_150 : decode b_KReader_endTag 150 = .ok (.pop, 1) := by decide +kernel
theorem d_KReader_endTag_151 : decode b_KReader_endTag 151 = .ok (.return_, 1) := by decide +kernel
theorem d_KReader_endTag_152 : decode b_KReader_endTag 152 = .ok (.aload_n 0, 1) := by decide +kernel
theorem d_KReader_endTag_153 : decode b_KReader_endTag 153 = .ok (.iload_n 2, 1) := by decide +kernel
theorem d_KReader_endTag_154 : decode b_KReader_endTag 154 = .ok (.putfield 379, 3) := by decide +kernel
theorem d_KReader_endTag_157 : decode b_KReader_endTag 157 = .ok (.aload_n 0, 1) := by decide +kernel
theorem d_KReader_endTag_158 : decode b_KReader_endTag 158 = .ok (.invokevirtual 740, 3) := by decide +kernel
theorem d_KReader_endTag_161 : decode b_KReader_endTag 161 = .ok (.return_, 1) := by decide +kernel
/-- KReader_endTag -/
def w_KReader_endTag (L : Nat → Nat)  (Q : IS → Prop) (σ : IS) : Prop := inR ((σ.1 16 16) + 2) ∧ w_KReader_name L ((σ.1 16 16) + 2) (fun v2 σ1 => w_KReader_anySpaces L v2 (fun v4 σ3 => w_KReader_word L v4 1124 (fun v6 σ5 => w_KReader_written L v6 (fun v8 σ7 => if v8 = 0 then Q σ7 else dyD (σ7.1 16 2) ∧ inR ((σ7.1 16 16) + 2) ∧ inR (v2 - (σ7.1 16 16)) ∧ inR ((v2 - (σ7.1 16 16)) - 2) ∧ w_KBook_find L 176 ((σ7.1 16 16) + 2) ((v2 - (σ7.1 16 16)) - 2) (fun v12 σ11 => inR ((σ11.1 16 64) - 1) ∧ inL L 167 ((σ11.1 16 64) - 1) ∧ inR ((σ11.1 16 14) - 1) ∧ inL L 181 ((σ11.1 16 14) - 1) ∧ dyD (σ11.1 16 2) ∧ inR ((σ11.1 16 64) - 1) ∧ inL L 166 ((σ11.1 16 64) - 1) ∧ inL L (rfo (Int.toNat (σ11.1 16 2)) 3) (σ11.2 166 (Int.toNat ((σ11.1 16 64) - 1))) ∧ if ¬ (if (σ11.2 (rfo (Int.toNat (σ11.1 16 2)) 3) (Int.toNat (σ11.2 166 (Int.toNat ((σ11.1 16 64) - 1))))) = v12 then (1 : Int) else (0 : Int)) = 0 ∧ (¬ (if (σ11.2 167 (Int.toNat ((σ11.1 16 64) - 1))) = (σ11.2 181 (Int.toNat ((σ11.1 16 14) - 1))) then (1 : Int) else (0 : Int)) = 0) then w_KReader_close L  (fun σ14 => Q σ14) (pf σ11 16 16 v6) else w_KReader_fail L (if (if (σ11.2 (rfo (Int.toNat (σ11.1 16 2)) 3) (Int.toNat (σ11.2 166 (Int.toNat ((σ11.1 16 64) - 1))))) = v12 then (1 : Int) else (0 : Int)) = 0 then (7 : Int) else (14 : Int)) (fun v17 σ16 => Q σ16) σ11) σ7) σ5) σ3) σ1) σ
set_option maxHeartbeats 4000000 in
set_option maxRecDepth 20000 in
theorem s_KReader_endTag {L : Nat → Nat} (hL : ∀ r, L r < 2147483648) {d : Nat} (hd : 75 ≤ d)  {Q : IS → Prop} {σ : IS}  (h : w_KReader_endTag L  Q σ) : OkI BF L d 15 b_KReader_endTag 6 0 0 [] [some (.inr 16)] σ (qv Q) := by
  unfold w_KReader_endTag at h
  obtain ⟨d, rfl⟩ : ∃ e, d = e + 1 := ⟨d - 1, by omega⟩
  refine k_sb (lv' := [some (.inr 16), none, none, none, none, none]) (sb_s (sb_e (sb_e (sb_e (sb_e (sb_e sb_nil)))))) ?_
  refine k_aload_n d_KReader_endTag_0 rfl ?_
  refine k_aload_n d_KReader_endTag_1 rfl ?_
  refine k_getI (x := (σ.1 16 16)) d_KReader_endTag_2 fl_15_379 ob_16 rfl rfl ?_
  refine k_iconst d_KReader_endTag_5 cI_2 ?_
  obtain ⟨p45, h⟩ := h
  refine k_iadd d_KReader_endTag_6 p45 ?_
  refine k_cvi [.inl ((σ.1 16 16) + 2)] d_KReader_endTag_7 ml_15_341 rfl rfl ob_16 rfl (s_KReader_name hL (by omega)  h) (fun v2 σ1 h => ?_)
  refine k_istore_n (lv' := [some (.inr 16), some (.inl v2), none, none, none, none]) d_KReader_endTag_10 rfl rfl ?_
  refine k_aload_n d_KReader_endTag_11 rfl ?_
  refine k_aload_n d_KReader_endTag_12 rfl ?_
  refine k_iload_n d_KReader_endTag_13 rfl ?_
  refine k_cvi [.inl v2] d_KReader_endTag_14 ml_15_297 rfl rfl ob_16 rfl (s_KReader_anySpaces hL (by omega)  h) (fun v4 σ3 h => ?_)
  refine k_ldcw d_KReader_endTag_17 ks_15_527 rfl ?_
  refine k_cvi [.inl v4, .inr 1124] d_KReader_endTag_20 ml_15_329 rfl rfl ob_16 rfl (s_KReader_word hL (by omega) it_1124 h) (fun v6 σ5 h => ?_)
  refine k_istore_n (lv' := [some (.inr 16), some (.inl v2), some (.inl v6), none, none, none]) d_KReader_endTag_23 rfl rfl ?_
  refine k_aload_n d_KReader_endTag_24 rfl ?_
  refine k_iload_n d_KReader_endTag_25 rfl ?_
  refine k_cvi [.inl v6] d_KReader_endTag_26 ml_15_437 rfl rfl ob_16 rfl (s_KReader_written hL (by omega)  h) (fun v8 σ7 h => ?_)
  refine k_ifne d_KReader_endTag_29 rfl (fun c9 => ?_) (fun c9 => ?_)
  · have h := ineg c9 h
    refine k_aload_n d_KReader_endTag_33 rfl ?_
    obtain ⟨y10, h⟩ := h
    refine k_getD (x := (σ7.1 16 2)) d_KReader_endTag_34 fl_15_150 ob_16 rfl rfl (dyD_pos y10) ?_
    refine k_getR d_KReader_endTag_37 fl_15_227 (doc_ob (dyD_doc y10)) (dfr_0 (dyD_doc y10)) ?_
    refine k_aload_n d_KReader_endTag_40 rfl ?_
    refine k_getR d_KReader_endTag_41 fl_15_45 ob_16 rfl ?_
    refine k_aload_n d_KReader_endTag_44 rfl ?_
    refine k_getI (x := (σ7.1 16 16)) d_KReader_endTag_45 fl_15_379 ob_16 rfl rfl ?_
    refine k_iconst d_KReader_endTag_48 cI_2 ?_
    obtain ⟨p44, h⟩ := h
    refine k_iadd d_KReader_endTag_49 p44 ?_
    refine k_iload_n d_KReader_endTag_50 rfl ?_
    refine k_aload_n d_KReader_endTag_51 rfl ?_
    refine k_getI (x := (σ7.1 16 16)) d_KReader_endTag_52 fl_15_379 ob_16 rfl rfl ?_
    obtain ⟨p43, h⟩ := h
    refine k_isub d_KReader_endTag_55 p43 ?_
    refine k_iconst d_KReader_endTag_56 cI_2 ?_
    obtain ⟨p42, h⟩ := h
    refine k_isub d_KReader_endTag_57 p42 ?_
    refine k_cvi [.inr 176, .inl ((σ7.1 16 16) + 2), .inl ((v2 - (σ7.1 16 16)) - 2)] d_KReader_endTag_58 ml_15_529 rfl rfl ob_13 rfl (s_KBook_find hL (by omega) rI_176 h) (fun v12 σ11 h => ?_)
    refine k_istore_n (lv' := [some (.inr 16), some (.inl v2), some (.inl v6), some (.inl v12), none, none]) d_KReader_endTag_61 rfl rfl ?_
    refine k_aload_n d_KReader_endTag_62 rfl ?_
    refine k_getR d_KReader_endTag_63 fl_15_15 ob_16 rfl ?_
    refine k_aload_n d_KReader_endTag_66 rfl ?_
    refine k_getI (x := (σ11.1 16 64)) d_KReader_endTag_67 fl_15_221 ob_16 rfl rfl ?_
    refine k_iconst d_KReader_endTag_70 cI_1 ?_
    obtain ⟨p41, h⟩ := h
    refine k_isub d_KReader_endTag_71 p41 ?_
    obtain ⟨p40, h⟩ := h
    refine k_ild (x := (σ11.2 167 (Int.toNat ((σ11.1 16 64) - 1)))) d_KReader_endTag_72 rI_167 p40 rfl ?_
    refine k_aload_n d_KReader_endTag_73 rfl ?_
    refine k_getR d_KReader_endTag_74 fl_15_60 ob_16 rfl ?_
    refine k_aload_n d_KReader_endTag_77 rfl ?_
    refine k_getI (x := (σ11.1 16 14)) d_KReader_endTag_78 fl_15_175 ob_16 rfl rfl ?_
    refine k_iconst d_KReader_endTag_81 cI_1 ?_
    obtain ⟨p39, h⟩ := h
    refine k_isub d_KReader_endTag_82 p39 ?_
    obtain ⟨p38, h⟩ := h
    refine k_ild (x := (σ11.2 181 (Int.toNat ((σ11.1 16 14) - 1)))) d_KReader_endTag_83 rI_181 p38 rfl ?_
    have hV34 : OkI BF L (d + 1) 15 b_KReader_endTag 6 0 92 [.inl (if (σ11.2 167 (Int.toNat ((σ11.1 16 64) - 1))) = (σ11.2 181 (Int.toNat ((σ11.1 16 14) - 1))) then (1 : Int) else (0 : Int))] [some (.inr 16), some (.inl v2), some (.inl v6), some (.inl v12), none, none] σ11 (qv Q) := by
      refine k_istore (lv' := [some (.inr 16), some (.inl v2), some (.inl v6), some (.inl v12), some (.inl (if (σ11.2 167 (Int.toNat ((σ11.1 16 64) - 1))) = (σ11.2 181 (Int.toNat ((σ11.1 16 14) - 1))) then (1 : Int) else (0 : Int))), none]) d_KReader_endTag_92 rfl rfl ?_
      refine k_aload_n d_KReader_endTag_94 rfl ?_
      obtain ⟨y13, h⟩ := h
      refine k_getD (x := (σ11.1 16 2)) d_KReader_endTag_95 fl_15_150 ob_16 rfl rfl (dyD_pos y13) ?_
      refine k_getR d_KReader_endTag_98 fl_15_738 (doc_ob (dyD_doc y13)) (dfr_3 (dyD_doc y13)) ?_
      refine k_aload_n d_KReader_endTag_101 rfl ?_
      refine k_getR d_KReader_endTag_102 fl_15_9 ob_16 rfl ?_
      refine k_aload_n d_KReader_endTag_105 rfl ?_
      refine k_getI (x := (σ11.1 16 64)) d_KReader_endTag_106 fl_15_221 ob_16 rfl rfl ?_
      refine k_iconst d_KReader_endTag_109 cI_1 ?_
      obtain ⟨p33, h⟩ := h
      refine k_isub d_KReader_endTag_110 p33 ?_
      obtain ⟨p32, h⟩ := h
      refine k_ild (x := (σ11.2 166 (Int.toNat ((σ11.1 16 64) - 1)))) d_KReader_endTag_111 rI_166 p32 rfl ?_
      obtain ⟨p31, h⟩ := h
      refine k_ild (x := (σ11.2 (rfo (Int.toNat (σ11.1 16 2)) 3) (Int.toNat (σ11.2 166 (Int.toNat ((σ11.1 16 64) - 1)))))) d_KReader_endTag_112 (drI_3 (dyD_doc y13)) p31 rfl ?_
      refine k_iload_n d_KReader_endTag_113 rfl ?_
      have hV27 : OkI BF L (d + 1) 15 b_KReader_endTag 6 0 122 [.inl (if (σ11.2 (rfo (Int.toNat (σ11.1 16 2)) 3) (Int.toNat (σ11.2 166 (Int.toNat ((σ11.1 16 64) - 1))))) = v12 then (1 : Int) else (0 : Int))] [some (.inr 16), some (.inl v2), some (.inl v6), some (.inl v12), some (.inl (if (σ11.2 167 (Int.toNat ((σ11.1 16 64) - 1))) = (σ11.2 181 (Int.toNat ((σ11.1 16 14) - 1))) then (1 : Int) else (0 : Int))), none] σ11 (qv Q) := by
        refine k_istore (lv' := [some (.inr 16), some (.inl v2), some (.inl v6), some (.inl v12), some (.inl (if (σ11.2 167 (Int.toNat ((σ11.1 16 64) - 1))) = (σ11.2 181 (Int.toNat ((σ11.1 16 14) - 1))) then (1 : Int) else (0 : Int))), some (.inl (if (σ11.2 (rfo (Int.toNat (σ11.1 16 2)) 3) (Int.toNat (σ11.2 166 (Int.toNat ((σ11.1 16 64) - 1))))) = v12 then (1 : Int) else (0 : Int)))]) d_KReader_endTag_122 rfl rfl ?_
        refine k_iload d_KReader_endTag_124 rfl ?_
        have hX22 : (¬ (if (σ11.2 (rfo (Int.toNat (σ11.1 16 2)) 3) (Int.toNat (σ11.2 166 (Int.toNat ((σ11.1 16 64) - 1))))) = v12 then (1 : Int) else (0 : Int)) = 0 ∧ (¬ (if (σ11.2 167 (Int.toNat ((σ11.1 16 64) - 1))) = (σ11.2 181 (Int.toNat ((σ11.1 16 14) - 1))) then (1 : Int) else (0 : Int)) = 0)) → OkI BF L (d + 1) 15 b_KReader_endTag 6 0 152 [] [some (.inr 16), some (.inl v2), some (.inl v6), some (.inl v12), some (.inl (if (σ11.2 167 (Int.toNat ((σ11.1 16 64) - 1))) = (σ11.2 181 (Int.toNat ((σ11.1 16 14) - 1))) then (1 : Int) else (0 : Int))), some (.inl (if (σ11.2 (rfo (Int.toNat (σ11.1 16 2)) 3) (Int.toNat (σ11.2 166 (Int.toNat ((σ11.1 16 64) - 1))))) = v12 then (1 : Int) else (0 : Int)))] σ11 (qv Q) := fun e24 => by
          have h := ipos e24 h
          refine k_aload_n d_KReader_endTag_152 rfl ?_
          refine k_iload_n d_KReader_endTag_153 rfl ?_
          refine k_putI d_KReader_endTag_154 fl_15_379 ob_16 rfl ?_
          refine k_aload_n d_KReader_endTag_157 rfl ?_
          refine k_cvv [] d_KReader_endTag_158 ml_15_740 rfl rfl ob_16 rfl (s_KReader_close hL (by omega)  h) (fun σ14 h => ?_)
          exact k_ret d_KReader_endTag_161 h
        have hY23 : ¬ (¬ (if (σ11.2 (rfo (Int.toNat (σ11.1 16 2)) 3) (Int.toNat (σ11.2 166 (Int.toNat ((σ11.1 16 64) - 1))))) = v12 then (1 : Int) else (0 : Int)) = 0 ∧ (¬ (if (σ11.2 167 (Int.toNat ((σ11.1 16 64) - 1))) = (σ11.2 181 (Int.toNat ((σ11.1 16 14) - 1))) then (1 : Int) else (0 : Int)) = 0)) → OkI BF L (d + 1) 15 b_KReader_endTag 6 0 134 [] [some (.inr 16), some (.inl v2), some (.inl v6), some (.inl v12), some (.inl (if (σ11.2 167 (Int.toNat ((σ11.1 16 64) - 1))) = (σ11.2 181 (Int.toNat ((σ11.1 16 14) - 1))) then (1 : Int) else (0 : Int))), some (.inl (if (σ11.2 (rfo (Int.toNat (σ11.1 16 2)) 3) (Int.toNat (σ11.2 166 (Int.toNat ((σ11.1 16 64) - 1))))) = v12 then (1 : Int) else (0 : Int)))] σ11 (qv Q) := fun e24 => by
          have h := ineg e24 h
          refine k_aload_n d_KReader_endTag_134 rfl ?_
          refine k_iload d_KReader_endTag_135 rfl ?_
          have hV18 : OkI BF L (d + 1) 15 b_KReader_endTag 6 0 147 [.inl (if (if (σ11.2 (rfo (Int.toNat (σ11.1 16 2)) 3) (Int.toNat (σ11.2 166 (Int.toNat ((σ11.1 16 64) - 1))))) = v12 then (1 : Int) else (0 : Int)) = 0 then (7 : Int) else (14 : Int)), .inr 16] [some (.inr 16), some (.inl v2), some (.inl v6), some (.inl v12), some (.inl (if (σ11.2 167 (Int.toNat ((σ11.1 16 64) - 1))) = (σ11.2 181 (Int.toNat ((σ11.1 16 14) - 1))) then (1 : Int) else (0 : Int))), some (.inl (if (σ11.2 (rfo (Int.toNat (σ11.1 16 2)) 3) (Int.toNat (σ11.2 166 (Int.toNat ((σ11.1 16 64) - 1))))) = v12 then (1 : Int) else (0 : Int)))] σ11 (qv Q) := by
            refine k_cvi [.inl (if (if (σ11.2 (rfo (Int.toNat (σ11.1 16 2)) 3) (Int.toNat (σ11.2 166 (Int.toNat ((σ11.1 16 64) - 1))))) = v12 then (1 : Int) else (0 : Int)) = 0 then (7 : Int) else (14 : Int))] d_KReader_endTag_147 ml_15_392 rfl rfl ob_16 rfl (s_KReader_fail hL (by omega)  h) (fun v17 σ16 h => ?_)
            refine k_pop d_KReader_endTag_150 ?_
            exact k_ret d_KReader_endTag_151 h
          refine k_ifeq d_KReader_endTag_137 rfl (fun c19 => ?_) (fun c19 => ?_)
          · have hV20 := k_eqI (if_pos c19) hV18
            refine k_bipush d_KReader_endTag_145 cB_7 ?_
            exact hV20
          · have hV21 := k_eqI (if_neg c19) hV18
            refine k_bipush d_KReader_endTag_140 cB_14 ?_
            refine k_goto d_KReader_endTag_142 rfl ?_
            exact hV21
        refine k_ifeq d_KReader_endTag_126 rfl (fun c25 => ?_) (fun c25 => ?_)
        · exact hY23 (fun z => z.1 c25)
        · refine k_iload d_KReader_endTag_129 rfl ?_
          refine k_ifne d_KReader_endTag_131 rfl (fun c26 => ?_) (fun c26 => ?_)
          · exact hX22 (⟨c25, c26⟩)
          · exact hY23 (fun z => (fun z => z c26) z.2)
      refine k_icne d_KReader_endTag_114 rfl (fun c28 => ?_) (fun c28 => ?_)
      · have hV30 := k_eqI (if_neg c28) hV27
        refine k_iconst d_KReader_endTag_121 cI_0 ?_
        exact hV30
      · have hV29 := k_eqI (if_pos c28) hV27
        refine k_iconst d_KReader_endTag_117 cI_1 ?_
        refine k_goto d_KReader_endTag_118 rfl ?_
        exact hV29
    refine k_icne d_KReader_endTag_84 rfl (fun c35 => ?_) (fun c35 => ?_)
    · have hV37 := k_eqI (if_neg c35) hV34
      refine k_iconst d_KReader_endTag_91 cI_0 ?_
      exact hV37
    · have hV36 := k_eqI (if_pos c35) hV34
      refine k_iconst d_KReader_endTag_87 cI_1 ?_
      refine k_goto d_KReader_endTag_88 rfl ?_
      exact hV36
  · have h := ipos c9 h
    exact k_ret d_KReader_endTag_32 h
theorem d_KDoc_colon_0 : decode b_KDoc_colon 0 = .ok (.iconst (-1), 1) := by decide +kernel
theorem d_KDoc_colon_1 : decode b_KDoc_colon 1 = .ok (.istore_n 2, 1) := by decide +kernel
theorem d_KDoc_colon_2 : decode b_KDoc_colon 2 = .ok (.iconst 0, 1) := by decide +kernel
theorem d_KDoc_colon_3 : decode b_KDoc_colon 3 = .ok (.istore_n 3, 1) := by decide +kernel
theorem d_KDoc_colon_4 : decode b_KDoc_colon 4 = .ok (.iload_n 3, 1) := by decide +kernel
theorem d_KDoc_colon_5 : decode b_KDoc_colon 5 = .ok (.aload_n 0, 1) := by decide +kernel
theorem d_KDoc_colon_6 : decode b_KDoc_colon 6 = .ok (.getfield 34, 3) := by decide +kernel
theorem d_KDoc_colon_9 : decode b_KDoc_colon 9 = .ok (.iload_n 1, 1) := by decide +kernel
theorem d_KDoc_colon_10 : decode b_KDoc_colon 10 = .ok (.invokevirtual 102, 3) := by decide +kernel
theorem d_KDoc_colon_13 : decode b_KDoc_colon 13 = .ok (.if_icmp .ge 32, 3) := by decide +kernel
theorem d_KDoc_colon_16 : decode b_KDoc_colon 16 = .ok (.aload_n 0, 1) := by decide +kernel
theorem d_KDoc_colon_17 : decode b_KDoc_colon 17 = .ok (.getfield 34, 3) := by decide +kernel
theorem d_KDoc_colon_20 : decode b_KDoc_colon 20 = .ok (.iload_n 1, 1) := by decide +kernel
theorem d_KDoc_colon_21 : decode b_KDoc_colon 21 = .ok (.iload_n 3, 1) := by decide +kernel
theorem d_KDoc_colon_22 : decode b_KDoc_colon 22 = .ok (.invokevirtual 106, 3) := by decide +kernel
theorem d_KDoc_colon_25 : decode b_KDoc_colon 25 = .ok (.bipush 58, 2) := by decide +kernel
theorem d_KDoc_colon_27 : decode b_KDoc_colon 27 = .ok (.if_icmp .ne 12, 3) := by decide +kernel
theorem d_KDoc_colon_30 : decode b_KDoc_colon 30 = .ok (.iload_n 2, 1) := by decide +kernel
theorem d_KDoc_colon_31 : decode b_KDoc_colon 31 = .ok (.ifCond .lt 6, 3) := by decide +kernel
theorem d_KDoc_colon_34 : decode b_KDoc_colon 34 = .ok (.bipush (-2), 2) := by decide +kernel
theorem d_KDoc_colon_36 : decode b_KDoc_colon 36 = .ok (.ireturn, 1) := by decide +kernel
theorem d_KDoc_colon_37 : decode b_KDoc_colon 37 = .ok (.iload_n 3, 1) := by decide +kernel
theorem d_KDoc_colon_38 : decode b_KDoc_colon 38 = .ok (.istore_n 2, 1) := by decide +kernel
theorem d_KDoc_colon_39 : decode b_KDoc_colon 39 = .ok (.iinc 3 1, 3) := by decide +kernel
theorem d_KDoc_colon_42 : decode b_KDoc_colon 42 = .ok (.goto (-38), 3) := by decide +kernel
theorem d_KDoc_colon_45 : decode b_KDoc_colon 45 = .ok (.iload_n 2, 1) := by decide +kernel
theorem d_KDoc_colon_46 : decode b_KDoc_colon 46 = .ok (.ifCond .ge 5, 3) := by decide +kernel
theorem d_KDoc_colon_49 : decode b_KDoc_colon 49 = .ok (.iconst (-1), 1) := by decide +kernel
theorem d_KDoc_colon_50 : decode b_KDoc_colon 50 = .ok (.ireturn, 1) := by decide +kernel
theorem d_KDoc_colon_51 : decode b_KDoc_colon 51 = .ok (.iload_n 2, 1) := by decide +kernel
theorem d_KDoc_colon_52 : decode b_KDoc_colon 52 = .ok (.ifCond .le 38, 3) := by decide +kernel
theorem d_KDoc_colon_55 : decode b_KDoc_colon 55 = .ok (.iload_n 2, 1) := by decide +kernel
theorem d_KDoc_colon_56 : decode b_KDoc_colon 56 = .ok (.iconst 1, 1) := by decide +kernel
theorem d_KDoc_colon_57 : decode b_KDoc_colon 57 = .ok (.iadd, 1) := by decide +kernel
theorem d_KDoc_colon_58 : decode b_KDoc_colon 58 = .ok (.aload_n 0, 1) := by decide +kernel
theorem d_KDoc_colon_59 : decode b_KDoc_colon 59 = .ok (.getfield 34, 3) := by decide +kernel
theorem d_KDoc_colon_62 : decode b_KDoc_colon 62 = .ok (.iload_n 1, 1) := by decide +kernel
theorem d_KDoc_colon_63 : decode b_KDoc_colon 63 = .ok (.invokevirtual 102, 3) := by decide +kernel
theorem d_KDoc_colon_66 : decode b_KDoc_colon 66 = .ok (.if_icmp .ge 24, 3) := by decide +kernel
theorem d_KDoc_colon_69 : decode b_KDoc_colon 69 = .ok (.aload_n 0, 1) := by decide +kernel
theorem d_KDoc_colon_70 : decode b_KDoc_colon 70 = .ok (.getfield 34, 3) := by decide +kernel
theorem d_KDoc_colon_73 : decode b_KDoc_colon 73 = .ok (.iload_n 1, 1) := by decide +kernel
theorem d_KDoc_colon_74 : decode b_KDoc_colon 74 = .ok (.iload_n 2, 1) := by decide +kernel
theorem d_KDoc_colon_75 : decode b_KDoc_colon 75 = .ok (.iconst 1, 1) := by decide +kernel
theorem d_KDoc_colon_76 : decode b_KDoc_colon 76 = .ok (.iadd, 1) := by decide +kernel
theorem d_KDoc_colon_77 : decode b_KDoc_colon 77 = .ok (.invokevirtual 106, 3) := by decide +kernel
theorem d_KDoc_colon_80 : decode b_KDoc_colon 80 = .ok (.invokestatic 110, 3) := by decide +kernel
theorem d_KDoc_colon_83 : decode b_KDoc_colon 83 = .ok (.ifCond .eq 7, 3) := by decide +kernel
theorem d_KDoc_colon_86 : decode b_KDoc_colon 86 = .ok (.iconst 1, 1) := by decide +kernel
theorem d_KDoc_colon_87 : decode b_KDoc_colon 87 = .ok (.goto 4, 3) := by decide +kernel
theorem d_KDoc_colon_90 : decode b_KDoc_colon 90 = .ok (.iconst 0, 1) := by decide +kernel
theorem d_KDoc_colon_91 : decode b_KDoc_colon 91 = .ok (.istore_n 3, 1) := by decide +kernel
theorem d_KDoc_colon_92 : decode b_KDoc_colon 92 = .ok (.iload_n 3, 1) := by decide +kernel
theorem d_KDoc_colon_93 : decode b_KDoc_colon 93 = .ok (.ifCond .eq 7, 3) := by decide +kernel
theorem d_KDoc_colon_96 : decode b_KDoc_colon 96 = .ok (.iload_n 2, 1) := by decide +kernel
theorem d_KDoc_colon_97 : decode b_KDoc_colon 97 = .ok (.goto 5, 3) := by decide +kernel
theorem d_KDoc_colon_100 : decode b_KDoc_colon 100 = .ok (.bipush (-2), 2) := by decide +kernel
theorem d_KDoc_colon_102 : decode b_KDoc_colon 102 = .ok (.ireturn, 1) := by decide +kernel
/-- KDoc_colon -/
def w_KDoc_colon (L : Nat → Nat) (o : Nat) (a1 : Int) (Q : Int → IS → Prop) (σ : IS) : Prop := WL (fun (K1 : Int × Int → IS → Prop) (s3 : Int × Int) (σ4 : IS) => w_KBook_length L a1 (fun v6 σ5 => if s3.2 < v6 then w_KBook_at L a1 s3.2 (fun v33 σ32 => WJ (fun (s36 : Int) (σ37 : IS) => inR (s3.2 + 1) ∧ K1 (s36, (s3.2 + 1)) σ37) (fun J34 => if v33 = 58 then if s3.1 < 0 then J34 s3.2 σ32 else Q (-2) σ32 else J34 s3.1 σ32)) σ5 else if s3.1 < 0 then Q (-1) σ5 else WJ (fun (s11 : Int) (σ12 : IS) => Q (if s11 = 0 then ((-2) : Int) else s3.1) σ12) (fun J9 => WJ (fun (s19 : Unit) (σ20 : IS) => J9 0 σ20) (fun J17 => if 0 < s3.1 then inR (s3.1 + 1) ∧ w_KBook_length L a1 (fun v23 σ22 => if (s3.1 + 1) < v23 then inR (s3.1 + 1) ∧ w_KBook_at L a1 (s3.1 + 1) (fun v26 σ25 => w_K_isStart L v26 (fun v28 σ27 => if v28 = 0 then J17 () σ27 else J9 1 σ27) σ25) σ22 else J17 () σ22) σ5 else J17 () σ5))) σ4) ((-1), 0) σ
set_option maxHeartbeats 4000000 in
set_option maxRecDepth 20000 in
theorem s_KDoc_colon {L : Nat → Nat} (hL : ∀ r, L r < 2147483648) {d : Nat} (hd : 2 ≤ d) {o : Nat} {a1 : Int} {Q : Int → IS → Prop} {σ : IS} (ho : isDoc o) (h : w_KDoc_colon L o a1 Q σ) : OkI BF L d 14 b_KDoc_colon 4 1 0 [] [some (.inr o), some (.inl a1)] σ (qi Q) := by
  unfold w_KDoc_colon at h
  obtain ⟨d, rfl⟩ : ∃ e, d = e + 1 := ⟨d - 1, by omega⟩
  refine k_sb (lv' := [some (.inr o), some (.inl a1), none, none]) (sb_s (sb_s (sb_e (sb_e sb_nil)))) ?_
  refine k_iconst d_KDoc_colon_0 cI_m1 ?_
  refine k_istore_n (lv' := [some (.inr o), some (.inl a1), some (.inl (-1)), none]) d_KDoc_colon_1 rfl rfl ?_
  refine k_iconst d_KDoc_colon_2 cI_0 ?_
  refine k_istore_n (lv' := [some (.inr o), some (.inl a1), some (.inl (-1)), some (.inl 0)]) d_KDoc_colon_3 rfl rfl ?_
  refine k_sb (lv' := [some (.inr o), some (.inl a1), some (.inl (-1)), some (.inl 0)]) (sb_s (sb_s (sb_s (sb_s sb_nil)))) ?_
  refine k_loop (S := Int × Int) (st := fun _ => []) (lv := fun s3 => [some (.inr o), some (.inl a1), some (.inl s3.1), some (.inl s3.2)]) (fun K1 hK2 s3 σ4 h => ?_) ((-1), 0) _ h
  refine k_iload_n d_KDoc_colon_4 rfl ?_
  refine k_aload_n d_KDoc_colon_5 rfl ?_
  refine k_getR d_KDoc_colon_6 fl_14_34 (doc_ob ho) (dfr_0 ho) ?_
  refine k_iload_n d_KDoc_colon_9 rfl ?_
  refine k_cvi [.inl a1] d_KDoc_colon_10 ml_14_102 rfl rfl ob_13 rfl (s_KBook_length hL (by omega)  h) (fun v6 σ5 h => ?_)
  refine k_icge d_KDoc_colon_13 rfl (fun c7 => ?_) (fun c7 => ?_)
  · have h := ineg c7 h
    refine k_iload_n d_KDoc_colon_45 rfl ?_
    refine k_ifge d_KDoc_colon_46 rfl (fun c8 => ?_) (fun c8 => ?_)
    · have h := ineg c8 h
      refine k_iload_n d_KDoc_colon_51 rfl ?_
      refine k_join (S := Int) (pc' := 91) (st' := fun s11 => [.inl s11]) (lv' := fun s11 => [none, none, some (.inl s3.1), none]) (fun s11 σ12 h => ?_) (fun J9 hJ10 h => ?_) h
      · refine k_istore_n (lv' := [none, none, some (.inl s3.1), some (.inl s11)]) d_KDoc_colon_91 rfl rfl ?_
        refine k_iload_n d_KDoc_colon_92 rfl ?_
        have hV13 : OkI BF L (d + 1) 14 b_KDoc_colon 4 1 102 [.inl (if s11 = 0 then ((-2) : Int) else s3.1)] [none, none, some (.inl s3.1), some (.inl s11)] σ12 (qi Q) := by
          exact k_iret d_KDoc_colon_102 (Or.inl rfl) h
        refine k_ifeq d_KDoc_colon_93 rfl (fun c14 => ?_) (fun c14 => ?_)
        · have hV15 := k_eqI (if_pos c14) hV13
          refine k_bipush d_KDoc_colon_100 cB_m2 ?_
          exact hV15
        · have hV16 := k_eqI (if_neg c14) hV13
          refine k_iload_n d_KDoc_colon_96 rfl ?_
          refine k_goto d_KDoc_colon_97 rfl ?_
          exact hV16
      · refine k_join (S := Unit) (pc' := 90) (st' := fun s19 => []) (lv' := fun s19 => [none, none, some (.inl s3.1), none]) (fun s19 σ20 h => ?_) (fun J17 hJ18 h => ?_) h
        · refine k_iconst d_KDoc_colon_90 cI_0 ?_
          exact k_sb (sb_s (sb_s (sb_s (sb_s sb_nil)))) (hJ10 0 _ h)
        · refine k_ifle d_KDoc_colon_52 rfl (fun c21 => ?_) (fun c21 => ?_)
          · have h := ineg c21 h
            exact k_sb (sb_n (sb_n (sb_s (sb_n sb_nil)))) (hJ18 () _ h)
          · have h := ipos c21 h
            refine k_iload_n d_KDoc_colon_55 rfl ?_
            refine k_iconst d_KDoc_colon_56 cI_1 ?_
            obtain ⟨p31, h⟩ := h
            refine k_iadd d_KDoc_colon_57 p31 ?_
            refine k_aload_n d_KDoc_colon_58 rfl ?_
            refine k_getR d_KDoc_colon_59 fl_14_34 (doc_ob ho) (dfr_0 ho) ?_
            refine k_iload_n d_KDoc_colon_62 rfl ?_
            refine k_cvi [.inl a1] d_KDoc_colon_63 ml_14_102 rfl rfl ob_13 rfl (s_KBook_length hL (by omega)  h) (fun v23 σ22 h => ?_)
            refine k_icge d_KDoc_colon_66 rfl (fun c24 => ?_) (fun c24 => ?_)
            · have h := ineg c24 h
              exact k_sb (sb_n (sb_n (sb_s (sb_n sb_nil)))) (hJ18 () _ h)
            · have h := ipos c24 h
              refine k_aload_n d_KDoc_colon_69 rfl ?_
              refine k_getR d_KDoc_colon_70 fl_14_34 (doc_ob ho) (dfr_0 ho) ?_
              refine k_iload_n d_KDoc_colon_73 rfl ?_
              refine k_iload_n d_KDoc_colon_74 rfl ?_
              refine k_iconst d_KDoc_colon_75 cI_1 ?_
              obtain ⟨p30, h⟩ := h
              refine k_iadd d_KDoc_colon_76 p30 ?_
              refine k_cvi [.inl a1, .inl (s3.1 + 1)] d_KDoc_colon_77 ml_14_106 rfl rfl ob_13 rfl (s_KBook_at hL (by omega)  h) (fun v26 σ25 h => ?_)
              refine k_csi [.inl v26] d_KDoc_colon_80 ml_14_110 (Or.inr rfl) rfl rfl rfl (s_K_isStart hL (by omega)  h) (fun v28 σ27 h => ?_)
              refine k_ifeq d_KDoc_colon_83 rfl (fun c29 => ?_) (fun c29 => ?_)
              · have h := ipos c29 h
                exact k_sb (sb_n (sb_n (sb_s (sb_n sb_nil)))) (hJ18 () _ h)
              · have h := ineg c29 h
                refine k_iconst d_KDoc_colon_86 cI_1 ?_
                refine k_goto d_KDoc_colon_87 rfl ?_
                exact k_sb (sb_n (sb_n (sb_s (sb_n sb_nil)))) (hJ10 1 _ h)
    · have h := ipos c8 h
      refine k_iconst d_KDoc_colon_49 cI_m1 ?_
      exact k_iret d_KDoc_colon_50 (Or.inl rfl) h
  · have h := ipos c7 h
    refine k_aload_n d_KDoc_colon_16 rfl ?_
    refine k_getR d_KDoc_colon_17 fl_14_34 (doc_ob ho) (dfr_0 ho) ?_
    refine k_iload_n d_KDoc_colon_20 rfl ?_
    refine k_iload_n d_KDoc_colon_21 rfl ?_
    refine k_cvi [.inl a1, .inl s3.2] d_KDoc_colon_22 ml_14_106 rfl rfl ob_13 rfl (s_KBook_at hL (by omega)  h) (fun v33 σ32 h => ?_)
    refine k_bipush d_KDoc_colon_25 cB_58 ?_
    refine k_join (S := Int) (pc' := 39) (st' := fun s36 => []) (lv' := fun s36 => [some (.inr o), some (.inl a1), some (.inl s36), some (.inl s3.2)]) (fun s36 σ37 h => ?_) (fun J34 hJ35 h => ?_) h
    · obtain ⟨p38, h⟩ := h
      refine k_iinc (lv' := [some (.inr o), some (.inl a1), some (.inl s36), some (.inl (s3.2 + 1))]) d_KDoc_colon_39 cI_1 rfl rfl p38 rfl ?_
      refine k_goto d_KDoc_colon_42 rfl ?_
      exact k_sb (sb_s (sb_s (sb_s (sb_s sb_nil)))) (hK2 (s36, (s3.2 + 1)) _ h)
    · refine k_icne d_KDoc_colon_27 rfl (fun c39 => ?_) (fun c39 => ?_)
      · have h := ineg c39 h
        exact k_sb (sb_s (sb_s (sb_s (sb_s sb_nil)))) (hJ35 s3.1 _ h)
      · have h := ipos c39 h
        refine k_iload_n d_KDoc_colon_30 rfl ?_
        refine k_iflt d_KDoc_colon_31 rfl (fun c40 => ?_) (fun c40 => ?_)
        · have h := ipos c40 h
          refine k_iload_n d_KDoc_colon_37 rfl ?_
          refine k_istore_n (lv' := [some (.inr o), some (.inl a1), some (.inl s3.2), some (.inl s3.2)]) d_KDoc_colon_38 rfl rfl ?_
          exact k_sb (sb_s (sb_s (sb_s (sb_s sb_nil)))) (hJ35 s3.2 _ h)
        · have h := ineg c40 h
          refine k_bipush d_KDoc_colon_34 cB_m2 ?_
          exact k_iret d_KDoc_colon_36 (Or.inl rfl) h
theorem d_KBook_start_0 : decode b_KBook_start 0 = .ok (.aload_n 0, 1) := by decide +kernel
theorem d_KBook_start_1 : decode b_KBook_start 1 = .ok (.getfield 18, 3) := by decide +kernel
theorem d_KBook_start_4 : decode b_KBook_start 4 = .ok (.iload_n 1, 1) := by decide +kernel
theorem d_KBook_start_5 : decode b_KBook_start 5 = .ok (.iaload, 1) := by decide +kernel
theorem d_KBook_start_6 : decode b_KBook_start 6 = .ok (.ireturn, 1) := by decide +kernel
/-- KBook_start -/
def w_KBook_start (L : Nat → Nat) (a1 : Int) (Q : Int → IS → Prop) (σ : IS) : Prop := inL L 213 a1 ∧ Q (σ.2 213 (Int.toNat a1)) σ
set_option maxHeartbeats 4000000 in
set_option maxRecDepth 20000 in
theorem s_KBook_start {L : Nat → Nat} (hL : ∀ r, L r < 2147483648) {d : Nat} (hd : 0 ≤ d) {a1 : Int} {Q : Int → IS → Prop} {σ : IS}  (h : w_KBook_start L a1 Q σ) : OkI BF L d 13 b_KBook_start 2 1 0 [] [some (.inr 13), some (.inl a1)] σ (qi Q) := by
  unfold w_KBook_start at h
  refine k_sb (lv' := [some (.inr 13), some (.inl a1)]) (sb_s (sb_s sb_nil)) ?_
  refine k_aload_n d_KBook_start_0 rfl ?_
  refine k_getR d_KBook_start_1 fl_13_18 ob_13 rfl ?_
  refine k_iload_n d_KBook_start_4 rfl ?_
  obtain ⟨p1, h⟩ := h
  refine k_ild (x := (σ.2 213 (Int.toNat a1))) d_KBook_start_5 rI_213 p1 rfl ?_
  exact k_iret d_KBook_start_6 (Or.inl rfl) h
theorem d_KDoc_prefix_0 : decode b_KDoc_prefix 0 = .ok (.aload_n 0, 1) := by decide +kernel
theorem d_KDoc_prefix_1 : decode b_KDoc_prefix 1 = .ok (.iload_n 1, 1) := by decide +kernel
theorem d_KDoc_prefix_2 : decode b_KDoc_prefix 2 = .ok (.invokevirtual 114, 3) := by decide +kernel
theorem d_KDoc_prefix_5 : decode b_KDoc_prefix 5 = .ok (.istore_n 2, 1) := by decide +kernel
theorem d_KDoc_prefix_6 : decode b_KDoc_prefix 6 = .ok (.iload_n 2, 1) := by decide +kernel
theorem d_KDoc_prefix_7 : decode b_KDoc_prefix 7 = .ok (.ifCond .ge 7, 3) := by decide +kernel
theorem d_KDoc_prefix_10 : decode b_KDoc_prefix 10 = .ok (.iconst (-1), 1) := by decide +kernel
theorem d_KDoc_prefix_11 : decode b_KDoc_prefix 11 = .ok (.goto 26, 3) := by decide +kernel
theorem d_KDoc_prefix_14 : decode b_KDoc_prefix 14 = .ok (.aload_n 0, 1) := by decide +kernel
theorem d_KDoc_prefix_15 : decode b_KDoc_prefix 15 = .ok (.getfield 34, 3) := by decide +kernel
theorem d_KDoc_prefix_18 : decode b_KDoc_prefix 18 = .ok (.aload_n 0, 1) := by decide +kernel
theorem d_KDoc_prefix_19 : decode b_KDoc_prefix 19 = .ok (.getfield 34, 3) := by decide +kernel
theorem d_KDoc_prefix_22 : decode b_KDoc_prefix 22 = .ok (.getfield 117, 3) := by decide +kernel
theorem d_KDoc_prefix_25 : decode b_KDoc_prefix 25 = .ok (.aload_n 0, 1) := by decide +kernel
theorem d_KDoc_prefix_26 : decode b_KDoc_prefix 26 = .ok (.getfield 34, 3) := by decide +kernel
theorem d_KDoc_prefix_29 : decode b_KDoc_prefix 29 = .ok (.iload_n 1, 1) := by decide +kernel
theorem d_KDoc_prefix_30 : decode b_KDoc_prefix 30 = .ok (.invokevirtual 118, 3) := by decide +kernel
theorem d_KDoc_prefix_33 : decode b_KDoc_prefix 33 = .ok (.iload_n 2, 1) := by decide +kernel
theorem d_KDoc_prefix_34 : decode b_KDoc_prefix 34 = .ok (.invokevirtual 121, 3) := by decide +kernel
theorem d_KDoc_prefix_37 : decode b_KDoc_prefix 37 = .ok (.ireturn, 1) := by decide +kernel
/-- KDoc_prefix -/
def w_KDoc_prefix (L : Nat → Nat) (o : Nat) (a1 : Int) (Q : Int → IS → Prop) (σ : IS) : Prop := w_KDoc_colon L o a1 (fun v2 σ1 => WJ (fun (s5 : Int) (σ6 : IS) => Q s5 σ6) (fun J3 => if v2 < 0 then J3 (-1) σ1 else w_KBook_start L a1 (fun v9 σ8 => w_KBook_keep L 212 v9 v2 (fun v11 σ10 => J3 v11 σ10) σ8) σ1)) σ
set_option maxHeartbeats 4000000 in
set_option maxRecDepth 20000 in
theorem s_KDoc_prefix {L : Nat → Nat} (hL : ∀ r, L r < 2147483648) {d : Nat} (hd : 3 ≤ d) {o : Nat} {a1 : Int} {Q : Int → IS → Prop} {σ : IS} (ho : isDoc o) (h : w_KDoc_prefix L o a1 Q σ) : OkI BF L d 14 b_KDoc_prefix 3 1 0 [] [some (.inr o), some (.inl a1)] σ (qi Q) := by
  unfold w_KDoc_prefix at h
  obtain ⟨d, rfl⟩ : ∃ e, d = e + 1 := ⟨d - 1, by omega⟩
  refine k_sb (lv' := [some (.inr o), some (.inl a1), none]) (sb_s (sb_s (sb_e sb_nil))) ?_
  refine k_aload_n d_KDoc_prefix_0 rfl ?_
  refine k_iload_n d_KDoc_prefix_1 rfl ?_
  refine k_cvi [.inl a1] d_KDoc_prefix_2 ml_14_114 rfl rfl (doc_ob ho) rfl (s_KDoc_colon hL (by omega) ho h) (fun v2 σ1 h => ?_)
  refine k_istore_n (lv' := [some (.inr o), some (.inl a1), some (.inl v2)]) d_KDoc_prefix_5 rfl rfl ?_
  refine k_iload_n d_KDoc_prefix_6 rfl ?_
  refine k_join (S := Int) (pc' := 37) (st' := fun s5 => [.inl s5]) (lv' := fun s5 => [none, none, none]) (fun s5 σ6 h => ?_) (fun J3 hJ4 h => ?_) h
  · exact k_iret d_KDoc_prefix_37 (Or.inl rfl) h
  · refine k_ifge d_KDoc_prefix_7 rfl (fun c7 => ?_) (fun c7 => ?_)
    · have h := ineg c7 h
      refine k_aload_n d_KDoc_prefix_14 rfl ?_
      refine k_getR d_KDoc_prefix_15 fl_14_34 (doc_ob ho) (dfr_0 ho) ?_
      refine k_aload_n d_KDoc_prefix_18 rfl ?_
      refine k_getR d_KDoc_prefix_19 fl_14_34 (doc_ob ho) (dfr_0 ho) ?_
      refine k_getR d_KDoc_prefix_22 fl_14_117 ob_13 rfl ?_
      refine k_aload_n d_KDoc_prefix_25 rfl ?_
      refine k_getR d_KDoc_prefix_26 fl_14_34 (doc_ob ho) (dfr_0 ho) ?_
      refine k_iload_n d_KDoc_prefix_29 rfl ?_
      refine k_cvi [.inl a1] d_KDoc_prefix_30 ml_14_118 rfl rfl ob_13 rfl (s_KBook_start hL (by omega)  h) (fun v9 σ8 h => ?_)
      refine k_iload_n d_KDoc_prefix_33 rfl ?_
      refine k_cvi [.inr 212, .inl v9, .inl v2] d_KDoc_prefix_34 ml_14_121 rfl rfl ob_13 rfl (s_KBook_keep hL (by omega) rI_212 h) (fun v11 σ10 h => ?_)
      exact k_sb (sb_n (sb_n (sb_n sb_nil))) (hJ4 v11 _ h)
    · have h := ipos c7 h
      refine k_iconst d_KDoc_prefix_10 cI_m1 ?_
      refine k_goto d_KDoc_prefix_11 rfl ?_
      exact k_sb (sb_n (sb_n (sb_n sb_nil))) (hJ4 (-1) _ h)
theorem d_KDoc_local_0 : decode b_KDoc_local 0 = .ok (.aload_n 0, 1) := by decide +kernel
theorem d_KDoc_local_1 : decode b_KDoc_local 1 = .ok (.iload_n 1, 1) := by decide +kernel
theorem d_KDoc_local_2 : decode b_KDoc_local 2 = .ok (.invokevirtual 114, 3) := by decide +kernel
theorem d_KDoc_local_5 : decode b_KDoc_local 5 = .ok (.istore_n 2, 1) := by decide +kernel
theorem d_KDoc_local_6 : decode b_KDoc_local 6 = .ok (.iload_n 2, 1) := by decide +kernel
theorem d_KDoc_local_7 : decode b_KDoc_local 7 = .ok (.ifCond .ge 7, 3) := by decide +kernel
theorem d_KDoc_local_10 : decode b_KDoc_local 10 = .ok (.iload_n 1, 1) := by decide +kernel
theorem d_KDoc_local_11 : decode b_KDoc_local 11 = .ok (.goto 41, 3) := by decide +kernel
theorem d_KDoc_local_14 : decode b_KDoc_local 14 = .ok (.aload_n 0, 1) := by decide +kernel
theorem d_KDoc_local_15 : decode b_KDoc_local 15 = .ok (.getfield 34, 3) := by decide +kernel
theorem d_KDoc_local_18 : decode b_KDoc_local 18 = .ok (.aload_n 0, 1) := by decide +kernel
theorem d_KDoc_local_19 : decode b_KDoc_local 19 = .ok (.getfield 34, 3) := by decide +kernel
theorem d_KDoc_local_22 : decode b_KDoc_local 22 = .ok (.getfield 117, 3) := by decide +kernel
theorem d_KDoc_local_25 : decode b_KDoc_local 25 = .ok (.aload_n 0, 1) := by decide +kernel
theorem d_KDoc_local_26 : decode b_KDoc_local 26 = .ok (.getfield 34, 3) := by decide +kernel
theorem d_KDoc_local_29 : decode b_KDoc_local 29 = .ok (.iload_n 1, 1) := by decide +kernel
theorem d_KDoc_local_30 : decode b_KDoc_local 30 = .ok (.invokevirtual 118, 3) := by decide +kernel
theorem d_KDoc_local_33 : decode b_KDoc_local 33 = .ok (.iload_n 2, 1) := by decide +kernel
theorem d_KDoc_local_34 : decode b_KDoc_local 34 = .ok (.iadd, 1) := by decide +kernel
theorem d_KDoc_local_35 : decode b_KDoc_local 35 = .ok (.iconst 1, 1) := by decide +kernel
theorem d_KDoc_local_36 : decode b_KDoc_local 36 = .ok (.iadd, 1) := by decide +kernel
theorem d_KDoc_local_37 : decode b_KDoc_local 37 = .ok (.aload_n 0, 1) := by decide +kernel
theorem d_KDoc_local_38 : decode b_KDoc_local 38 = .ok (.getfield 34, 3) := by decide +kernel
theorem d_KDoc_local_41 : decode b_KDoc_local 41 = .ok (.iload_n 1, 1) := by decide +kernel
theorem d_KDoc_local_42 : decode b_KDoc_local 42 = .ok (.invokevirtual 102, 3) := by decide +kernel
theorem d_KDoc_local_45 : decode b_KDoc_local 45 = .ok (.iload_n 2, 1) := by decide +kernel
theorem d_KDoc_local_46 : decode b_KDoc_local 46 = .ok (.isub, 1) := by decide +kernel
theorem d_KDoc_local_47 : decode b_KDoc_local 47 = .ok (.iconst 1, 1) := by decide +kernel
theorem d_KDoc_local_48 : decode b_KDoc_local 48 = .ok (.isub, 1) := by decide +kernel
theorem d_KDoc_local_49 : decode b_KDoc_local 49 = .ok (.invokevirtual 121, 3) := by decide +kernel
theorem d_KDoc_local_52 : decode b_KDoc_local 52 = .ok (.ireturn, 1) := by decide +kernel
/-- KDoc_local -/
def w_KDoc_local (L : Nat → Nat) (o : Nat) (a1 : Int) (Q : Int → IS → Prop) (σ : IS) : Prop := w_KDoc_colon L o a1 (fun v2 σ1 => WJ (fun (s5 : Int) (σ6 : IS) => Q s5 σ6) (fun J3 => if v2 < 0 then J3 a1 σ1 else w_KBook_start L a1 (fun v9 σ8 => inR (v9 + v2) ∧ inR ((v9 + v2) + 1) ∧ w_KBook_length L a1 (fun v11 σ10 => inR (v11 - v2) ∧ inR ((v11 - v2) - 1) ∧ w_KBook_keep L 212 ((v9 + v2) + 1) ((v11 - v2) - 1) (fun v13 σ12 => J3 v13 σ12) σ10) σ8) σ1)) σ
set_option maxHeartbeats 4000000 in
set_option maxRecDepth 20000 in
theorem s_KDoc_local {L : Nat → Nat} (hL : ∀ r, L r < 2147483648) {d : Nat} (hd : 3 ≤ d) {o : Nat} {a1 : Int} {Q : Int → IS → Prop} {σ : IS} (ho : isDoc o) (h : w_KDoc_local L o a1 Q σ) : OkI BF L d 14 b_KDoc_local 3 1 0 [] [some (.inr o), some (.inl a1)] σ (qi Q) := by
  unfold w_KDoc_local at h
  obtain ⟨d, rfl⟩ : ∃ e, d = e + 1 := ⟨d - 1, by omega⟩
  refine k_sb (lv' := [some (.inr o), some (.inl a1), none]) (sb_s (sb_s (sb_e sb_nil))) ?_
  refine k_aload_n d_KDoc_local_0 rfl ?_
  refine k_iload_n d_KDoc_local_1 rfl ?_
  refine k_cvi [.inl a1] d_KDoc_local_2 ml_14_114 rfl rfl (doc_ob ho) rfl (s_KDoc_colon hL (by omega) ho h) (fun v2 σ1 h => ?_)
  refine k_istore_n (lv' := [some (.inr o), some (.inl a1), some (.inl v2)]) d_KDoc_local_5 rfl rfl ?_
  refine k_iload_n d_KDoc_local_6 rfl ?_
  refine k_join (S := Int) (pc' := 52) (st' := fun s5 => [.inl s5]) (lv' := fun s5 => [none, none, none]) (fun s5 σ6 h => ?_) (fun J3 hJ4 h => ?_) h
  · exact k_iret d_KDoc_local_52 (Or.inl rfl) h
  · refine k_ifge d_KDoc_local_7 rfl (fun c7 => ?_) (fun c7 => ?_)
    · have h := ineg c7 h
      refine k_aload_n d_KDoc_local_14 rfl ?_
      refine k_getR d_KDoc_local_15 fl_14_34 (doc_ob ho) (dfr_0 ho) ?_
      refine k_aload_n d_KDoc_local_18 rfl ?_
      refine k_getR d_KDoc_local_19 fl_14_34 (doc_ob ho) (dfr_0 ho) ?_
      refine k_getR d_KDoc_local_22 fl_14_117 ob_13 rfl ?_
      refine k_aload_n d_KDoc_local_25 rfl ?_
      refine k_getR d_KDoc_local_26 fl_14_34 (doc_ob ho) (dfr_0 ho) ?_
      refine k_iload_n d_KDoc_local_29 rfl ?_
      refine k_cvi [.inl a1] d_KDoc_local_30 ml_14_118 rfl rfl ob_13 rfl (s_KBook_start hL (by omega)  h) (fun v9 σ8 h => ?_)
      refine k_iload_n d_KDoc_local_33 rfl ?_
      obtain ⟨p17, h⟩ := h
      refine k_iadd d_KDoc_local_34 p17 ?_
      refine k_iconst d_KDoc_local_35 cI_1 ?_
      obtain ⟨p16, h⟩ := h
      refine k_iadd d_KDoc_local_36 p16 ?_
      refine k_aload_n d_KDoc_local_37 rfl ?_
      refine k_getR d_KDoc_local_38 fl_14_34 (doc_ob ho) (dfr_0 ho) ?_
      refine k_iload_n d_KDoc_local_41 rfl ?_
      refine k_cvi [.inl a1] d_KDoc_local_42 ml_14_102 rfl rfl ob_13 rfl (s_KBook_length hL (by omega)  h) (fun v11 σ10 h => ?_)
      refine k_iload_n d_KDoc_local_45 rfl ?_
      obtain ⟨p15, h⟩ := h
      refine k_isub d_KDoc_local_46 p15 ?_
      refine k_iconst d_KDoc_local_47 cI_1 ?_
      obtain ⟨p14, h⟩ := h
      refine k_isub d_KDoc_local_48 p14 ?_
      refine k_cvi [.inr 212, .inl ((v9 + v2) + 1), .inl ((v11 - v2) - 1)] d_KDoc_local_49 ml_14_121 rfl rfl ob_13 rfl (s_KBook_keep hL (by omega) rI_212 h) (fun v13 σ12 h => ?_)
      exact k_sb (sb_n (sb_n (sb_n sb_nil))) (hJ4 v13 _ h)
    · have h := ipos c7 h
      refine k_iload_n d_KDoc_local_10 rfl ?_
      refine k_goto d_KDoc_local_11 rfl ?_
      exact k_sb (sb_n (sb_n (sb_n sb_nil))) (hJ4 a1 _ h)
theorem d_KReader_add_0 : decode b_KReader_add 0 = .ok (.aload_n 0, 1) := by decide +kernel
theorem d_KReader_add_1 : decode b_KReader_add 1 = .ok (.getfield 150, 3) := by decide +kernel
theorem d_KReader_add_4 : decode b_KReader_add 4 = .ok (.getfield 748, 3) := by decide +kernel
theorem d_KReader_add_7 : decode b_KReader_add 7 = .ok (.istore 5, 2) := by decide +kernel
theorem d_KReader_add_9 : decode b_KReader_add 9 = .ok (.aload_n 0, 1) := by decide +kernel
theorem d_KReader_add_10 : decode b_KReader_add 10 = .ok (.getfield 150, 3) := by decide +kernel
theorem d_KReader_add_13 : decode b_KReader_add 13 = .ok (.getfield 766, 3) := by decide +kernel
theorem d_KReader_add_16 : decode b_KReader_add 16 = .ok (.iload 5, 2) := by decide +kernel
theorem d_KReader_add_18 : decode b_KReader_add 18 = .ok (.iload_n 1, 1) := by decide +kernel
theorem d_KReader_add_19 : decode b_KReader_add 19 = .ok (.iastore, 1) := by decide +kernel
theorem d_KReader_add_20 : decode b_KReader_add 20 = .ok (.aload_n 0, 1) := by decide +kernel
theorem d_KReader_add_21 : decode b_KReader_add 21 = .ok (.getfield 150, 3) := by decide +kernel
theorem d_KReader_add_24 : decode b_KReader_add 24 = .ok (.getfield 775, 3) := by decide +kernel
theorem d_KReader_add_27 : decode b_KReader_add 27 = .ok (.iload 5, 2) := by decide +kernel
theorem d_KReader_add_29 : decode b_KReader_add 29 = .ok (.iload_n 2, 1) := by decide +kernel
theorem d_KReader_add_30 : decode b_KReader_add 30 = .ok (.iastore, 1) := by decide +kernel
theorem d_KReader_add_31 : decode b_KReader_add 31 = .ok (.aload_n 0, 1) := by decide +kernel
theorem d_KReader_add_32 : decode b_KReader_add 32 = .ok (.getfield 150, 3) := by decide +kernel
theorem d_KReader_add_35 : decode b_KReader_add 35 = .ok (.getfield 778, 3) := by decide +kernel
theorem d_KReader_add_38 : decode b_KReader_add 38 = .ok (.iload 5, 2) := by decide +kernel
theorem d_KReader_add_40 : decode b_KReader_add 40 = .ok (.iload_n 3, 1) := by decide +kernel
theorem d_KReader_add_41 : decode b_KReader_add 41 = .ok (.iastore, 1) := by decide +kernel
theorem d_KReader_add_42 : decode b_KReader_add 42 = .ok (.aload_n 0, 1) := by decide +kernel
theorem d_KReader_add_43 : decode b_KReader_add 43 = .ok (.getfield 150, 3) := by decide +kernel
theorem d_KReader_add_46 : decode b_KReader_add 46 = .ok (.getfield 781, 3) := by decide +kernel
theorem d_KReader_add_49 : decode b_KReader_add 49 = .ok (.iload 5, 2) := by decide +kernel
theorem d_KReader_add_51 : decode b_KReader_add 51 = .ok (.iload 4, 2) := by decide +kernel
theorem d_KReader_add_53 : decode b_KReader_add 53 = .ok (.i2b, 1) := by decide +kernel
theorem d_KReader_add_54 : decode b_KReader_add 54 = .ok (.bastore, 1) := by decide +kernel
theorem d_KReader_add_55 : decode b_KReader_add 55 = .ok (.aload_n 0, 1) := by decide +kernel
theorem d_KReader_add_56 : decode b_KReader_add 56 = .ok (.getfield 150, 3) := by decide +kernel
theorem d_KReader_add_59 : decode b_KReader_add 59 = .ok (.getfield 784, 3) := by decide +kernel
theorem d_KReader_add_62 : decode b_KReader_add 62 = .ok (.iload 5, 2) := by decide +kernel
theorem d_KReader_add_64 : decode b_KReader_add 64 = .ok (.aload_n 0, 1) := by decide +kernel
theorem d_KReader_add_65 : decode b_KReader_add 65 = .ok (.getfield 150, 3) := by decide +kernel
theorem d_KReader_add_68 : decode b_KReader_add 68 = .ok (.iload_n 1, 1) := by decide +kernel
theorem d_KReader_add_69 : decode b_KReader_add 69 = .ok (.invokevirtual 787, 3) := by decide +kernel
theorem d_KReader_add_72 : decode b_KReader_add 72 = .ok (.iastore, 1) := by decide +kernel
theorem d_KReader_add_73 : decode b_KReader_add 73 = .ok (.aload_n 0, 1) := by decide +kernel
theorem d_KReader_add_74 : decode b_KReader_add 74 = .ok (.getfield 150, 3) := by decide +kernel
theorem d_KReader_add_77 : decode b_KReader_add 77 = .ok (.getfield 790, 3) := by decide +kernel
theorem d_KReader_add_80 : decode b_KReader_add 80 = .ok (.iload 5, 2) := by decide +kernel
theorem d_KReader_add_82 : decode b_KReader_add 82 = .ok (.aload_n 0, 1) := by decide +kernel
theorem d_KReader_add_83 : decode b_KReader_add 83 = .ok (.getfield 150, 3) := by decide +kernel
theorem d_KReader_add_86 : decode b_KReader_add 86 = .ok (.iload_n 1, 1) := by decide +kernel
theorem d_KReader_add_87 : decode b_KReader_add 87 = .ok (.invokevirtual 793, 3) := by decide +kernel
theorem d_KReader_add_90 : decode b_KReader_add 90 = .ok (.iastore, 1) := by decide +kernel
theorem d_KReader_add_91 : decode b_KReader_add 91 = .ok (.aload_n 0, 1) := by decide +kernel
theorem d_KReader_add_92 : decode b_KReader_add 92 = .ok (.getfield 150, 3) := by decide +kernel
theorem d_KReader_add_95 : decode b_KReader_add 95 = .ok (.dup, 1) := by decide +kernel
theorem d_KReader_add_96 : decode b_KReader_add 96 = .ok (.getfield 748, 3) := by decide +kernel
theorem d_KReader_add_99 : decode b_KReader_add 99 = .ok (.iconst 1, 1) := by decide +kernel
theorem d_KReader_add_100 : decode b_KReader_add 100 = .ok (.iadd, 1) := by decide +kernel
theorem d_KReader_add_101 : decode b_KReader_add 101 = .ok (.putfield 748, 3) := by decide +kernel
theorem d_KReader_add_104 : decode b_KReader_add 104 = .ok (.return_, 1) := by decide +kernel
/-- KReader_add -/
def w_KReader_add (L : Nat → Nat) (a1 : Int) (a2 : Int) (a3 : Int) (a4 : Int) (Q : IS → Prop) (σ : IS) : Prop := dyD (σ.1 16 2) ∧ inL L (rfo (Int.toNat (σ.1 16 2)) 8) (σ.1 (Int.toNat (σ.1 16 2)) 14) ∧ inL L (rfo (Int.toNat (σ.1 16 2)) 9) (σ.1 (Int.toNat (σ.1 16 2)) 14) ∧ inL L (rfo (Int.toNat (σ.1 16 2)) 10) (σ.1 (Int.toNat (σ.1 16 2)) 14) ∧ inL L (rfo (Int.toNat (σ.1 16 2)) 11) (σ.1 (Int.toNat (σ.1 16 2)) 14) ∧ w_KDoc_prefix L (Int.toNat (σ.1 16 2)) a1 (fun v3 σ2 => inL L (rfo (Int.toNat (σ.1 16 2)) 12) (σ.1 (Int.toNat (σ.1 16 2)) 14) ∧ dyD (σ2.1 16 2) ∧ w_KDoc_local L (Int.toNat (σ2.1 16 2)) a1 (fun v6 σ5 => inL L (rfo (Int.toNat (σ2.1 16 2)) 13) (σ.1 (Int.toNat (σ.1 16 2)) 14) ∧ dyD (σ5.1 16 2) ∧ inR ((σ5.1 (Int.toNat (σ5.1 16 2)) 14) + 1) ∧ Q (pf (pr σ5 (rfo (Int.toNat (σ2.1 16 2)) 13) (Int.toNat (σ.1 (Int.toNat (σ.1 16 2)) 14)) v6) (Int.toNat (σ5.1 16 2)) 14 ((σ5.1 (Int.toNat (σ5.1 16 2)) 14) + 1))) (pr σ2 (rfo (Int.toNat (σ.1 16 2)) 12) (Int.toNat (σ.1 (Int.toNat (σ.1 16 2)) 14)) v3)) (pr (pr (pr (pr σ (rfo (Int.toNat (σ.1 16 2)) 8) (Int.toNat (σ.1 (Int.toNat (σ.1 16 2)) 14)) a1) (rfo (Int.toNat (σ.1 16 2)) 9) (Int.toNat (σ.1 (Int.toNat (σ.1 16 2)) 14)) a2) (rfo (Int.toNat (σ.1 16 2)) 10) (Int.toNat (σ.1 (Int.toNat (σ.1 16 2)) 14)) a3) (rfo (Int.toNat (σ.1 16 2)) 11) (Int.toNat (σ.1 (Int.toNat (σ.1 16 2)) 14)) (nb a4))
set_option maxHeartbeats 4000000 in
set_option maxRecDepth 20000 in
theorem s_KReader_add {L : Nat → Nat} (hL : ∀ r, L r < 2147483648) {d : Nat} (hd : 4 ≤ d) {a1 : Int} {a2 : Int} {a3 : Int} {a4 : Int} {Q : IS → Prop} {σ : IS}  (h : w_KReader_add L a1 a2 a3 a4 Q σ) : OkI BF L d 15 b_KReader_add 6 0 0 [] [some (.inr 16), some (.inl a1), some (.inl a2), some (.inl a3), some (.inl a4)] σ (qv Q) := by
  unfold w_KReader_add at h
  obtain ⟨d, rfl⟩ : ∃ e, d = e + 1 := ⟨d - 1, by omega⟩
  refine k_sb (lv' := [some (.inr 16), some (.inl a1), some (.inl a2), some (.inl a3), some (.inl a4), none]) (sb_s (sb_s (sb_s (sb_s (sb_s (sb_e sb_nil)))))) ?_
  refine k_aload_n d_KReader_add_0 rfl ?_
  obtain ⟨y1, h⟩ := h
  refine k_getD (x := (σ.1 16 2)) d_KReader_add_1 fl_15_150 ob_16 rfl rfl (dyD_pos y1) ?_
  refine k_getI (x := (σ.1 (Int.toNat (σ.1 16 2)) 14)) d_KReader_add_4 fl_15_748 (doc_ob (dyD_doc y1)) (dfi_14 (dyD_doc y1)) rfl ?_
  refine k_istore (lv' := [some (.inr 16), some (.inl a1), some (.inl a2), some (.inl a3), some (.inl a4), some (.inl (σ.1 (Int.toNat (σ.1 16 2)) 14))]) d_KReader_add_7 rfl rfl ?_
  refine k_aload_n d_KReader_add_9 rfl ?_
  refine k_getD (x := (σ.1 16 2)) d_KReader_add_10 fl_15_150 ob_16 rfl rfl (dyD_pos y1) ?_
  refine k_getR d_KReader_add_13 fl_15_766 (doc_ob (dyD_doc y1)) (dfr_8 (dyD_doc y1)) ?_
  refine k_iload d_KReader_add_16 rfl ?_
  refine k_iload_n d_KReader_add_18 rfl ?_
  obtain ⟨p14, h⟩ := h
  refine k_ist d_KReader_add_19 (drI_8 (dyD_doc y1)) p14 ?_
  refine k_aload_n d_KReader_add_20 rfl ?_
  refine k_getD (x := (σ.1 16 2)) d_KReader_add_21 fl_15_150 ob_16 rfl rfl (dyD_pos y1) ?_
  refine k_getR d_KReader_add_24 fl_15_775 (doc_ob (dyD_doc y1)) (dfr_9 (dyD_doc y1)) ?_
  refine k_iload d_KReader_add_27 rfl ?_
  refine k_iload_n d_KReader_add_29 rfl ?_
  obtain ⟨p13, h⟩ := h
  refine k_ist d_KReader_add_30 (drI_9 (dyD_doc y1)) p13 ?_
  refine k_aload_n d_KReader_add_31 rfl ?_
  refine k_getD (x := (σ.1 16 2)) d_KReader_add_32 fl_15_150 ob_16 rfl rfl (dyD_pos y1) ?_
  refine k_getR d_KReader_add_35 fl_15_778 (doc_ob (dyD_doc y1)) (dfr_10 (dyD_doc y1)) ?_
  refine k_iload d_KReader_add_38 rfl ?_
  refine k_iload_n d_KReader_add_40 rfl ?_
  obtain ⟨p12, h⟩ := h
  refine k_ist d_KReader_add_41 (drI_10 (dyD_doc y1)) p12 ?_
  refine k_aload_n d_KReader_add_42 rfl ?_
  refine k_getD (x := (σ.1 16 2)) d_KReader_add_43 fl_15_150 ob_16 rfl rfl (dyD_pos y1) ?_
  refine k_getR d_KReader_add_46 fl_15_781 (doc_ob (dyD_doc y1)) (dfr_11 (dyD_doc y1)) ?_
  refine k_iload d_KReader_add_49 rfl ?_
  refine k_iload d_KReader_add_51 rfl ?_
  refine k_i2b d_KReader_add_53 ?_
  obtain ⟨p11, h⟩ := h
  refine k_bst d_KReader_add_54 (drb_11 (dyD_doc y1)) p11 (nb_in _) ?_
  refine k_aload_n d_KReader_add_55 rfl ?_
  refine k_getD (x := (σ.1 16 2)) d_KReader_add_56 fl_15_150 ob_16 rfl rfl (dyD_pos y1) ?_
  refine k_getR d_KReader_add_59 fl_15_784 (doc_ob (dyD_doc y1)) (dfr_12 (dyD_doc y1)) ?_
  refine k_iload d_KReader_add_62 rfl ?_
  refine k_aload_n d_KReader_add_64 rfl ?_
  refine k_getD (x := (σ.1 16 2)) d_KReader_add_65 fl_15_150 ob_16 rfl rfl (dyD_pos y1) ?_
  refine k_iload_n d_KReader_add_68 rfl ?_
  refine k_cvi [.inl a1] d_KReader_add_69 ml_15_787 rfl rfl (doc_ob (dyD_doc y1)) rfl (s_KDoc_prefix hL (by omega) (dyD_doc y1) h) (fun v3 σ2 h => ?_)
  obtain ⟨p10, h⟩ := h
  refine k_ist d_KReader_add_72 (drI_12 (dyD_doc y1)) p10 ?_
  refine k_aload_n d_KReader_add_73 rfl ?_
  obtain ⟨y4, h⟩ := h
  refine k_getD (x := (σ2.1 16 2)) d_KReader_add_74 fl_15_150 ob_16 rfl rfl (dyD_pos y4) ?_
  refine k_getR d_KReader_add_77 fl_15_790 (doc_ob (dyD_doc y4)) (dfr_13 (dyD_doc y4)) ?_
  refine k_iload d_KReader_add_80 rfl ?_
  refine k_aload_n d_KReader_add_82 rfl ?_
  refine k_getD (x := (σ2.1 16 2)) d_KReader_add_83 fl_15_150 ob_16 rfl rfl (dyD_pos y4) ?_
  refine k_iload_n d_KReader_add_86 rfl ?_
  refine k_cvi [.inl a1] d_KReader_add_87 ml_15_793 rfl rfl (doc_ob (dyD_doc y4)) rfl (s_KDoc_local hL (by omega) (dyD_doc y4) h) (fun v6 σ5 h => ?_)
  obtain ⟨p9, h⟩ := h
  refine k_ist d_KReader_add_90 (drI_13 (dyD_doc y4)) p9 ?_
  refine k_aload_n d_KReader_add_91 rfl ?_
  obtain ⟨y7, h⟩ := h
  refine k_getD (x := (σ5.1 16 2)) d_KReader_add_92 fl_15_150 ob_16 rfl rfl (dyD_pos y7) ?_
  refine k_dup d_KReader_add_95 ?_
  refine k_getI (x := (σ5.1 (Int.toNat (σ5.1 16 2)) 14)) d_KReader_add_96 fl_15_748 (doc_ob (dyD_doc y7)) (dfi_14 (dyD_doc y7)) ((rfl).trans rfl) ?_
  refine k_iconst d_KReader_add_99 cI_1 ?_
  obtain ⟨p8, h⟩ := h
  refine k_iadd d_KReader_add_100 p8 ?_
  refine k_putI d_KReader_add_101 fl_15_748 (doc_ob (dyD_doc y7)) (dfz_14 (dyD_doc y7)) ?_
  exact k_ret d_KReader_add_104 h
theorem d_KDoc_same_0 : decode b_KDoc_same 0 = .ok (.iload_n 2, 1) := by decide +kernel
theorem d_KDoc_same_1 : decode b_KDoc_same 1 = .ok (.iload 4, 2) := by decide +kernel
theorem d_KDoc_same_3 : decode b_KDoc_same 3 = .ok (.if_icmp .eq 5, 3) := by decide +kernel
theorem d_KDoc_same_6 : decode b_KDoc_same 6 = .ok (.iconst 0, 1) := by decide +kernel
theorem d_KDoc_same_7 : decode b_KDoc_same 7 = .ok (.ireturn, 1) := by decide +kernel
theorem d_KDoc_same_8 : decode b_KDoc_same 8 = .ok (.iconst 0, 1) := by decide +kernel
theorem d_KDoc_same_9 : decode b_KDoc_same 9 = .ok (.istore 5, 2) := by decide +kernel
theorem d_KDoc_same_11 : decode b_KDoc_same 11 = .ok (.iload 5, 2) := by decide +kernel
theorem d_KDoc_same_13 : decode b_KDoc_same 13 = .ok (.iload_n 2, 1) := by decide +kernel
theorem d_KDoc_same_14 : decode b_KDoc_same 14 = .ok (.if_icmp .ge 30, 3) := by decide +kernel
theorem d_KDoc_same_17 : decode b_KDoc_same 17 = .ok (.aload_n 0, 1) := by decide +kernel
theorem d_KDoc_same_18 : decode b_KDoc_same 18 = .ok (.getfield 42, 3) := by decide +kernel
theorem d_KDoc_same_21 : decode b_KDoc_same 21 = .ok (.iload_n 1, 1) := by decide +kernel
theorem d_KDoc_same_22 : decode b_KDoc_same 22 = .ok (.iload 5, 2) := by decide +kernel
theorem d_KDoc_same_24 : decode b_KDoc_same 24 = .ok (.iadd, 1) := by decide +kernel
theorem d_KDoc_same_25 : decode b_KDoc_same 25 = .ok (.iaload, 1) := by decide +kernel
theorem d_KDoc_same_26 : decode b_KDoc_same 26 = .ok (.aload_n 0, 1) := by decide +kernel
theorem d_KDoc_same_27 : decode b_KDoc_same 27 = .ok (.getfield 42, 3) := by decide +kernel
theorem d_KDoc_same_30 : decode b_KDoc_same 30 = .ok (.iload_n 3, 1) := by decide +kernel
theorem d_KDoc_same_31 : decode b_KDoc_same 31 = .ok (.iload 5, 2) := by decide +kernel
theorem d_KDoc_same_33 : decode b_KDoc_same 33 = .ok (.iadd, 1) := by decide +kernel
theorem d_KDoc_same_34 : decode b_KDoc_same 34 = .ok (.iaload, 1) := by decide +kernel
theorem d_KDoc_same_35 : decode b_KDoc_same 35 = .ok (.if_icmp .ne 9, 3) := by decide +kernel
theorem d_KDoc_same_38 : decode b_KDoc_same 38 = .ok (.iinc 5 1, 3) := by decide +kernel
theorem d_KDoc_same_41 : decode b_KDoc_same 41 = .ok (.goto (-30), 3) := by decide +kernel
theorem d_KDoc_same_44 : decode b_KDoc_same 44 = .ok (.iload 5, 2) := by decide +kernel
theorem d_KDoc_same_46 : decode b_KDoc_same 46 = .ok (.iload_n 2, 1) := by decide +kernel
theorem d_KDoc_same_47 : decode b_KDoc_same 47 = .ok (.if_icmp .ne 7, 3) := by decide +kernel
theorem d_KDoc_same_50 : decode b_KDoc_same 50 = .ok (.iconst 1, 1) := by decide +kernel
theorem d_KDoc_same_51 : decode b_KDoc_same 51 = .ok (.goto 4, 3) := by decide +kernel
theorem d_KDoc_same_54 : decode b_KDoc_same 54 = .ok (.iconst 0, 1) := by decide +kernel
theorem d_KDoc_same_55 : decode b_KDoc_same 55 = .ok (.ireturn, 1) := by decide +kernel
/-- KDoc_same -/
def w_KDoc_same (L : Nat → Nat) (o : Nat) (a1 : Int) (a2 : Int) (a3 : Int) (a4 : Int) (Q : Int → IS → Prop) (σ : IS) : Prop := if a2 = a4 then WL (fun (K2 : Int → IS → Prop) (s4 : Int) (σ5 : IS) => ((s4 < a2 → (inR (a1 + s4) ∧ inL L (rfo o 1) (a1 + s4) ∧ inR (a3 + s4) ∧ inL L (rfo o 1) (a3 + s4)))) ∧ if s4 < a2 ∧ ((σ5.2 (rfo o 1) (Int.toNat (a1 + s4))) = (σ5.2 (rfo o 1) (Int.toNat (a3 + s4)))) then inR (s4 + 1) ∧ K2 (s4 + 1) σ5 else Q (if s4 = a2 then (1 : Int) else (0 : Int)) σ5) 0 σ else Q 0 σ
set_option maxHeartbeats 4000000 in
set_option maxRecDepth 20000 in
theorem s_KDoc_same {L : Nat → Nat} (hL : ∀ r, L r < 2147483648) {d : Nat} (hd : 0 ≤ d) {o : Nat} {a1 : Int} {a2 : Int} {a3 : Int} {a4 : Int} {Q : Int → IS → Prop} {σ : IS} (ho : isDoc o) (h : w_KDoc_same L o a1 a2 a3 a4 Q σ) : OkI BF L d 14 b_KDoc_same 6 2 0 [] [some (.inr o), some (.inl a1), some (.inl a2), some (.inl a3), some (.inl a4)] σ (qi Q) := by
  unfold w_KDoc_same at h
  refine k_sb (lv' := [some (.inr o), some (.inl a1), some (.inl a2), some (.inl a3), some (.inl a4), none]) (sb_s (sb_s (sb_s (sb_s (sb_s (sb_e sb_nil)))))) ?_
  refine k_iload_n d_KDoc_same_0 rfl ?_
  refine k_iload d_KDoc_same_1 rfl ?_
  refine k_iceq d_KDoc_same_3 rfl (fun c1 => ?_) (fun c1 => ?_)
  · have h := ipos c1 h
    refine k_iconst d_KDoc_same_8 cI_0 ?_
    refine k_istore (lv' := [some (.inr o), some (.inl a1), some (.inl a2), some (.inl a3), some (.inl a4), some (.inl 0)]) d_KDoc_same_9 rfl rfl ?_
    refine k_sb (lv' := [some (.inr o), some (.inl a1), some (.inl a2), some (.inl a3), none, some (.inl 0)]) (sb_s (sb_s (sb_s (sb_s (sb_n (sb_s sb_nil)))))) ?_
    refine k_loop (S := Int) (st := fun _ => []) (lv := fun s4 => [some (.inr o), some (.inl a1), some (.inl a2), some (.inl a3), none, some (.inl s4)]) (fun K2 hK3 s4 σ5 h => ?_) 0 _ h
    refine k_iload d_KDoc_same_11 rfl ?_
    refine k_iload_n d_KDoc_same_13 rfl ?_
    obtain ⟨pt18, h⟩ := h
    have hX15 : (s4 < a2 ∧ ((σ5.2 (rfo o 1) (Int.toNat (a1 + s4))) = (σ5.2 (rfo o 1) (Int.toNat (a3 + s4))))) → OkI BF L d 14 b_KDoc_same 6 2 38 [] [some (.inr o), some (.inl a1), some (.inl a2), some (.inl a3), none, some (.inl s4)] σ5 (qi Q) := fun e17 => by
      have h := ipos e17 h
      obtain ⟨p10, h⟩ := h
      refine k_iinc (lv' := [some (.inr o), some (.inl a1), some (.inl a2), some (.inl a3), none, some (.inl (s4 + 1))]) d_KDoc_same_38 cI_1 rfl rfl p10 rfl ?_
      refine k_goto d_KDoc_same_41 rfl ?_
      exact k_sb (sb_s (sb_s (sb_s (sb_s (sb_s (sb_s sb_nil)))))) (hK3 (s4 + 1) _ h)
    have hY16 : ¬ (s4 < a2 ∧ ((σ5.2 (rfo o 1) (Int.toNat (a1 + s4))) = (σ5.2 (rfo o 1) (Int.toNat (a3 + s4))))) → OkI BF L d 14 b_KDoc_same 6 2 44 [] [some (.inr o), some (.inl a1), some (.inl a2), some (.inl a3), none, some (.inl s4)] σ5 (qi Q) := fun e17 => by
      have h := ineg e17 h
      refine k_iload d_KDoc_same_44 rfl ?_
      refine k_iload_n d_KDoc_same_46 rfl ?_
      have hV11 : OkI BF L d 14 b_KDoc_same 6 2 55 [.inl (if s4 = a2 then (1 : Int) else (0 : Int))] [some (.inr o), some (.inl a1), some (.inl a2), some (.inl a3), none, some (.inl s4)] σ5 (qi Q) := by
        exact k_iret d_KDoc_same_55 (Or.inr ⟨rfl, it01 (Or.inr rfl) (Or.inl rfl)⟩) h
      refine k_icne d_KDoc_same_47 rfl (fun c12 => ?_) (fun c12 => ?_)
      · have hV14 := k_eqI (if_neg c12) hV11
        refine k_iconst d_KDoc_same_54 cI_0 ?_
        exact hV14
      · have hV13 := k_eqI (if_pos c12) hV11
        refine k_iconst d_KDoc_same_50 cI_1 ?_
        refine k_goto d_KDoc_same_51 rfl ?_
        exact hV13
    have pa19 := pt18
    refine k_icge d_KDoc_same_14 rfl (fun c20 => ?_) (fun c20 => ?_)
    · exact hY16 (fun z => c20 z.1)
    · have pa19 := pa19 c20
      obtain ⟨p6, p7, p8, p9⟩ := pa19
      refine k_aload_n d_KDoc_same_17 rfl ?_
      refine k_getR d_KDoc_same_18 fl_14_42 (doc_ob ho) (dfr_1 ho) ?_
      refine k_iload_n d_KDoc_same_21 rfl ?_
      refine k_iload d_KDoc_same_22 rfl ?_
      refine k_iadd d_KDoc_same_24 p6 ?_
      refine k_ild (x := (σ5.2 (rfo o 1) (Int.toNat (a1 + s4)))) d_KDoc_same_25 (drI_1 ho) p7 rfl ?_
      refine k_aload_n d_KDoc_same_26 rfl ?_
      refine k_getR d_KDoc_same_27 fl_14_42 (doc_ob ho) (dfr_1 ho) ?_
      refine k_iload_n d_KDoc_same_30 rfl ?_
      refine k_iload d_KDoc_same_31 rfl ?_
      refine k_iadd d_KDoc_same_33 p8 ?_
      refine k_ild (x := (σ5.2 (rfo o 1) (Int.toNat (a3 + s4)))) d_KDoc_same_34 (drI_1 ho) p9 rfl ?_
      refine k_icne d_KDoc_same_35 rfl (fun c21 => ?_) (fun c21 => ?_)
      · exact hY16 (fun z => (c21) z.2)
      · exact hX15 (⟨c20, c21⟩)
  · have h := ineg c1 h
    refine k_iconst d_KDoc_same_6 cI_0 ?_
    exact k_iret d_KDoc_same_7 (Or.inr ⟨rfl, Or.inl rfl⟩) h
theorem d_KReader_given_0 : decode b_KReader_given 0 = .ok (.iload_n 2, 1) := by decide +kernel
theorem d_KReader_given_1 : decode b_KReader_given 1 = .ok (.istore 5, 2) := by decide +kernel
theorem d_KReader_given_3 : decode b_KReader_given 3 = .ok (.iload 5, 2) := by decide +kernel
theorem d_KReader_given_5 : decode b_KReader_given 5 = .ok (.aload_n 0, 1) := by decide +kernel
theorem d_KReader_given_6 : decode b_KReader_given 6 = .ok (.getfield 150, 3) := by decide +kernel
theorem d_KReader_given_9 : decode b_KReader_given 9 = .ok (.getfield 748, 3) := by decide +kernel
theorem d_KReader_given_12 : decode b_KReader_given 12 = .ok (.if_icmp .ge 31, 3) := by decide +kernel
theorem d_KReader_given_15 : decode b_KReader_given 15 = .ok (.aload_n 0, 1) := by decide +kernel
theorem d_KReader_given_16 : decode b_KReader_given 16 = .ok (.getfield 150, 3) := by decide +kernel
theorem d_KReader_given_19 : decode b_KReader_given 19 = .ok (.getfield 766, 3) := by decide +kernel
theorem d_KReader_given_22 : decode b_KReader_given 22 = .ok (.iload 5, 2) := by decide +kernel
theorem d_KReader_given_24 : decode b_KReader_given 24 = .ok (.iaload, 1) := by decide +kernel
theorem d_KReader_given_25 : decode b_KReader_given 25 = .ok (.iload_n 3, 1) := by decide +kernel
theorem d_KReader_given_26 : decode b_KReader_given 26 = .ok (.if_icmp .ne 11, 3) := by decide +kernel
theorem d_KReader_given_29 : decode b_KReader_given 29 = .ok (.aload_n 0, 1) := by decide +kernel
theorem d_KReader_given_30 : decode b_KReader_given 30 = .ok (.bipush 8, 2) := by decide +kernel
theorem d_KReader_given_32 : decode b_KReader_given 32 = .ok (.invokevirtual 392, 3) := by decide +kernel
theorem d_KReader_given_35 : decode b_KReader_given 35 = .ok (.pop, 1) := by decide +kernel
theorem d_KReader_given_36 : decode b_KReader_given 36 = .ok (.return_, 1) := by decide +kernel
theorem d_KReader_given_37 : decode b_KReader_given 37 = .ok (.iinc 5 1, 3) := by decide +kernel
theorem d_KReader_given_40 : decode b_KReader_given 40 = .ok (.goto (-37), 3) := by decide +kernel
theorem d_KReader_given_43 : decode b_KReader_given 43 = .ok (.aload_n 0, 1) := by decide +kernel
theorem d_KReader_given_44 : decode b_KReader_given 44 = .ok (.getfield 150, 3) := by decide +kernel
theorem d_KReader_given_47 : decode b_KReader_given 47 = .ok (.getfield 489, 3) := by decide +kernel
theorem d_KReader_given_50 : decode b_KReader_given 50 = .ok (.istore 5, 2) := by decide +kernel
theorem d_KReader_given_52 : decode b_KReader_given 52 = .ok (.aload_n 0, 1) := by decide +kernel
theorem d_KReader_given_53 : decode b_KReader_given 53 = .ok (.iload 4, 2) := by decide +kernel
theorem d_KReader_given_55 : decode b_KReader_given 55 = .ok (.invokevirtual 671, 3) := by decide +kernel
theorem d_KReader_given_58 : decode b_KReader_given 58 = .ok (.ifCond .ne 4, 3) := by decide +kernel
theorem d_KReader_given_61 : decode b_KReader_given 61 = .ok (.return_, 1) := by decide +kernel
theorem d_KReader_given_62 : decode b_KReader_given 62 = .ok (.aload_n 0, 1) := by decide +kernel
theorem d_KReader_given_63 : decode b_KReader_given 63 = .ok (.iload_n 1, 1) := by decide +kernel
theorem d_KReader_given_64 : decode b_KReader_given 64 = .ok (.iload_n 3, 1) := by decide +kernel
theorem d_KReader_given_65 : decode b_KReader_given 65 = .ok (.invokevirtual 676, 3) := by decide +kernel
theorem d_KReader_given_68 : decode b_KReader_given 68 = .ok (.istore 6, 2) := by decide +kernel
theorem d_KReader_given_70 : decode b_KReader_given 70 = .ok (.iload 6, 2) := by decide +kernel
theorem d_KReader_given_72 : decode b_KReader_given 72 = .ok (.ifCond .ge 7, 3) := by decide +kernel
theorem d_KReader_given_75 : decode b_KReader_given 75 = .ok (.iconst 0, 1) := by decide +kernel
theorem d_KReader_given_76 : decode b_KReader_given 76 = .ok (.goto 10, 3) := by decide +kernel
theorem d_KReader_given_79 : decode b_KReader_given 79 = .ok (.aload_n 0, 1) := by decide +kernel
theorem d_KReader_given_80 : decode b_KReader_given 80 = .ok (.getfield 120, 3) := by decide +kernel
theorem d_KReader_given_83 : decode b_KReader_given 83 = .ok (.iload 6, 2) := by decide +kernel
theorem d_KReader_given_85 : decode b_KReader_given 85 = .ok (.baload, 1) := by decide +kernel
theorem d_KReader_given_86 : decode b_KReader_given 86 = .ok (.istore 7, 2) := by decide +kernel
theorem d_KReader_given_88 : decode b_KReader_given 88 = .ok (.aload_n 0, 1) := by decide +kernel
theorem d_KReader_given_89 : decode b_KReader_given 89 = .ok (.iload 5, 2) := by decide +kernel
theorem d_KReader_given_91 : decode b_KReader_given 91 = .ok (.iload 7, 2) := by decide +kernel
theorem d_KReader_given_93 : decode b_KReader_given 93 = .ok (.invokevirtual 673, 3) := by decide +kernel
theorem d_KReader_given_96 : decode b_KReader_given 96 = .ok (.istore 8, 2) := by decide +kernel
theorem d_KReader_given_98 : decode b_KReader_given 98 = .ok (.aload_n 0, 1) := by decide +kernel
theorem d_KReader_given_99 : decode b_KReader_given 99 = .ok (.iload_n 3, 1) := by decide +kernel
theorem d_KReader_given_100 : decode b_KReader_given 100 = .ok (.iload 5, 2) := by decide +kernel
theorem d_KReader_given_102 : decode b_KReader_given 102 = .ok (.iload 8, 2) := by decide +kernel
theorem d_KReader_given_104 : decode b_KReader_given 104 = .ok (.iload 7, 2) := by decide +kernel
theorem d_KReader_given_106 : decode b_KReader_given 106 = .ok (.invokevirtual 769, 3) := by decide +kernel
theorem d_KReader_given_109 : decode b_KReader_given 109 = .ok (.iload 6, 2) := by decide +kernel
theorem d_KReader_given_111 : decode b_KReader_given 111 = .ok (.ifCond .ge 18, 3) := by decide +kernel
theorem d_KReader_given_114 : decode b_KReader_given 114 = .ok (.aload_n 0, 1) := by decide +kernel
theorem d_KReader_given_115 : decode b_KReader_given 115 = .ok (.getfield 150, 3) := by decide +kernel
theorem d_KReader_given_118 : decode b_KReader_given 118 = .ok (.getfield 561, 3) := by decide +kernel
theorem d_KReader_given_121 : decode b_KReader_given 121 = .ok (.bipush 7, 2) := by decide +kernel
theorem d_KReader_given_123 : decode b_KReader_given 123 = .ok (.dup2, 1) := by decide +kernel
theorem d_KReader_given_124 : decode b_KReader_given 124 = .ok (.iaload, 1) := by decide +kernel
theorem d_KReader_given_125 : decode b_KReader_given 125 = .ok (.iconst 1, 1) := by decide +kernel
theorem d_KReader_given_126 : decode b_KReader_given 126 = .ok (.iadd, 1) := by decide +kernel
theorem d_KReader_given_127 : decode b_KReader_given 127 = .ok (.iastore, 1) := by decide +kernel
theorem d_KReader_given_128 : decode b_KReader_given 128 = .ok (.return_, 1) := by decide +kernel
theorem d_KReader_given_129 : decode b_KReader_given 129 = .ok (.aload_n 0, 1) := by decide +kernel
theorem d_KReader_given_130 : decode b_KReader_given 130 = .ok (.getfield 150, 3) := by decide +kernel
theorem d_KReader_given_133 : decode b_KReader_given 133 = .ok (.getfield 561, 3) := by decide +kernel
theorem d_KReader_given_136 : decode b_KReader_given 136 = .ok (.bipush 8, 2) := by decide +kernel
theorem d_KReader_given_138 : decode b_KReader_given 138 = .ok (.dup2, 1) := by decide +kernel
theorem d_KReader_given_139 : decode b_KReader_given 139 = .ok (.iaload, 1) := by decide +kernel
theorem d_KReader_given_140 : decode b_KReader_given 140 = .ok (.aload_n 0, 1) := by decide +kernel
theorem d_KReader_given_141 : decode b_KReader_given 141 = .ok (.iload 6, 2) := by decide +kernel
theorem d_KReader_given_143 : decode b_KReader_given 143 = .ok (.iload 5, 2) := by decide +kernel
theorem d_KReader_given_145 : decode b_KReader_given 145 = .ok (.iload 8, 2) := by decide +kernel
theorem d_KReader_given_147 : decode b_KReader_given 147 = .ok (.invokevirtual 682, 3) := by decide +kernel
theorem d_KReader_given_150 : decode b_KReader_given 150 = .ok (.ifCond .eq 7, 3) := by decide +kernel
theorem d_KReader_given_153 : decode b_KReader_given 153 = .ok (.iconst 0, 1) := by decide +kernel
theorem d_KReader_given_154 : decode b_KReader_given 154 = .ok (.goto 4, 3) := by decide +kernel
theorem d_KReader_given_157 : decode b_KReader_given 157 = .ok (.iconst 1, 1) := by decide +kernel
theorem d_KReader_given_158 : decode b_KReader_given 158 = .ok (.iadd, 1) := by decide +kernel
theorem d_KReader_given_159 : decode b_KReader_given 159 = .ok (.iastore, 1) := by decide +kernel
theorem d_KReader_given_160 : decode b_KReader_given 160 = .ok (.aload_n 0, 1) := by decide +kernel
theorem d_KReader_given_161 : decode b_KReader_given 161 = .ok (.getfield 150, 3) := by decide +kernel
theorem d_KReader_given_164 : decode b_KReader_given 164 = .ok (.getfield 561, 3) := by decide +kernel
theorem d_KReader_given_167 : decode b_KReader_given 167 = .ok (.bipush 10, 2) := by decide +kernel
theorem d_KReader_given_169 : decode b_KReader_given 169 = .ok (.dup2, 1) := by decide +kernel
theorem d_KReader_given_170 : decode b_KReader_given 170 = .ok (.iaload, 1) := by decide +kernel
theorem d_KReader_given_171 : decode b_KReader_given 171 = .ok (.aload_n 0, 1) := by decide +kernel
theorem d_KReader_given_172 : decode b_KReader_given 172 = .ok (.getfield 123, 3) := by decide +kernel
theorem d_KReader_given_175 : decode b_KReader_given 175 = .ok (.iload 6, 2) := by decide +kernel
theorem d_KReader_given_177 : decode b_KReader_given 177 = .ok (.baload, 1) := by decide +kernel
theorem d_KReader_given_178 : decode b_KReader_given 178 = .ok (.iconst 3, 1) := by decide +kernel
theorem d_KReader_given_179 : decode b_KReader_given 179 = .ok (.if_icmp .ne 35, 3) := by decide +kernel
theorem d_KReader_given_182 : decode b_KReader_given 182 = .ok (.aload_n 0, 1) := by decide +kernel
theorem d_KReader_given_183 : decode b_KReader_given 183 = .ok (.getfield 150, 3) := by decide +kernel
theorem d_KReader_given_186 : decode b_KReader_given 186 = .ok (.iload 5, 2) := by decide +kernel
theorem d_KReader_given_188 : decode b_KReader_given 188 = .ok (.iload 8, 2) := by decide +kernel
theorem d_KReader_given_190 : decode b_KReader_given 190 = .ok (.aload_n 0, 1) := by decide +kernel
theorem d_KReader_given_191 : decode b_KReader_given 191 = .ok (.getfield 126, 3) := by decide +kernel
theorem d_KReader_given_194 : decode b_KReader_given 194 = .ok (.iload 6, 2) := by decide +kernel
theorem d_KReader_given_196 : decode b_KReader_given 196 = .ok (.iaload, 1) := by decide +kernel
theorem d_KReader_given_197 : decode b_KReader_given 197 = .ok (.aload_n 0, 1) := by decide +kernel
theorem d_KReader_given_198 : decode b_KReader_given 198 = .ok (.getfield 129, 3) := by decide +kernel
theorem d_KReader_given_201 : decode b_KReader_given 201 = .ok (.iload 6, 2) := by decide +kernel
theorem d_KReader_given_203 : decode b_KReader_given 203 = .ok (.iaload, 1) := by decide +kernel
theorem d_KReader_given_204 : decode b_KReader_given 204 = .ok (.invokevirtual 771, 3) := by decide +kernel
theorem d_KReader_given_207 : decode b_KReader_given 207 = .ok (.ifCond .ne 7, 3) := by decide +kernel
theorem d_KReader_given_210 : decode b_KReader_given 210 = .ok (.iconst 1, 1) := by decide +kernel
theorem d_KReader_given_211 : decode b_KReader_given 211 = .ok (.goto 4, 3) := by decide +kernel
theorem d_KReader_given_214 : decode b_KReader_given 214 = .ok (.iconst 0, 1) := by decide +kernel
theorem d_KReader_given_215 : decode b_KReader_given 215 = .ok (.iadd, 1) := by decide +kernel
theorem d_KReader_given_216 : decode b_KReader_given 216 = .ok (.iastore, 1) := by decide +kernel
theorem d_KReader_given_217 : decode b_KReader_given 217 = .ok (.return_, 1) := by decide +kernel
/-- KReader_given -/
def w_KReader_given (L : Nat → Nat) (a1 : Int) (a2 : Int) (a3 : Int) (a4 : Int) (Q : IS → Prop) (σ : IS) : Prop := WL (fun (K1 : Int → IS → Prop) (s3 : Int) (σ4 : IS) => dyD (σ4.1 16 2) ∧ if s3 < (σ4.1 (Int.toNat (σ4.1 16 2)) 14) then inL L (rfo (Int.toNat (σ4.1 16 2)) 8) s3 ∧ if (σ4.2 (rfo (Int.toNat (σ4.1 16 2)) 8) (Int.toNat s3)) = a3 then w_KReader_fail L 8 (fun v60 σ59 => Q σ59) σ4 else inR (s3 + 1) ∧ K1 (s3 + 1) σ4 else w_KReader_find L a4 (fun v8 σ7 => if v8 = 0 then Q σ7 else w_KReader_attributeOf L a1 a3 (fun v11 σ10 => ((¬ v11 < 0 → inL L 201 v11)) ∧ w_KReader_normalise L (σ4.1 (Int.toNat (σ4.1 16 2)) 2) (if v11 < 0 then (0 : Int) else (σ10.2 201 (Int.toNat v11))) (fun v14 σ13 => w_KReader_add L a3 (σ4.1 (Int.toNat (σ4.1 16 2)) 2) v14 (if v11 < 0 then (0 : Int) else (σ10.2 201 (Int.toNat v11))) (fun σ15 => if v11 < 0 then dyD (σ15.1 16 2) ∧ inL L (rfo (Int.toNat (σ15.1 16 2)) 18) 7 ∧ inR ((σ15.2 (rfo (Int.toNat (σ15.1 16 2)) 18) (Int.toNat 7)) + 1) ∧ inL L (rfo (Int.toNat (σ15.1 16 2)) 18) 7 ∧ Q (pr σ15 (rfo (Int.toNat (σ15.1 16 2)) 18) (Int.toNat 7) ((σ15.2 (rfo (Int.toNat (σ15.1 16 2)) 18) (Int.toNat 7)) + 1)) else dyD (σ15.1 16 2) ∧ inL L (rfo (Int.toNat (σ15.1 16 2)) 18) 8 ∧ w_KReader_isWanted L v11 (σ4.1 (Int.toNat (σ4.1 16 2)) 2) v14 (fun v20 σ19 => inR ((σ15.2 (rfo (Int.toNat (σ15.1 16 2)) 18) (Int.toNat 8)) + (if v20 = 0 then (1 : Int) else (0 : Int))) ∧ inL L (rfo (Int.toNat (σ15.1 16 2)) 18) 8 ∧ dyD (σ19.1 16 2) ∧ inL L (rfo (Int.toNat (σ19.1 16 2)) 18) 10 ∧ inL L 202 v11 ∧ WJ (fun (s24 : Int) (σ25 : IS) => inR (((pr σ19 (rfo (Int.toNat (σ15.1 16 2)) 18) (Int.toNat 8) ((σ15.2 (rfo (Int.toNat (σ15.1 16 2)) 18) (Int.toNat 8)) + (if v20 = 0 then (1 : Int) else (0 : Int)))).2 (rfo (Int.toNat (σ19.1 16 2)) 18) (Int.toNat 10)) + s24) ∧ inL L (rfo (Int.toNat (σ19.1 16 2)) 18) 10 ∧ Q (pr σ25 (rfo (Int.toNat (σ19.1 16 2)) 18) (Int.toNat 10) (((pr σ19 (rfo (Int.toNat (σ15.1 16 2)) 18) (Int.toNat 8) ((σ15.2 (rfo (Int.toNat (σ15.1 16 2)) 18) (Int.toNat 8)) + (if v20 = 0 then (1 : Int) else (0 : Int)))).2 (rfo (Int.toNat (σ19.1 16 2)) 18) (Int.toNat 10)) + s24))) (fun J22 => WJ (fun (s30 : Unit) (σ31 : IS) => J22 0 σ31) (fun J28 => if ((pr σ19 (rfo (Int.toNat (σ15.1 16 2)) 18) (Int.toNat 8) ((σ15.2 (rfo (Int.toNat (σ15.1 16 2)) 18) (Int.toNat 8)) + (if v20 = 0 then (1 : Int) else (0 : Int)))).2 202 (Int.toNat v11)) = 3 then inL L 203 v11 ∧ inL L 204 v11 ∧ w_KDoc_same L (Int.toNat (σ19.1 16 2)) (σ4.1 (Int.toNat (σ4.1 16 2)) 2) v14 ((pr σ19 (rfo (Int.toNat (σ15.1 16 2)) 18) (Int.toNat 8) ((σ15.2 (rfo (Int.toNat (σ15.1 16 2)) 18) (Int.toNat 8)) + (if v20 = 0 then (1 : Int) else (0 : Int)))).2 203 (Int.toNat v11)) ((pr σ19 (rfo (Int.toNat (σ15.1 16 2)) 18) (Int.toNat 8) ((σ15.2 (rfo (Int.toNat (σ15.1 16 2)) 18) (Int.toNat 8)) + (if v20 = 0 then (1 : Int) else (0 : Int)))).2 204 (Int.toNat v11)) (fun v34 σ33 => if v34 = 0 then J22 1 σ33 else J28 () σ33) (pr σ19 (rfo (Int.toNat (σ15.1 16 2)) 18) (Int.toNat 8) ((σ15.2 (rfo (Int.toNat (σ15.1 16 2)) 18) (Int.toNat 8)) + (if v20 = 0 then (1 : Int) else (0 : Int)))) else J28 () (pr σ19 (rfo (Int.toNat (σ15.1 16 2)) 18) (Int.toNat 8) ((σ15.2 (rfo (Int.toNat (σ15.1 16 2)) 18) (Int.toNat 8)) + (if v20 = 0 then (1 : Int) else (0 : Int))))))) σ15) σ13) σ10) σ7) σ4) a2 σ
set_option maxHeartbeats 4000000 in
set_option maxRecDepth 20000 in
theorem s_KReader_given {L : Nat → Nat} (hL : ∀ r, L r < 2147483648) {d : Nat} (hd : 8 ≤ d) {a1 : Int} {a2 : Int} {a3 : Int} {a4 : Int} {Q : IS → Prop} {σ : IS}  (h : w_KReader_given L a1 a2 a3 a4 Q σ) : OkI BF L d 15 b_KReader_given 9 0 0 [] [some (.inr 16), some (.inl a1), some (.inl a2), some (.inl a3), some (.inl a4)] σ (qv Q) := by
  unfold w_KReader_given at h
  obtain ⟨d, rfl⟩ : ∃ e, d = e + 1 := ⟨d - 1, by omega⟩
  refine k_sb (lv' := [some (.inr 16), some (.inl a1), some (.inl a2), some (.inl a3), some (.inl a4), none, none, none, none]) (sb_s (sb_s (sb_s (sb_s (sb_s (sb_e (sb_e (sb_e (sb_e sb_nil))))))))) ?_
  refine k_iload_n d_KReader_given_0 rfl ?_
  refine k_istore (lv' := [some (.inr 16), some (.inl a1), some (.inl a2), some (.inl a3), some (.inl a4), some (.inl a2), none, none, none]) d_KReader_given_1 rfl rfl ?_
  refine k_sb (lv' := [some (.inr 16), some (.inl a1), none, some (.inl a3), some (.inl a4), some (.inl a2), none, none, none]) (sb_s (sb_s (sb_n (sb_s (sb_s (sb_s (sb_s (sb_s (sb_s sb_nil))))))))) ?_
  refine k_loop (S := Int) (st := fun _ => []) (lv := fun s3 => [some (.inr 16), some (.inl a1), none, some (.inl a3), some (.inl a4), some (.inl s3), none, none, none]) (fun K1 hK2 s3 σ4 h => ?_) a2 _ h
  refine k_iload d_KReader_given_3 rfl ?_
  refine k_aload_n d_KReader_given_5 rfl ?_
  obtain ⟨y5, h⟩ := h
  refine k_getD (x := (σ4.1 16 2)) d_KReader_given_6 fl_15_150 ob_16 rfl rfl (dyD_pos y5) ?_
  refine k_getI (x := (σ4.1 (Int.toNat (σ4.1 16 2)) 14)) d_KReader_given_9 fl_15_748 (doc_ob (dyD_doc y5)) (dfi_14 (dyD_doc y5)) rfl ?_
  refine k_icge d_KReader_given_12 rfl (fun c6 => ?_) (fun c6 => ?_)
  · have h := ineg c6 h
    refine k_aload_n d_KReader_given_43 rfl ?_
    refine k_getD (x := (σ4.1 16 2)) d_KReader_given_44 fl_15_150 ob_16 rfl rfl (dyD_pos y5) ?_
    refine k_getI (x := (σ4.1 (Int.toNat (σ4.1 16 2)) 2)) d_KReader_given_47 fl_15_489 (doc_ob (dyD_doc y5)) (dfi_2 (dyD_doc y5)) rfl ?_
    refine k_istore (lv' := [some (.inr 16), some (.inl a1), none, some (.inl a3), some (.inl a4), some (.inl (σ4.1 (Int.toNat (σ4.1 16 2)) 2)), none, none, none]) d_KReader_given_50 rfl rfl ?_
    refine k_aload_n d_KReader_given_52 rfl ?_
    refine k_iload d_KReader_given_53 rfl ?_
    refine k_cvi [.inl a4] d_KReader_given_55 ml_15_671 rfl rfl ob_16 rfl (s_KReader_find hL (by omega)  h) (fun v8 σ7 h => ?_)
    refine k_ifne d_KReader_given_58 rfl (fun c9 => ?_) (fun c9 => ?_)
    · have h := ineg c9 h
      refine k_aload_n d_KReader_given_62 rfl ?_
      refine k_iload_n d_KReader_given_63 rfl ?_
      refine k_iload_n d_KReader_given_64 rfl ?_
      refine k_cvi [.inl a1, .inl a3] d_KReader_given_65 ml_15_676 rfl rfl ob_16 rfl (s_KReader_attributeOf hL (by omega)  h) (fun v11 σ10 h => ?_)
      refine k_istore (lv' := [some (.inr 16), some (.inl a1), none, some (.inl a3), some (.inl a4), some (.inl (σ4.1 (Int.toNat (σ4.1 16 2)) 2)), some (.inl v11), none, none]) d_KReader_given_68 rfl rfl ?_
      refine k_iload d_KReader_given_70 rfl ?_
      obtain ⟨pt52, h⟩ := h
      have hV51 : OkI BF L (d + 1) 15 b_KReader_given 9 0 86 [.inl (if v11 < 0 then (0 : Int) else (σ10.2 201 (Int.toNat v11)))] [some (.inr 16), some (.inl a1), none, some (.inl a3), some (.inl a4), some (.inl (σ4.1 (Int.toNat (σ4.1 16 2)) 2)), some (.inl v11), none, none] σ10 (qv Q) := by
        refine k_istore (lv' := [some (.inr 16), some (.inl a1), none, some (.inl a3), some (.inl a4), some (.inl (σ4.1 (Int.toNat (σ4.1 16 2)) 2)), some (.inl v11), some (.inl (if v11 < 0 then (0 : Int) else (σ10.2 201 (Int.toNat v11)))), none]) d_KReader_given_86 rfl rfl ?_
        refine k_aload_n d_KReader_given_88 rfl ?_
        refine k_iload d_KReader_given_89 rfl ?_
        refine k_iload d_KReader_given_91 rfl ?_
        refine k_cvi [.inl (σ4.1 (Int.toNat (σ4.1 16 2)) 2), .inl (if v11 < 0 then (0 : Int) else (σ10.2 201 (Int.toNat v11)))] d_KReader_given_93 ml_15_673 rfl rfl ob_16 rfl (s_KReader_normalise hL (by omega)  h) (fun v14 σ13 h => ?_)
        refine k_istore (lv' := [some (.inr 16), some (.inl a1), none, some (.inl a3), some (.inl a4), some (.inl (σ4.1 (Int.toNat (σ4.1 16 2)) 2)), some (.inl v11), some (.inl (if v11 < 0 then (0 : Int) else (σ10.2 201 (Int.toNat v11)))), some (.inl v14)]) d_KReader_given_96 rfl rfl ?_
        refine k_aload_n d_KReader_given_98 rfl ?_
        refine k_iload_n d_KReader_given_99 rfl ?_
        refine k_iload d_KReader_given_100 rfl ?_
        refine k_iload d_KReader_given_102 rfl ?_
        refine k_iload d_KReader_given_104 rfl ?_
        refine k_cvv [.inl a3, .inl (σ4.1 (Int.toNat (σ4.1 16 2)) 2), .inl v14, .inl (if v11 < 0 then (0 : Int) else (σ10.2 201 (Int.toNat v11)))] d_KReader_given_106 ml_15_769 rfl rfl ob_16 rfl (s_KReader_add hL (by omega)  h) (fun σ15 h => ?_)
        refine k_iload d_KReader_given_109 rfl ?_
        refine k_ifge d_KReader_given_111 rfl (fun c17 => ?_) (fun c17 => ?_)
        · have h := ineg c17 h
          refine k_aload_n d_KReader_given_129 rfl ?_
          obtain ⟨y18, h⟩ := h
          refine k_getD (x := (σ15.1 16 2)) d_KReader_given_130 fl_15_150 ob_16 rfl rfl (dyD_pos y18) ?_
          refine k_getR d_KReader_given_133 fl_15_561 (doc_ob (dyD_doc y18)) (dfr_18 (dyD_doc y18)) ?_
          refine k_bipush d_KReader_given_136 cB_8 ?_
          refine k_dup2 d_KReader_given_138 ?_
          obtain ⟨p46, h⟩ := h
          refine k_ild (x := (σ15.2 (rfo (Int.toNat (σ15.1 16 2)) 18) (Int.toNat 8))) d_KReader_given_139 (drI_18 (dyD_doc y18)) p46 rfl ?_
          refine k_aload_n d_KReader_given_140 rfl ?_
          refine k_iload d_KReader_given_141 rfl ?_
          refine k_iload d_KReader_given_143 rfl ?_
          refine k_iload d_KReader_given_145 rfl ?_
          refine k_cvi [.inl v11, .inl (σ4.1 (Int.toNat (σ4.1 16 2)) 2), .inl v14] d_KReader_given_147 ml_15_682 rfl rfl ob_16 rfl (s_KReader_isWanted hL (by omega)  h) (fun v20 σ19 h => ?_)
          have hV42 : OkI BF L (d + 1) 15 b_KReader_given 9 0 158 [.inl (if v20 = 0 then (1 : Int) else (0 : Int)), .inl (σ15.2 (rfo (Int.toNat (σ15.1 16 2)) 18) (Int.toNat 8)), .inl 8, .inr (rfo (Int.toNat (σ15.1 16 2)) 18)] [some (.inr 16), some (.inl a1), none, some (.inl a3), some (.inl a4), some (.inl (σ4.1 (Int.toNat (σ4.1 16 2)) 2)), some (.inl v11), some (.inl (if v11 < 0 then (0 : Int) else (σ10.2 201 (Int.toNat v11)))), some (.inl v14)] σ19 (qv Q) := by
            obtain ⟨p41, h⟩ := h
            refine k_iadd d_KReader_given_158 p41 ?_
            obtain ⟨p40, h⟩ := h
            refine k_ist d_KReader_given_159 (drI_18 (dyD_doc y18)) p40 ?_
            refine k_aload_n d_KReader_given_160 rfl ?_
            obtain ⟨y21, h⟩ := h
            refine k_getD (x := (σ19.1 16 2)) d_KReader_given_161 fl_15_150 ob_16 rfl rfl (dyD_pos y21) ?_
            refine k_getR d_KReader_given_164 fl_15_561 (doc_ob (dyD_doc y21)) (dfr_18 (dyD_doc y21)) ?_
            refine k_bipush d_KReader_given_167 cB_10 ?_
            refine k_dup2 d_KReader_given_169 ?_
            obtain ⟨p39, h⟩ := h
            refine k_ild (x := ((pr σ19 (rfo (Int.toNat (σ15.1 16 2)) 18) (Int.toNat 8) ((σ15.2 (rfo (Int.toNat (σ15.1 16 2)) 18) (Int.toNat 8)) + (if v20 = 0 then (1 : Int) else (0 : Int)))).2 (rfo (Int.toNat (σ19.1 16 2)) 18) (Int.toNat 10))) d_KReader_given_170 (drI_18 (dyD_doc y21)) p39 rfl ?_
            refine k_aload_n d_KReader_given_171 rfl ?_
            refine k_getR d_KReader_given_172 fl_15_123 ob_16 rfl ?_
            refine k_iload d_KReader_given_175 rfl ?_
            obtain ⟨p38, h⟩ := h
            refine k_bld (x := ((pr σ19 (rfo (Int.toNat (σ15.1 16 2)) 18) (Int.toNat 8) ((σ15.2 (rfo (Int.toNat (σ15.1 16 2)) 18) (Int.toNat 8)) + (if v20 = 0 then (1 : Int) else (0 : Int)))).2 202 (Int.toNat v11))) d_KReader_given_177 rB_202 p38 rfl ?_
            refine k_iconst d_KReader_given_178 cI_3 ?_
            refine k_join (S := Int) (pc' := 215) (st' := fun s24 => [.inl s24, .inl ((pr σ19 (rfo (Int.toNat (σ15.1 16 2)) 18) (Int.toNat 8) ((σ15.2 (rfo (Int.toNat (σ15.1 16 2)) 18) (Int.toNat 8)) + (if v20 = 0 then (1 : Int) else (0 : Int)))).2 (rfo (Int.toNat (σ19.1 16 2)) 18) (Int.toNat 10)), .inl 10, .inr (rfo (Int.toNat (σ19.1 16 2)) 18)]) (lv' := fun s24 => [none, none, none, none, none, none, none, none, none]) (fun s24 σ25 h => ?_) (fun J22 hJ23 h => ?_) h
            · obtain ⟨p27, h⟩ := h
              refine k_iadd d_KReader_given_215 p27 ?_
              obtain ⟨p26, h⟩ := h
              refine k_ist d_KReader_given_216 (drI_18 (dyD_doc y21)) p26 ?_
              exact k_ret d_KReader_given_217 h
            · refine k_join (S := Unit) (pc' := 214) (st' := fun s30 => [.inl ((pr σ19 (rfo (Int.toNat (σ15.1 16 2)) 18) (Int.toNat 8) ((σ15.2 (rfo (Int.toNat (σ15.1 16 2)) 18) (Int.toNat 8)) + (if v20 = 0 then (1 : Int) else (0 : Int)))).2 (rfo (Int.toNat (σ19.1 16 2)) 18) (Int.toNat 10)), .inl 10, .inr (rfo (Int.toNat (σ19.1 16 2)) 18)]) (lv' := fun s30 => [none, none, none, none, none, none, none, none, none]) (fun s30 σ31 h => ?_) (fun J28 hJ29 h => ?_) h
              · refine k_iconst d_KReader_given_214 cI_0 ?_
                exact k_sb (sb_s (sb_s (sb_s (sb_s (sb_s (sb_s (sb_s (sb_s (sb_s sb_nil))))))))) (hJ23 0 _ h)
              · refine k_icne d_KReader_given_179 rfl (fun c32 => ?_) (fun c32 => ?_)
                · have h := ineg c32 h
                  exact k_sb (sb_n (sb_n (sb_s (sb_n (sb_n (sb_n (sb_n (sb_n (sb_n sb_nil))))))))) (hJ29 () _ h)
                · have h := ipos c32 h
                  refine k_aload_n d_KReader_given_182 rfl ?_
                  refine k_getD (x := (σ19.1 16 2)) d_KReader_given_183 fl_15_150 ob_16 rfl rfl (dyD_pos y21) ?_
                  refine k_iload d_KReader_given_186 rfl ?_
                  refine k_iload d_KReader_given_188 rfl ?_
                  refine k_aload_n d_KReader_given_190 rfl ?_
                  refine k_getR d_KReader_given_191 fl_15_126 ob_16 rfl ?_
                  refine k_iload d_KReader_given_194 rfl ?_
                  obtain ⟨p37, h⟩ := h
                  refine k_ild (x := ((pr σ19 (rfo (Int.toNat (σ15.1 16 2)) 18) (Int.toNat 8) ((σ15.2 (rfo (Int.toNat (σ15.1 16 2)) 18) (Int.toNat 8)) + (if v20 = 0 then (1 : Int) else (0 : Int)))).2 203 (Int.toNat v11))) d_KReader_given_196 rI_203 p37 rfl ?_
                  refine k_aload_n d_KReader_given_197 rfl ?_
                  refine k_getR d_KReader_given_198 fl_15_129 ob_16 rfl ?_
                  refine k_iload d_KReader_given_201 rfl ?_
                  obtain ⟨p36, h⟩ := h
                  refine k_ild (x := ((pr σ19 (rfo (Int.toNat (σ15.1 16 2)) 18) (Int.toNat 8) ((σ15.2 (rfo (Int.toNat (σ15.1 16 2)) 18) (Int.toNat 8)) + (if v20 = 0 then (1 : Int) else (0 : Int)))).2 204 (Int.toNat v11))) d_KReader_given_203 rI_204 p36 rfl ?_
                  refine k_cvi [.inl (σ4.1 (Int.toNat (σ4.1 16 2)) 2), .inl v14, .inl ((pr σ19 (rfo (Int.toNat (σ15.1 16 2)) 18) (Int.toNat 8) ((σ15.2 (rfo (Int.toNat (σ15.1 16 2)) 18) (Int.toNat 8)) + (if v20 = 0 then (1 : Int) else (0 : Int)))).2 203 (Int.toNat v11)), .inl ((pr σ19 (rfo (Int.toNat (σ15.1 16 2)) 18) (Int.toNat 8) ((σ15.2 (rfo (Int.toNat (σ15.1 16 2)) 18) (Int.toNat 8)) + (if v20 = 0 then (1 : Int) else (0 : Int)))).2 204 (Int.toNat v11))] d_KReader_given_204 ml_15_771 rfl rfl (doc_ob (dyD_doc y21)) rfl (s_KDoc_same hL (by omega) (dyD_doc y21) h) (fun v34 σ33 h => ?_)
                  refine k_ifne d_KReader_given_207 rfl (fun c35 => ?_) (fun c35 => ?_)
                  · have h := ineg c35 h
                    exact k_sb (sb_n (sb_n (sb_s (sb_n (sb_n (sb_n (sb_n (sb_n (sb_n sb_nil))))))))) (hJ29 () _ h)
                  · have h := ipos c35 h
                    refine k_iconst d_KReader_given_210 cI_1 ?_
                    refine k_goto d_KReader_given_211 rfl ?_
                    exact k_sb (sb_n (sb_n (sb_s (sb_n (sb_n (sb_n (sb_n (sb_n (sb_n sb_nil))))))))) (hJ23 1 _ h)
          refine k_ifeq d_KReader_given_150 rfl (fun c43 => ?_) (fun c43 => ?_)
          · have hV44 := k_eqI (if_pos c43) hV42
            refine k_iconst d_KReader_given_157 cI_1 ?_
            exact hV44
          · have hV45 := k_eqI (if_neg c43) hV42
            refine k_iconst d_KReader_given_153 cI_0 ?_
            refine k_goto d_KReader_given_154 rfl ?_
            exact hV45
        · have h := ipos c17 h
          refine k_aload_n d_KReader_given_114 rfl ?_
          obtain ⟨y47, h⟩ := h
          refine k_getD (x := (σ15.1 16 2)) d_KReader_given_115 fl_15_150 ob_16 rfl rfl (dyD_pos y47) ?_
          refine k_getR d_KReader_given_118 fl_15_561 (doc_ob (dyD_doc y47)) (dfr_18 (dyD_doc y47)) ?_
          refine k_bipush d_KReader_given_121 cB_7 ?_
          refine k_dup2 d_KReader_given_123 ?_
          obtain ⟨p50, h⟩ := h
          refine k_ild (x := (σ15.2 (rfo (Int.toNat (σ15.1 16 2)) 18) (Int.toNat 7))) d_KReader_given_124 (drI_18 (dyD_doc y47)) p50 rfl ?_
          refine k_iconst d_KReader_given_125 cI_1 ?_
          obtain ⟨p49, h⟩ := h
          refine k_iadd d_KReader_given_126 p49 ?_
          obtain ⟨p48, h⟩ := h
          refine k_ist d_KReader_given_127 (drI_18 (dyD_doc y47)) p48 ?_
          exact k_ret d_KReader_given_128 h
      have pb53 := pt52
      refine k_ifge d_KReader_given_72 rfl (fun c54 => ?_) (fun c54 => ?_)
      · have pb53 := pb53 c54
        have hV56 := k_eqI (if_neg c54) hV51
        have p12 := pb53
        refine k_aload_n d_KReader_given_79 rfl ?_
        refine k_getR d_KReader_given_80 fl_15_120 ob_16 rfl ?_
        refine k_iload d_KReader_given_83 rfl ?_
        refine k_bld (x := (σ10.2 201 (Int.toNat v11))) d_KReader_given_85 rB_201 p12 rfl ?_
        exact hV56
      · have hV55 := k_eqI (if_pos c54) hV51
        refine k_iconst d_KReader_given_75 cI_0 ?_
        refine k_goto d_KReader_given_76 rfl ?_
        exact hV55
    · have h := ipos c9 h
      exact k_ret d_KReader_given_61 h
  · have h := ipos c6 h
    refine k_aload_n d_KReader_given_15 rfl ?_
    refine k_getD (x := (σ4.1 16 2)) d_KReader_given_16 fl_15_150 ob_16 rfl rfl (dyD_pos y5) ?_
    refine k_getR d_KReader_given_19 fl_15_766 (doc_ob (dyD_doc y5)) (dfr_8 (dyD_doc y5)) ?_
    refine k_iload d_KReader_given_22 rfl ?_
    obtain ⟨p61, h⟩ := h
    refine k_ild (x := (σ4.2 (rfo (Int.toNat (σ4.1 16 2)) 8) (Int.toNat s3))) d_KReader_given_24 (drI_8 (dyD_doc y5)) p61 rfl ?_
    refine k_iload_n d_KReader_given_25 rfl ?_
    refine k_icne d_KReader_given_26 rfl (fun c57 => ?_) (fun c57 => ?_)
    · have h := ineg c57 h
      obtain ⟨p58, h⟩ := h
      refine k_iinc (lv' := [some (.inr 16), some (.inl a1), none, some (.inl a3), some (.inl a4), some (.inl (s3 + 1)), none, none, none]) d_KReader_given_37 cI_1 rfl rfl p58 rfl ?_
      refine k_goto d_KReader_given_40 rfl ?_
      exact k_sb (sb_s (sb_s (sb_s (sb_s (sb_s (sb_s (sb_s (sb_s (sb_s sb_nil))))))))) (hK2 (s3 + 1) _ h)
    · have h := ipos c57 h
      refine k_aload_n d_KReader_given_29 rfl ?_
      refine k_bipush d_KReader_given_30 cB_8 ?_
      refine k_cvi [.inl 8] d_KReader_given_32 ml_15_392 rfl rfl ob_16 rfl (s_KReader_fail hL (by omega)  h) (fun v60 σ59 h => ?_)
      refine k_pop d_KReader_given_35 ?_
      exact k_ret d_KReader_given_36 h
theorem d_KReader_defaults_0 : decode b_KReader_defaults 0 = .ok (.aload_n 0, 1) := by decide +kernel
theorem d_KReader_defaults_1 : decode b_KReader_defaults 1 = .ok (.getfield 150, 3) := by decide +kernel
theorem d_KReader_defaults_4 : decode b_KReader_defaults 4 = .ok (.getfield 748, 3) := by decide +kernel
theorem d_KReader_defaults_7 : decode b_KReader_defaults 7 = .ok (.istore_n 3, 1) := by decide +kernel
theorem d_KReader_defaults_8 : decode b_KReader_defaults 8 = .ok (.iconst 0, 1) := by decide +kernel
theorem d_KReader_defaults_9 : decode b_KReader_defaults 9 = .ok (.istore 4, 2) := by decide +kernel
theorem d_KReader_defaults_11 : decode b_KReader_defaults 11 = .ok (.iload 4, 2) := by decide +kernel
theorem d_KReader_defaults_13 : decode b_KReader_defaults 13 = .ok (.aload_n 0, 1) := by decide +kernel
theorem d_KReader_defaults_14 : decode b_KReader_defaults 14 = .ok (.getfield 215, 3) := by decide +kernel
theorem d_KReader_defaults_17 : decode b_KReader_defaults 17 = .ok (.if_icmp .ge 163, 3) := by decide +kernel
theorem d_KReader_defaults_20 : decode b_KReader_defaults 20 = .ok (.aload_n 0, 1) := by decide +kernel
theorem d_KReader_defaults_21 : decode b_KReader_defaults 21 = .ok (.getfield 114, 3) := by decide +kernel
theorem d_KReader_defaults_24 : decode b_KReader_defaults 24 = .ok (.iload 4, 2) := by decide +kernel
theorem d_KReader_defaults_26 : decode b_KReader_defaults 26 = .ok (.iaload, 1) := by decide +kernel
theorem d_KReader_defaults_27 : decode b_KReader_defaults 27 = .ok (.iload_n 1, 1) := by decide +kernel
theorem d_KReader_defaults_28 : decode b_KReader_defaults 28 = .ok (.if_icmp .ne 146, 3) := by decide +kernel
theorem d_KReader_defaults_31 : decode b_KReader_defaults 31 = .ok (.iconst 0, 1) := by decide +kernel
theorem d_KReader_defaults_32 : decode b_KReader_defaults 32 = .ok (.istore 5, 2) := by decide +kernel
theorem d_KReader_defaults_34 : decode b_KReader_defaults 34 = .ok (.iload_n 2, 1) := by decide +kernel
theorem d_KReader_defaults_35 : decode b_KReader_defaults 35 = .ok (.istore 6, 2) := by decide +kernel
theorem d_KReader_defaults_37 : decode b_KReader_defaults 37 = .ok (.iload 6, 2) := by decide +kernel
theorem d_KReader_defaults_39 : decode b_KReader_defaults 39 = .ok (.iload_n 3, 1) := by decide +kernel
theorem d_KReader_defaults_40 : decode b_KReader_defaults 40 = .ok (.if_icmp .ge 41, 3) := by decide +kernel
theorem d_KReader_defaults_43 : decode b_KReader_defaults 43 = .ok (.iload 5, 2) := by decide +kernel
theorem d_KReader_defaults_45 : decode b_KReader_defaults 45 = .ok (.ifCond .ne 23, 3) := by decide +kernel
theorem d_KReader_defaults_48 : decode b_KReader_defaults 48 = .ok (.aload_n 0, 1) := by decide +kernel
theorem d_KReader_defaults_49 : decode b_KReader_defaults 49 = .ok (.getfield 150, 3) := by decide +kernel
theorem d_KReader_defaults_52 : decode b_KReader_defaults 52 = .ok (.getfield 766, 3) := by decide +kernel
theorem d_KReader_defaults_55 : decode b_KReader_defaults 55 = .ok (.iload 6, 2) := by decide +kernel
theorem d_KReader_defaults_57 : decode b_KReader_defaults 57 = .ok (.iaload, 1) := by decide +kernel
theorem d_KReader_defaults_58 : decode b_KReader_defaults 58 = .ok (.aload_n 0, 1) := by decide +kernel
theorem d_KReader_defaults_59 : decode b_KReader_defaults 59 = .ok (.getfield 117, 3) := by decide +kernel
theorem d_KReader_defaults_62 : decode b_KReader_defaults 62 = .ok (.iload 4, 2) := by decide +kernel
theorem d_KReader_defaults_64 : decode b_KReader_defaults 64 = .ok (.iaload, 1) := by decide +kernel
theorem d_KReader_defaults_65 : decode b_KReader_defaults 65 = .ok (.if_icmp .ne 7, 3) := by decide +kernel
theorem d_KReader_defaults_68 : decode b_KReader_defaults 68 = .ok (.iconst 1, 1) := by decide +kernel
theorem d_KReader_defaults_69 : decode b_KReader_defaults 69 = .ok (.goto 4, 3) := by decide +kernel
theorem d_KReader_defaults_72 : decode b_KReader_defaults 72 = .ok (.iconst 0, 1) := by decide +kernel
theorem d_KReader_defaults_73 : decode b_KReader_defaults 73 = .ok (.istore 5, 2) := by decide +kernel
theorem d_KReader_defaults_75 : decode b_KReader_defaults 75 = .ok (.iinc 6 1, 3) := by decide +kernel
theorem d_KReader_defaults_78 : decode b_KReader_defaults 78 = .ok (.goto (-41), 3) := by decide +kernel
theorem d_KReader_defaults_81 : decode b_KReader_defaults 81 = .ok (.aload_n 0, 1) := by decide +kernel
theorem d_KReader_defaults_82 : decode b_KReader_defaults 82 = .ok (.getfield 150, 3) := by decide +kernel
theorem d_KReader_defaults_85 : decode b_KReader_defaults 85 = .ok (.getfield 561, 3) := by decide +kernel
theorem d_KReader_defaults_88 : decode b_KReader_defaults 88 = .ok (.bipush 9, 2) := by decide +kernel
theorem d_KReader_defaults_90 : decode b_KReader_defaults 90 = .ok (.dup2, 1) := by decide +kernel
theorem d_KReader_defaults_91 : decode b_KReader_defaults 91 = .ok (.iaload, 1) := by decide +kernel
theorem d_KReader_defaults_92 : decode b_KReader_defaults 92 = .ok (.iload 5, 2) := by decide +kernel
theorem d_KReader_defaults_94 : decode b_KReader_defaults 94 = .ok (.ifCond .ne 18, 3) := by decide +kernel
theorem d_KReader_defaults_97 : decode b_KReader_defaults 97 = .ok (.aload_n 0, 1) := by decide +kernel
theorem d_KReader_defaults_98 : decode b_KReader_defaults 98 = .ok (.getfield 123, 3) := by decide +kernel
theorem d_KReader_defaults_101 : decode b_KReader_defaults 101 = .ok (.iload 4, 2) := by decide +kernel
theorem d_KReader_defaults_103 : decode b_KReader_defaults 103 = .ok (.baload, 1) := by decide +kernel
theorem d_KReader_defaults_104 : decode b_KReader_defaults 104 = .ok (.iconst 1, 1) := by decide +kernel
theorem d_KReader_defaults_105 : decode b_KReader_defaults 105 = .ok (.if_icmp .ne 7, 3) := by decide +kernel
theorem d_KReader_defaults_108 : decode b_KReader_defaults 108 = .ok (.iconst 1, 1) := by decide +kernel
theorem d_KReader_defaults_109 : decode b_KReader_defaults 109 = .ok (.goto 4, 3) := by decide +kernel
theorem d_KReader_defaults_112 : decode b_KReader_defaults 112 = .ok (.iconst 0, 1) := by decide +kernel
theorem d_KReader_defaults_113 : decode b_KReader_defaults 113 = .ok (.iadd, 1) := by decide +kernel
theorem d_KReader_defaults_114 : decode b_KReader_defaults 114 = .ok (.iastore, 1) := by decide +kernel
theorem d_KReader_defaults_115 : decode b_KReader_defaults 115 = .ok (.iload 5, 2) := by decide +kernel
theorem d_KReader_defaults_117 : decode b_KReader_defaults 117 = .ok (.ifCond .ne 57, 3) := by decide +kernel
theorem d_KReader_defaults_120 : decode b_KReader_defaults 120 = .ok (.aload_n 0, 1) := by decide +kernel
theorem d_KReader_defaults_121 : decode b_KReader_defaults 121 = .ok (.getfield 123, 3) := by decide +kernel
theorem d_KReader_defaults_124 : decode b_KReader_defaults 124 = .ok (.iload 4, 2) := by decide +kernel
theorem d_KReader_defaults_126 : decode b_KReader_defaults 126 = .ok (.baload, 1) := by decide +kernel
theorem d_KReader_defaults_127 : decode b_KReader_defaults 127 = .ok (.iconst 3, 1) := by decide +kernel
theorem d_KReader_defaults_128 : decode b_KReader_defaults 128 = .ok (.if_icmp .eq 14, 3) := by decide +kernel
theorem d_KReader_defaults_131 : decode b_KReader_defaults 131 = .ok (.aload_n 0, 1) := by decide +kernel
theorem d_KReader_defaults_132 : decode b_KReader_defaults 132 = .ok (.getfield 123, 3) := by decide +kernel
theorem d_KReader_defaults_135 : decode b_KReader_defaults 135 = .ok (.iload 4, 2) := by decide +kernel
theorem d_KReader_defaults_137 : decode b_KReader_defaults 137 = .ok (.baload, 1) := by decide +kernel
theorem d_KReader_defaults_138 : decode b_KReader_defaults 138 = .ok (.iconst 4, 1) := by decide +kernel
theorem d_KReader_defaults_139 : decode b_KReader_defaults 139 = .ok (.if_icmp .ne 35, 3) := by decide +kernel
theorem d_KReader_defaults_142 : decode b_KReader_defaults 142 = .ok (.aload_n 0, 1) := by decide +kernel
theorem d_KReader_defaults_143 : decode b_KReader_defaults 143 = .ok (.aload_n 0, 1) := by decide +kernel
theorem d_KReader_defaults_144 : decode b_KReader_defaults 144 = .ok (.getfield 117, 3) := by decide +kernel
theorem d_KReader_defaults_147 : decode b_KReader_defaults 147 = .ok (.iload 4, 2) := by decide +kernel
theorem d_KReader_defaults_149 : decode b_KReader_defaults 149 = .ok (.iaload, 1) := by decide +kernel
theorem d_KReader_defaults_150 : decode b_KReader_defaults 150 = .ok (.aload_n 0, 1) := by decide +kernel
theorem d_KReader_defaults_151 : decode b_KReader_defaults 151 = .ok (.getfield 126, 3) := by decide +kernel
theorem d_KReader_defaults_154 : decode b_KReader_defaults 154 = .ok (.iload 4, 2) := by decide +kernel
theorem d_KReader_defaults_156 : decode b_KReader_defaults 156 = .ok (.iaload, 1) := by decide +kernel
theorem d_KReader_defaults_157 : decode b_KReader_defaults 157 = .ok (.aload_n 0, 1) := by decide +kernel
theorem d_KReader_defaults_158 : decode b_KReader_defaults 158 = .ok (.getfield 129, 3) := by decide +kernel
theorem d_KReader_defaults_161 : decode b_KReader_defaults 161 = .ok (.iload 4, 2) := by decide +kernel
theorem d_KReader_defaults_163 : decode b_KReader_defaults 163 = .ok (.iaload, 1) := by decide +kernel
theorem d_KReader_defaults_164 : decode b_KReader_defaults 164 = .ok (.aload_n 0, 1) := by decide +kernel
theorem d_KReader_defaults_165 : decode b_KReader_defaults 165 = .ok (.getfield 120, 3) := by decide +kernel
theorem d_KReader_defaults_168 : decode b_KReader_defaults 168 = .ok (.iload 4, 2) := by decide +kernel
theorem d_KReader_defaults_170 : decode b_KReader_defaults 170 = .ok (.baload, 1) := by decide +kernel
theorem d_KReader_defaults_171 : decode b_KReader_defaults 171 = .ok (.invokevirtual 769, 3) := by decide +kernel
theorem d_KReader_defaults_174 : decode b_KReader_defaults 174 = .ok (.iinc 4 1, 3) := by decide +kernel
theorem d_KReader_defaults_177 : decode b_KReader_defaults 177 = .ok (.goto (-166), 3) := by decide +kernel
theorem d_KReader_defaults_180 : decode b_KReader_defaults 180 = .ok (.return_, 1) := by decide +kernel
/-- KReader_defaults -/
def w_KReader_defaults (L : Nat → Nat) (a1 : Int) (a2 : Int) (Q : IS → Prop) (σ : IS) : Prop := dyD (σ.1 16 2) ∧ WL (fun (K2 : Int → IS → Prop) (s4 : Int) (σ5 : IS) => if s4 < (σ5.1 16 56) then inL L 199 s4 ∧ WJ (fun (s9 : Unit) (σ10 : IS) => inR (s4 + 1) ∧ K2 (s4 + 1) σ10) (fun J7 => if (σ5.2 199 (Int.toNat s4)) = a1 then WL (fun (K13 : Int × Int → IS → Prop) (s15 : Int × Int) (σ16 : IS) => if s15.2 < (σ.1 (Int.toNat (σ.1 16 2)) 14) then ((s15.1 = 0 → (dyD (σ16.1 16 2) ∧ inL L (rfo (Int.toNat (σ16.1 16 2)) 8) s15.2 ∧ inL L 200 s4))) ∧ LETI (if s15.1 = 0 then (if (σ16.2 (rfo (Int.toNat (σ16.1 16 2)) 8) (Int.toNat s15.2)) = (σ16.2 200 (Int.toNat s4)) then (1 : Int) else (0 : Int)) else (1 : Int)) (fun t51 => inR (s15.2 + 1) ∧ K13 (t51, (s15.2 + 1)) σ16) else dyD (σ16.1 16 2) ∧ inL L (rfo (Int.toNat (σ16.1 16 2)) 18) 9 ∧ ((s15.1 = 0 → inL L 202 s4)) ∧ inR ((σ16.2 (rfo (Int.toNat (σ16.1 16 2)) 18) (Int.toNat 9)) + (if s15.1 = 0 then (if (σ16.2 202 (Int.toNat s4)) = 1 then (1 : Int) else (0 : Int)) else (0 : Int))) ∧ inL L (rfo (Int.toNat (σ16.1 16 2)) 18) 9 ∧ if s15.1 = 0 then inL L 202 s4 ∧ ((¬ ((pr σ16 (rfo (Int.toNat (σ16.1 16 2)) 18) (Int.toNat 9) ((σ16.2 (rfo (Int.toNat (σ16.1 16 2)) 18) (Int.toNat 9)) + (if s15.1 = 0 then (if (σ16.2 202 (Int.toNat s4)) = 1 then (1 : Int) else (0 : Int)) else (0 : Int)))).2 202 (Int.toNat s4)) = 3 → inL L 202 s4)) ∧ if ((pr σ16 (rfo (Int.toNat (σ16.1 16 2)) 18) (Int.toNat 9) ((σ16.2 (rfo (Int.toNat (σ16.1 16 2)) 18) (Int.toNat 9)) + (if s15.1 = 0 then (if (σ16.2 202 (Int.toNat s4)) = 1 then (1 : Int) else (0 : Int)) else (0 : Int)))).2 202 (Int.toNat s4)) = 3 ∨ (((pr σ16 (rfo (Int.toNat (σ16.1 16 2)) 18) (Int.toNat 9) ((σ16.2 (rfo (Int.toNat (σ16.1 16 2)) 18) (Int.toNat 9)) + (if s15.1 = 0 then (if (σ16.2 202 (Int.toNat s4)) = 1 then (1 : Int) else (0 : Int)) else (0 : Int)))).2 202 (Int.toNat s4)) = 4) then inL L 200 s4 ∧ inL L 203 s4 ∧ inL L 204 s4 ∧ inL L 201 s4 ∧ w_KReader_add L ((pr σ16 (rfo (Int.toNat (σ16.1 16 2)) 18) (Int.toNat 9) ((σ16.2 (rfo (Int.toNat (σ16.1 16 2)) 18) (Int.toNat 9)) + (if s15.1 = 0 then (if (σ16.2 202 (Int.toNat s4)) = 1 then (1 : Int) else (0 : Int)) else (0 : Int)))).2 200 (Int.toNat s4)) ((pr σ16 (rfo (Int.toNat (σ16.1 16 2)) 18) (Int.toNat 9) ((σ16.2 (rfo (Int.toNat (σ16.1 16 2)) 18) (Int.toNat 9)) + (if s15.1 = 0 then (if (σ16.2 202 (Int.toNat s4)) = 1 then (1 : Int) else (0 : Int)) else (0 : Int)))).2 203 (Int.toNat s4)) ((pr σ16 (rfo (Int.toNat (σ16.1 16 2)) 18) (Int.toNat 9) ((σ16.2 (rfo (Int.toNat (σ16.1 16 2)) 18) (Int.toNat 9)) + (if s15.1 = 0 then (if (σ16.2 202 (Int.toNat s4)) = 1 then (1 : Int) else (0 : Int)) else (0 : Int)))).2 204 (Int.toNat s4)) ((pr σ16 (rfo (Int.toNat (σ16.1 16 2)) 18) (Int.toNat 9) ((σ16.2 (rfo (Int.toNat (σ16.1 16 2)) 18) (Int.toNat 9)) + (if s15.1 = 0 then (if (σ16.2 202 (Int.toNat s4)) = 1 then (1 : Int) else (0 : Int)) else (0 : Int)))).2 201 (Int.toNat s4)) (fun σ22 => J7 () σ22) (pr σ16 (rfo (Int.toNat (σ16.1 16 2)) 18) (Int.toNat 9) ((σ16.2 (rfo (Int.toNat (σ16.1 16 2)) 18) (Int.toNat 9)) + (if s15.1 = 0 then (if (σ16.2 202 (Int.toNat s4)) = 1 then (1 : Int) else (0 : Int)) else (0 : Int)))) else J7 () (pr σ16 (rfo (Int.toNat (σ16.1 16 2)) 18) (Int.toNat 9) ((σ16.2 (rfo (Int.toNat (σ16.1 16 2)) 18) (Int.toNat 9)) + (if s15.1 = 0 then (if (σ16.2 202 (Int.toNat s4)) = 1 then (1 : Int) else (0 : Int)) else (0 : Int)))) else J7 () (pr σ16 (rfo (Int.toNat (σ16.1 16 2)) 18) (Int.toNat 9) ((σ16.2 (rfo (Int.toNat (σ16.1 16 2)) 18) (Int.toNat 9)) + (if s15.1 = 0 then (if (σ16.2 202 (Int.toNat s4)) = 1 then (1 : Int) else (0 : Int)) else (0 : Int))))) (0, a2) σ5 else J7 () σ5) else Q σ5) 0 σ
set_option maxHeartbeats 4000000 in
set_option maxRecDepth 20000 in
theorem s_KReader_defaults {L : Nat → Nat} (hL : ∀ r, L r < 2147483648) {d : Nat} (hd : 5 ≤ d) {a1 : Int} {a2 : Int} {Q : IS → Prop} {σ : IS}  (h : w_KReader_defaults L a1 a2 Q σ) : OkI BF L d 15 b_KReader_defaults 7 0 0 [] [some (.inr 16), some (.inl a1), some (.inl a2)] σ (qv Q) := by
  unfold w_KReader_defaults at h
  obtain ⟨d, rfl⟩ : ∃ e, d = e + 1 := ⟨d - 1, by omega⟩
  refine k_sb (lv' := [some (.inr 16), some (.inl a1), some (.inl a2), none, none, none, none]) (sb_s (sb_s (sb_s (sb_e (sb_e (sb_e (sb_e sb_nil))))))) ?_
  refine k_aload_n d_KReader_defaults_0 rfl ?_
  obtain ⟨y1, h⟩ := h
  refine k_getD (x := (σ.1 16 2)) d_KReader_defaults_1 fl_15_150 ob_16 rfl rfl (dyD_pos y1) ?_
  refine k_getI (x := (σ.1 (Int.toNat (σ.1 16 2)) 14)) d_KReader_defaults_4 fl_15_748 (doc_ob (dyD_doc y1)) (dfi_14 (dyD_doc y1)) rfl ?_
  refine k_istore_n (lv' := [some (.inr 16), some (.inl a1), some (.inl a2), some (.inl (σ.1 (Int.toNat (σ.1 16 2)) 14)), none, none, none]) d_KReader_defaults_7 rfl rfl ?_
  refine k_iconst d_KReader_defaults_8 cI_0 ?_
  refine k_istore (lv' := [some (.inr 16), some (.inl a1), some (.inl a2), some (.inl (σ.1 (Int.toNat (σ.1 16 2)) 14)), some (.inl 0), none, none]) d_KReader_defaults_9 rfl rfl ?_
  refine k_sb (lv' := [some (.inr 16), some (.inl a1), some (.inl a2), some (.inl (σ.1 (Int.toNat (σ.1 16 2)) 14)), some (.inl 0), none, none]) (sb_s (sb_s (sb_s (sb_s (sb_s (sb_s (sb_s sb_nil))))))) ?_
  refine k_loop (S := Int) (st := fun _ => []) (lv := fun s4 => [some (.inr 16), some (.inl a1), some (.inl a2), some (.inl (σ.1 (Int.toNat (σ.1 16 2)) 14)), some (.inl s4), none, none]) (fun K2 hK3 s4 σ5 h => ?_) 0 _ h
  refine k_iload d_KReader_defaults_11 rfl ?_
  refine k_aload_n d_KReader_defaults_13 rfl ?_
  refine k_getI (x := (σ5.1 16 56)) d_KReader_defaults_14 fl_15_215 ob_16 rfl rfl ?_
  refine k_icge d_KReader_defaults_17 rfl (fun c6 => ?_) (fun c6 => ?_)
  · have h := ineg c6 h
    exact k_ret d_KReader_defaults_180 h
  · have h := ipos c6 h
    refine k_aload_n d_KReader_defaults_20 rfl ?_
    refine k_getR d_KReader_defaults_21 fl_15_114 ob_16 rfl ?_
    refine k_iload d_KReader_defaults_24 rfl ?_
    obtain ⟨p63, h⟩ := h
    refine k_ild (x := (σ5.2 199 (Int.toNat s4))) d_KReader_defaults_26 rI_199 p63 rfl ?_
    refine k_iload_n d_KReader_defaults_27 rfl ?_
    refine k_join (S := Unit) (pc' := 174) (st' := fun s9 => []) (lv' := fun s9 => [some (.inr 16), some (.inl a1), some (.inl a2), some (.inl (σ.1 (Int.toNat (σ.1 16 2)) 14)), some (.inl s4), none, none]) (fun s9 σ10 h => ?_) (fun J7 hJ8 h => ?_) h
    · obtain ⟨p11, h⟩ := h
      refine k_iinc (lv' := [some (.inr 16), some (.inl a1), some (.inl a2), some (.inl (σ.1 (Int.toNat (σ.1 16 2)) 14)), some (.inl (s4 + 1)), none, none]) d_KReader_defaults_174 cI_1 rfl rfl p11 rfl ?_
      refine k_goto d_KReader_defaults_177 rfl ?_
      exact k_sb (sb_s (sb_s (sb_s (sb_s (sb_s (sb_s (sb_s sb_nil))))))) (hK3 (s4 + 1) _ h)
    · refine k_icne d_KReader_defaults_28 rfl (fun c12 => ?_) (fun c12 => ?_)
      · have h := ineg c12 h
        exact k_sb (sb_s (sb_s (sb_s (sb_s (sb_s (sb_s (sb_s sb_nil))))))) (hJ8 () _ h)
      · have h := ipos c12 h
        refine k_iconst d_KReader_defaults_31 cI_0 ?_
        refine k_istore (lv' := [some (.inr 16), some (.inl a1), some (.inl a2), some (.inl (σ.1 (Int.toNat (σ.1 16 2)) 14)), some (.inl s4), some (.inl 0), none]) d_KReader_defaults_32 rfl rfl ?_
        refine k_iload_n d_KReader_defaults_34 rfl ?_
        refine k_istore (lv' := [some (.inr 16), some (.inl a1), some (.inl a2), some (.inl (σ.1 (Int.toNat (σ.1 16 2)) 14)), some (.inl s4), some (.inl 0), some (.inl a2)]) d_KReader_defaults_35 rfl rfl ?_
        refine k_sb (lv' := [some (.inr 16), some (.inl a1), some (.inl a2), some (.inl (σ.1 (Int.toNat (σ.1 16 2)) 14)), some (.inl s4), some (.inl 0), some (.inl a2)]) (sb_s (sb_s (sb_s (sb_s (sb_s (sb_s (sb_s sb_nil))))))) ?_
        refine k_loop (S := Int × Int) (st := fun _ => []) (lv := fun s15 => [some (.inr 16), some (.inl a1), some (.inl a2), some (.inl (σ.1 (Int.toNat (σ.1 16 2)) 14)), some (.inl s4), some (.inl s15.1), some (.inl s15.2)]) (fun K13 hK14 s15 σ16 h => ?_) (0, a2) _ h
        refine k_iload d_KReader_defaults_37 rfl ?_
        refine k_iload_n d_KReader_defaults_39 rfl ?_
        refine k_icge d_KReader_defaults_40 rfl (fun c17 => ?_) (fun c17 => ?_)
        · have h := ineg c17 h
          refine k_aload_n d_KReader_defaults_81 rfl ?_
          obtain ⟨y18, h⟩ := h
          refine k_getD (x := (σ16.1 16 2)) d_KReader_defaults_82 fl_15_150 ob_16 rfl rfl (dyD_pos y18) ?_
          refine k_getR d_KReader_defaults_85 fl_15_561 (doc_ob (dyD_doc y18)) (dfr_18 (dyD_doc y18)) ?_
          refine k_bipush d_KReader_defaults_88 cB_9 ?_
          refine k_dup2 d_KReader_defaults_90 ?_
          obtain ⟨p47, h⟩ := h
          refine k_ild (x := (σ16.2 (rfo (Int.toNat (σ16.1 16 2)) 18) (Int.toNat 9))) d_KReader_defaults_91 (drI_18 (dyD_doc y18)) p47 rfl ?_
          refine k_iload d_KReader_defaults_92 rfl ?_
          obtain ⟨pt39, h⟩ := h
          have hV38 : OkI BF L (d + 1) 15 b_KReader_defaults 7 0 113 [.inl (if s15.1 = 0 then (if (σ16.2 202 (Int.toNat s4)) = 1 then (1 : Int) else (0 : Int)) else (0 : Int)), .inl (σ16.2 (rfo (Int.toNat (σ16.1 16 2)) 18) (Int.toNat 9)), .inl 9, .inr (rfo (Int.toNat (σ16.1 16 2)) 18)] [some (.inr 16), some (.inl a1), some (.inl a2), some (.inl (σ.1 (Int.toNat (σ.1 16 2)) 14)), some (.inl s4), some (.inl s15.1), some (.inl s15.2)] σ16 (qv Q) := by
            obtain ⟨p37, h⟩ := h
            refine k_iadd d_KReader_defaults_113 p37 ?_
            obtain ⟨p36, h⟩ := h
            refine k_ist d_KReader_defaults_114 (drI_18 (dyD_doc y18)) p36 ?_
            refine k_iload d_KReader_defaults_115 rfl ?_
            refine k_ifne d_KReader_defaults_117 rfl (fun c20 => ?_) (fun c20 => ?_)
            · have h := ineg c20 h
              exact k_sb (sb_s (sb_s (sb_s (sb_s (sb_s (sb_n (sb_n sb_nil))))))) (hJ8 () _ h)
            · have h := ipos c20 h
              refine k_aload_n d_KReader_defaults_120 rfl ?_
              refine k_getR d_KReader_defaults_121 fl_15_123 ob_16 rfl ?_
              refine k_iload d_KReader_defaults_124 rfl ?_
              obtain ⟨p35, h⟩ := h
              refine k_bld (x := ((pr σ16 (rfo (Int.toNat (σ16.1 16 2)) 18) (Int.toNat 9) ((σ16.2 (rfo (Int.toNat (σ16.1 16 2)) 18) (Int.toNat 9)) + (if s15.1 = 0 then (if (σ16.2 202 (Int.toNat s4)) = 1 then (1 : Int) else (0 : Int)) else (0 : Int)))).2 202 (Int.toNat s4))) d_KReader_defaults_126 rB_202 p35 rfl ?_
              refine k_iconst d_KReader_defaults_127 cI_3 ?_
              obtain ⟨pt31, h⟩ := h
              have hX28 : (((pr σ16 (rfo (Int.toNat (σ16.1 16 2)) 18) (Int.toNat 9) ((σ16.2 (rfo (Int.toNat (σ16.1 16 2)) 18) (Int.toNat 9)) + (if s15.1 = 0 then (if (σ16.2 202 (Int.toNat s4)) = 1 then (1 : Int) else (0 : Int)) else (0 : Int)))).2 202 (Int.toNat s4)) = 3 ∨ (((pr σ16 (rfo (Int.toNat (σ16.1 16 2)) 18) (Int.toNat 9) ((σ16.2 (rfo (Int.toNat (σ16.1 16 2)) 18) (Int.toNat 9)) + (if s15.1 = 0 then (if (σ16.2 202 (Int.toNat s4)) = 1 then (1 : Int) else (0 : Int)) else (0 : Int)))).2 202 (Int.toNat s4)) = 4)) → OkI BF L (d + 1) 15 b_KReader_defaults 7 0 142 [] [some (.inr 16), some (.inl a1), some (.inl a2), some (.inl (σ.1 (Int.toNat (σ.1 16 2)) 14)), some (.inl s4), some (.inl s15.1), some (.inl s15.2)] (pr σ16 (rfo (Int.toNat (σ16.1 16 2)) 18) (Int.toNat 9) ((σ16.2 (rfo (Int.toNat (σ16.1 16 2)) 18) (Int.toNat 9)) + (if s15.1 = 0 then (if (σ16.2 202 (Int.toNat s4)) = 1 then (1 : Int) else (0 : Int)) else (0 : Int)))) (qv Q) := fun e30 => by
                have h := ipos e30 h
                refine k_aload_n d_KReader_defaults_142 rfl ?_
                refine k_aload_n d_KReader_defaults_143 rfl ?_
                refine k_getR d_KReader_defaults_144 fl_15_117 ob_16 rfl ?_
                refine k_iload d_KReader_defaults_147 rfl ?_
                obtain ⟨p27, h⟩ := h
                refine k_ild (x := ((pr σ16 (rfo (Int.toNat (σ16.1 16 2)) 18) (Int.toNat 9) ((σ16.2 (rfo (Int.toNat (σ16.1 16 2)) 18) (Int.toNat 9)) + (if s15.1 = 0 then (if (σ16.2 202 (Int.toNat s4)) = 1 then (1 : Int) else (0 : Int)) else (0 : Int)))).2 200 (Int.toNat s4))) d_KReader_defaults_149 rI_200 p27 rfl ?_
                refine k_aload_n d_KReader_defaults_150 rfl ?_
                refine k_getR d_KReader_defaults_151 fl_15_126 ob_16 rfl ?_
                refine k_iload d_KReader_defaults_154 rfl ?_
                obtain ⟨p26, h⟩ := h
                refine k_ild (x := ((pr σ16 (rfo (Int.toNat (σ16.1 16 2)) 18) (Int.toNat 9) ((σ16.2 (rfo (Int.toNat (σ16.1 16 2)) 18) (Int.toNat 9)) + (if s15.1 = 0 then (if (σ16.2 202 (Int.toNat s4)) = 1 then (1 : Int) else (0 : Int)) else (0 : Int)))).2 203 (Int.toNat s4))) d_KReader_defaults_156 rI_203 p26 rfl ?_
                refine k_aload_n d_KReader_defaults_157 rfl ?_
                refine k_getR d_KReader_defaults_158 fl_15_129 ob_16 rfl ?_
                refine k_iload d_KReader_defaults_161 rfl ?_
                obtain ⟨p25, h⟩ := h
                refine k_ild (x := ((pr σ16 (rfo (Int.toNat (σ16.1 16 2)) 18) (Int.toNat 9) ((σ16.2 (rfo (Int.toNat (σ16.1 16 2)) 18) (Int.toNat 9)) + (if s15.1 = 0 then (if (σ16.2 202 (Int.toNat s4)) = 1 then (1 : Int) else (0 : Int)) else (0 : Int)))).2 204 (Int.toNat s4))) d_KReader_defaults_163 rI_204 p25 rfl ?_
                refine k_aload_n d_KReader_defaults_164 rfl ?_
                refine k_getR d_KReader_defaults_165 fl_15_120 ob_16 rfl ?_
                refine k_iload d_KReader_defaults_168 rfl ?_
                obtain ⟨p24, h⟩ := h
                refine k_bld (x := ((pr σ16 (rfo (Int.toNat (σ16.1 16 2)) 18) (Int.toNat 9) ((σ16.2 (rfo (Int.toNat (σ16.1 16 2)) 18) (Int.toNat 9)) + (if s15.1 = 0 then (if (σ16.2 202 (Int.toNat s4)) = 1 then (1 : Int) else (0 : Int)) else (0 : Int)))).2 201 (Int.toNat s4))) d_KReader_defaults_170 rB_201 p24 rfl ?_
                refine k_cvv [.inl ((pr σ16 (rfo (Int.toNat (σ16.1 16 2)) 18) (Int.toNat 9) ((σ16.2 (rfo (Int.toNat (σ16.1 16 2)) 18) (Int.toNat 9)) + (if s15.1 = 0 then (if (σ16.2 202 (Int.toNat s4)) = 1 then (1 : Int) else (0 : Int)) else (0 : Int)))).2 200 (Int.toNat s4)), .inl ((pr σ16 (rfo (Int.toNat (σ16.1 16 2)) 18) (Int.toNat 9) ((σ16.2 (rfo (Int.toNat (σ16.1 16 2)) 18) (Int.toNat 9)) + (if s15.1 = 0 then (if (σ16.2 202 (Int.toNat s4)) = 1 then (1 : Int) else (0 : Int)) else (0 : Int)))).2 203 (Int.toNat s4)), .inl ((pr σ16 (rfo (Int.toNat (σ16.1 16 2)) 18) (Int.toNat 9) ((σ16.2 (rfo (Int.toNat (σ16.1 16 2)) 18) (Int.toNat 9)) + (if s15.1 = 0 then (if (σ16.2 202 (Int.toNat s4)) = 1 then (1 : Int) else (0 : Int)) else (0 : Int)))).2 204 (Int.toNat s4)), .inl ((pr σ16 (rfo (Int.toNat (σ16.1 16 2)) 18) (Int.toNat 9) ((σ16.2 (rfo (Int.toNat (σ16.1 16 2)) 18) (Int.toNat 9)) + (if s15.1 = 0 then (if (σ16.2 202 (Int.toNat s4)) = 1 then (1 : Int) else (0 : Int)) else (0 : Int)))).2 201 (Int.toNat s4))] d_KReader_defaults_171 ml_15_769 rfl rfl ob_16 rfl (s_KReader_add hL (by omega)  h) (fun σ22 h => ?_)
                exact k_sb (sb_s (sb_s (sb_s (sb_s (sb_s (sb_n (sb_n sb_nil))))))) (hJ8 () _ h)
              have hY29 : ¬ (((pr σ16 (rfo (Int.toNat (σ16.1 16 2)) 18) (Int.toNat 9) ((σ16.2 (rfo (Int.toNat (σ16.1 16 2)) 18) (Int.toNat 9)) + (if s15.1 = 0 then (if (σ16.2 202 (Int.toNat s4)) = 1 then (1 : Int) else (0 : Int)) else (0 : Int)))).2 202 (Int.toNat s4)) = 3 ∨ (((pr σ16 (rfo (Int.toNat (σ16.1 16 2)) 18) (Int.toNat 9) ((σ16.2 (rfo (Int.toNat (σ16.1 16 2)) 18) (Int.toNat 9)) + (if s15.1 = 0 then (if (σ16.2 202 (Int.toNat s4)) = 1 then (1 : Int) else (0 : Int)) else (0 : Int)))).2 202 (Int.toNat s4)) = 4)) → OkI BF L (d + 1) 15 b_KReader_defaults 7 0 174 [] [some (.inr 16), some (.inl a1), some (.inl a2), some (.inl (σ.1 (Int.toNat (σ.1 16 2)) 14)), some (.inl s4), some (.inl s15.1), some (.inl s15.2)] (pr σ16 (rfo (Int.toNat (σ16.1 16 2)) 18) (Int.toNat 9) ((σ16.2 (rfo (Int.toNat (σ16.1 16 2)) 18) (Int.toNat 9)) + (if s15.1 = 0 then (if (σ16.2 202 (Int.toNat s4)) = 1 then (1 : Int) else (0 : Int)) else (0 : Int)))) (qv Q) := fun e30 => by
                have h := ineg e30 h
                exact k_sb (sb_s (sb_s (sb_s (sb_s (sb_s (sb_n (sb_n sb_nil))))))) (hJ8 () _ h)
              have pb32 := pt31
              refine k_iceq d_KReader_defaults_128 rfl (fun c33 => ?_) (fun c33 => ?_)
              · exact hX28 (Or.inl c33)
              · have pb32 := pb32 c33
                have p21 := pb32
                refine k_aload_n d_KReader_defaults_131 rfl ?_
                refine k_getR d_KReader_defaults_132 fl_15_123 ob_16 rfl ?_
                refine k_iload d_KReader_defaults_135 rfl ?_
                refine k_bld (x := ((pr σ16 (rfo (Int.toNat (σ16.1 16 2)) 18) (Int.toNat 9) ((σ16.2 (rfo (Int.toNat (σ16.1 16 2)) 18) (Int.toNat 9)) + (if s15.1 = 0 then (if (σ16.2 202 (Int.toNat s4)) = 1 then (1 : Int) else (0 : Int)) else (0 : Int)))).2 202 (Int.toNat s4))) d_KReader_defaults_137 rB_202 p21 rfl ?_
                refine k_iconst d_KReader_defaults_138 cI_4 ?_
                refine k_icne d_KReader_defaults_139 rfl (fun c34 => ?_) (fun c34 => ?_)
                · exact hY29 (fun z => z.elim c33 (c34))
                · exact hX28 (Or.inr (c34))
          have pa40 := pt39
          refine k_ifne d_KReader_defaults_94 rfl (fun c41 => ?_) (fun c41 => ?_)
          · have hV46 := k_eqI (if_neg c41) hV38
            refine k_iconst d_KReader_defaults_112 cI_0 ?_
            exact hV46
          · have pa40 := pa40 c41
            have hV42 := k_eqI (if_pos c41) hV38
            have p19 := pa40
            refine k_aload_n d_KReader_defaults_97 rfl ?_
            refine k_getR d_KReader_defaults_98 fl_15_123 ob_16 rfl ?_
            refine k_iload d_KReader_defaults_101 rfl ?_
            refine k_bld (x := (σ16.2 202 (Int.toNat s4))) d_KReader_defaults_103 rB_202 p19 rfl ?_
            refine k_iconst d_KReader_defaults_104 cI_1 ?_
            refine k_icne d_KReader_defaults_105 rfl (fun c43 => ?_) (fun c43 => ?_)
            · have hV45 := k_eqI (if_neg c43) hV42
              refine k_iconst d_KReader_defaults_112 cI_0 ?_
              exact hV45
            · have hV44 := k_eqI (if_pos c43) hV42
              refine k_iconst d_KReader_defaults_108 cI_1 ?_
              refine k_goto d_KReader_defaults_109 rfl ?_
              exact hV44
        · have h := ipos c17 h
          refine k_iload d_KReader_defaults_43 rfl ?_
          obtain ⟨pt55, h⟩ := h
          have hV54 : OkI BF L (d + 1) 15 b_KReader_defaults 7 0 73 [.inl (if s15.1 = 0 then (if (σ16.2 (rfo (Int.toNat (σ16.1 16 2)) 8) (Int.toNat s15.2)) = (σ16.2 200 (Int.toNat s4)) then (1 : Int) else (0 : Int)) else (1 : Int))] [some (.inr 16), some (.inl a1), some (.inl a2), some (.inl (σ.1 (Int.toNat (σ.1 16 2)) 14)), some (.inl s4), some (.inl s15.1), some (.inl s15.2)] σ16 (qv Q) := by
            refine k_letI (fun t51 ht52 h => ?_) h
            refine k_istore (lv' := [some (.inr 16), some (.inl a1), some (.inl a2), some (.inl (σ.1 (Int.toNat (σ.1 16 2)) 14)), some (.inl s4), some (.inl t51), some (.inl s15.2)]) d_KReader_defaults_73 rfl rfl ?_
            obtain ⟨p53, h⟩ := h
            refine k_iinc (lv' := [some (.inr 16), some (.inl a1), some (.inl a2), some (.inl (σ.1 (Int.toNat (σ.1 16 2)) 14)), some (.inl s4), some (.inl t51), some (.inl (s15.2 + 1))]) d_KReader_defaults_75 cI_1 rfl rfl p53 rfl ?_
            refine k_goto d_KReader_defaults_78 rfl ?_
            exact k_sb (sb_s (sb_s (sb_s (sb_s (sb_s (sb_s (sb_s sb_nil))))))) (hK14 (t51, (s15.2 + 1)) _ h)
          have pa56 := pt55
          refine k_ifne d_KReader_defaults_45 rfl (fun c57 => ?_) (fun c57 => ?_)
          · have hV62 := k_eqI (if_neg c57) hV54
            refine k_iconst d_KReader_defaults_68 cI_1 ?_
            refine k_goto d_KReader_defaults_69 rfl ?_
            exact hV62
          · have pa56 := pa56 c57
            have hV58 := k_eqI (if_pos c57) hV54
            obtain ⟨y48, p49, p50⟩ := pa56
            refine k_aload_n d_KReader_defaults_48 rfl ?_
            refine k_getD (x := (σ16.1 16 2)) d_KReader_defaults_49 fl_15_150 ob_16 rfl rfl (dyD_pos y48) ?_
            refine k_getR d_KReader_defaults_52 fl_15_766 (doc_ob (dyD_doc y48)) (dfr_8 (dyD_doc y48)) ?_
            refine k_iload d_KReader_defaults_55 rfl ?_
            refine k_ild (x := (σ16.2 (rfo (Int.toNat (σ16.1 16 2)) 8) (Int.toNat s15.2))) d_KReader_defaults_57 (drI_8 (dyD_doc y48)) p49 rfl ?_
            refine k_aload_n d_KReader_defaults_58 rfl ?_
            refine k_getR d_KReader_defaults_59 fl_15_117 ob_16 rfl ?_
            refine k_iload d_KReader_defaults_62 rfl ?_
            refine k_ild (x := (σ16.2 200 (Int.toNat s4))) d_KReader_defaults_64 rI_200 p50 rfl ?_
            refine k_icne d_KReader_defaults_65 rfl (fun c59 => ?_) (fun c59 => ?_)
            · have hV61 := k_eqI (if_neg c59) hV58
              refine k_iconst d_KReader_defaults_72 cI_0 ?_
              exact hV61
            · have hV60 := k_eqI (if_pos c59) hV58
              refine k_iconst d_KReader_defaults_68 cI_1 ?_
              refine k_goto d_KReader_defaults_69 rfl ?_
              exact hV60
