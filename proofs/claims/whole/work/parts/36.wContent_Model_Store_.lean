theorem d_Content_isTagAround_0 : decode b_Content_isTagAround 0 = .ok (.aload_n 0, 1) := by decide +kernel
theorem d_Content_isTagAround_1 : decode b_Content_isTagAround 1 = .ok (.getfield 31, 3) := by decide +kernel
theorem d_Content_isTagAround_4 : decode b_Content_isTagAround 4 = .ok (.getfield 105, 3) := by decide +kernel
theorem d_Content_isTagAround_7 : decode b_Content_isTagAround 7 = .ok (.ifCond .le 7, 3) := by decide +kernel
theorem d_Content_isTagAround_10 : decode b_Content_isTagAround 10 = .ok (.iconst 1, 1) := by decide +kernel
theorem d_Content_isTagAround_11 : decode b_Content_isTagAround 11 = .ok (.goto 4, 3) := by decide +kernel
theorem d_Content_isTagAround_14 : decode b_Content_isTagAround 14 = .ok (.iconst 0, 1) := by decide +kernel
theorem d_Content_isTagAround_15 : decode b_Content_isTagAround 15 = .ok (.istore_n 1, 1) := by decide +kernel
theorem d_Content_isTagAround_16 : decode b_Content_isTagAround 16 = .ok (.aload_n 0, 1) := by decide +kernel
theorem d_Content_isTagAround_17 : decode b_Content_isTagAround 17 = .ok (.getfield 15, 3) := by decide +kernel
theorem d_Content_isTagAround_20 : decode b_Content_isTagAround 20 = .ok (.invokevirtual 145, 3) := by decide +kernel
theorem d_Content_isTagAround_23 : decode b_Content_isTagAround 23 = .ok (.invokestatic 56, 3) := by decide +kernel
theorem d_Content_isTagAround_26 : decode b_Content_isTagAround 26 = .ok (.ifCond .eq 14, 3) := by decide +kernel
theorem d_Content_isTagAround_29 : decode b_Content_isTagAround 29 = .ok (.aload_n 0, 1) := by decide +kernel
theorem d_Content_isTagAround_30 : decode b_Content_isTagAround 30 = .ok (.getfield 15, 3) := by decide +kernel
theorem d_Content_isTagAround_33 : decode b_Content_isTagAround 33 = .ok (.invokevirtual 140, 3) := by decide +kernel
theorem d_Content_isTagAround_36 : decode b_Content_isTagAround 36 = .ok (.pop, 1) := by decide +kernel
theorem d_Content_isTagAround_37 : decode b_Content_isTagAround 37 = .ok (.goto 139, 3) := by decide +kernel
theorem d_Content_isTagAround_40 : decode b_Content_isTagAround 40 = .ok (.aload_n 0, 1) := by decide +kernel
theorem d_Content_isTagAround_41 : decode b_Content_isTagAround 41 = .ok (.getfield 15, 3) := by decide +kernel
theorem d_Content_isTagAround_44 : decode b_Content_isTagAround 44 = .ok (.ldc 183, 2) := by decide +kernel
theorem d_Content_isTagAround_46 : decode b_Content_isTagAround 46 = .ok (.invokevirtual 37, 3) := by decide +kernel
theorem d_Content_isTagAround_49 : decode b_Content_isTagAround 49 = .ok (.ifCond .eq 13, 3) := by decide +kernel
theorem d_Content_isTagAround_52 : decode b_Content_isTagAround 52 = .ok (.aload_n 0, 1) := by decide +kernel
theorem d_Content_isTagAround_53 : decode b_Content_isTagAround 53 = .ok (.getfield 15, 3) := by decide +kernel
theorem d_Content_isTagAround_56 : decode b_Content_isTagAround 56 = .ok (.invokevirtual 185, 3) := by decide +kernel
theorem d_Content_isTagAround_59 : decode b_Content_isTagAround 59 = .ok (.goto 117, 3) := by decide +kernel
theorem d_Content_isTagAround_62 : decode b_Content_isTagAround 62 = .ok (.aload_n 0, 1) := by decide +kernel
theorem d_Content_isTagAround_63 : decode b_Content_isTagAround 63 = .ok (.getfield 15, 3) := by decide +kernel
theorem d_Content_isTagAround_66 : decode b_Content_isTagAround 66 = .ok (.ldc 188, 2) := by decide +kernel
theorem d_Content_isTagAround_68 : decode b_Content_isTagAround 68 = .ok (.invokevirtual 37, 3) := by decide +kernel
theorem d_Content_isTagAround_71 : decode b_Content_isTagAround 71 = .ok (.ifCond .eq 10, 3) := by decide +kernel
theorem d_Content_isTagAround_74 : decode b_Content_isTagAround 74 = .ok (.aload_n 0, 1) := by decide +kernel
theorem d_Content_isTagAround_75 : decode b_Content_isTagAround 75 = .ok (.invokevirtual 190, 3) := by decide +kernel
theorem d_Content_isTagAround_78 : decode b_Content_isTagAround 78 = .ok (.goto 98, 3) := by decide +kernel
theorem d_Content_isTagAround_81 : decode b_Content_isTagAround 81 = .ok (.iload_n 1, 1) := by decide +kernel
theorem d_Content_isTagAround_82 : decode b_Content_isTagAround 82 = .ok (.ifCond .ne 39, 3) := by decide +kernel
theorem d_Content_isTagAround_85 : decode b_Content_isTagAround 85 = .ok (.aload_n 0, 1) := by decide +kernel
theorem d_Content_isTagAround_86 : decode b_Content_isTagAround 86 = .ok (.getfield 15, 3) := by decide +kernel
theorem d_Content_isTagAround_89 : decode b_Content_isTagAround 89 = .ok (.invokevirtual 145, 3) := by decide +kernel
theorem d_Content_isTagAround_92 : decode b_Content_isTagAround 92 = .ok (.bipush 60, 2) := by decide +kernel
theorem d_Content_isTagAround_94 : decode b_Content_isTagAround 94 = .ok (.if_icmp .ne 27, 3) := by decide +kernel
theorem d_Content_isTagAround_97 : decode b_Content_isTagAround 97 = .ok (.aload_n 0, 1) := by decide +kernel
theorem d_Content_isTagAround_98 : decode b_Content_isTagAround 98 = .ok (.getfield 15, 3) := by decide +kernel
theorem d_Content_isTagAround_101 : decode b_Content_isTagAround 101 = .ok (.ldc 193, 2) := by decide +kernel
theorem d_Content_isTagAround_103 : decode b_Content_isTagAround 103 = .ok (.invokevirtual 37, 3) := by decide +kernel
theorem d_Content_isTagAround_106 : decode b_Content_isTagAround 106 = .ok (.ifCond .ne 15, 3) := by decide +kernel
theorem d_Content_isTagAround_109 : decode b_Content_isTagAround 109 = .ok (.aload_n 0, 1) := by decide +kernel
theorem d_Content_isTagAround_110 : decode b_Content_isTagAround 110 = .ok (.getfield 15, 3) := by decide +kernel
theorem d_Content_isTagAround_113 : decode b_Content_isTagAround 113 = .ok (.ldc 195, 2) := by decide +kernel
theorem d_Content_isTagAround_115 : decode b_Content_isTagAround 115 = .ok (.invokevirtual 37, 3) := by decide +kernel
theorem d_Content_isTagAround_118 : decode b_Content_isTagAround 118 = .ok (.ifCond .eq 15, 3) := by decide +kernel
theorem d_Content_isTagAround_121 : decode b_Content_isTagAround 121 = .ok (.aload_n 0, 1) := by decide +kernel
theorem d_Content_isTagAround_122 : decode b_Content_isTagAround 122 = .ok (.getfield 15, 3) := by decide +kernel
theorem d_Content_isTagAround_125 : decode b_Content_isTagAround 125 = .ok (.bipush 6, 2) := by decide +kernel
theorem d_Content_isTagAround_127 : decode b_Content_isTagAround 127 = .ok (.invokevirtual 108, 3) := by decide +kernel
theorem d_Content_isTagAround_130 : decode b_Content_isTagAround 130 = .ok (.goto 46, 3) := by decide +kernel
theorem d_Content_isTagAround_133 : decode b_Content_isTagAround 133 = .ok (.aload_n 0, 1) := by decide +kernel
theorem d_Content_isTagAround_134 : decode b_Content_isTagAround 134 = .ok (.getfield 15, 3) := by decide +kernel
theorem d_Content_isTagAround_137 : decode b_Content_isTagAround 137 = .ok (.ldc 197, 2) := by decide +kernel
theorem d_Content_isTagAround_139 : decode b_Content_isTagAround 139 = .ok (.invokevirtual 37, 3) := by decide +kernel
theorem d_Content_isTagAround_142 : decode b_Content_isTagAround 142 = .ok (.ifCond .ne 5, 3) := by decide +kernel
theorem d_Content_isTagAround_145 : decode b_Content_isTagAround 145 = .ok (.iconst 1, 1) := by decide +kernel
theorem d_Content_isTagAround_146 : decode b_Content_isTagAround 146 = .ok (.ireturn, 1) := by decide +kernel
theorem d_Content_isTagAround_147 : decode b_Content_isTagAround 147 = .ok (.aload_n 0, 1) := by decide +kernel
theorem d_Content_isTagAround_148 : decode b_Content_isTagAround 148 = .ok (.getfield 27, 3) := by decide +kernel
theorem d_Content_isTagAround_151 : decode b_Content_isTagAround 151 = .ok (.getfield 199, 3) := by decide +kernel
theorem d_Content_isTagAround_154 : decode b_Content_isTagAround 154 = .ok (.ifCond .eq 15, 3) := by decide +kernel
theorem d_Content_isTagAround_157 : decode b_Content_isTagAround 157 = .ok (.aload_n 0, 1) := by decide +kernel
theorem d_Content_isTagAround_158 : decode b_Content_isTagAround 158 = .ok (.getfield 15, 3) := by decide +kernel
theorem d_Content_isTagAround_161 : decode b_Content_isTagAround 161 = .ok (.bipush 6, 2) := by decide +kernel
theorem d_Content_isTagAround_163 : decode b_Content_isTagAround 163 = .ok (.invokevirtual 108, 3) := by decide +kernel
theorem d_Content_isTagAround_166 : decode b_Content_isTagAround 166 = .ok (.goto 10, 3) := by decide +kernel
theorem d_Content_isTagAround_169 : decode b_Content_isTagAround 169 = .ok (.aload_n 0, 1) := by decide +kernel
theorem d_Content_isTagAround_170 : decode b_Content_isTagAround 170 = .ok (.getfield 27, 3) := by decide +kernel
theorem d_Content_isTagAround_173 : decode b_Content_isTagAround 173 = .ok (.invokevirtual 202, 3) := by decide +kernel
theorem d_Content_isTagAround_176 : decode b_Content_isTagAround 176 = .ok (.iconst 0, 1) := by decide +kernel
theorem d_Content_isTagAround_177 : decode b_Content_isTagAround 177 = .ok (.ireturn, 1) := by decide +kernel
/-- Content_isTagAround -/
def w_Content_isTagAround (L : Nat → Nat)  (Q : Int → IS → Prop) (σ : IS) : Prop := w_Reader_peek L  (fun v2 σ1 => w_Reader_isSpace L v2 (fun v4 σ3 => WJ (fun (s7 : Unit) (σ8 : IS) => Q 0 σ8) (fun J5 => if v4 = 0 then w_Reader_at L 1013 (fun v11 σ10 => if v11 = 0 then w_Reader_at L 1014 (fun v14 σ13 => if v14 = 0 then WJ (fun (s18 : Unit) (σ19 : IS) => w_Reader_fail L 6 (fun σ20 => J5 () σ20) σ19) (fun J16 => if (if 0 < (σ.1 6 2) then (1 : Int) else (0 : Int)) = 0 then w_Reader_peek L  (fun v24 σ23 => if v24 = 60 then w_Reader_at L 1015 (fun v27 σ26 => if v27 = 0 then w_Reader_at L 1016 (fun v30 σ29 => if v30 = 0 then w_Reader_at L 1017 (fun v33 σ32 => if v33 = 0 then Q 1 σ32 else if (σ32.1 5 5) = 0 then w_Doctype_readBegin L  (fun σ36 => J5 () σ36) σ32 else w_Reader_fail L 6 (fun σ38 => J5 () σ38) σ32) σ29 else J16 () σ29) σ26 else J16 () σ26) σ23 else J16 () σ23) σ13 else J16 () σ13) else w_Content_readInstruction L  (fun σ40 => J5 () σ40) σ13) σ10 else w_Reader_readComment L  (fun σ42 => J5 () σ42) σ10) σ3 else w_Reader_skipSpace L  (fun v45 σ44 => J5 () σ44) σ3)) σ1) σ
set_option maxHeartbeats 4000000 in
set_option maxRecDepth 20000 in
theorem s_Content_isTagAround {L : Nat → Nat} (hL : ∀ r, L r < 2147483648) {d : Nat} (hd : 5 ≤ d)  {Q : Int → IS → Prop} {σ : IS}  (h : w_Content_isTagAround L  Q σ) : OkI BF L d 7 b_Content_isTagAround 2 2 0 [] [some (.inr 7)] σ (qi Q) := by
  unfold w_Content_isTagAround at h
  obtain ⟨d, rfl⟩ : ∃ e, d = e + 1 := ⟨d - 1, by omega⟩
  refine k_sb (lv' := [some (.inr 7), none]) (sb_s (sb_e sb_nil)) ?_
  refine k_aload_n d_Content_isTagAround_0 rfl ?_
  refine k_getR d_Content_isTagAround_1 fl_7_31 ob_7 rfl ?_
  refine k_getI (x := (σ.1 6 2)) d_Content_isTagAround_4 fl_7_105 ob_6 rfl rfl ?_
  have hV46 : OkI BF L (d + 1) 7 b_Content_isTagAround 2 2 15 [.inl (if 0 < (σ.1 6 2) then (1 : Int) else (0 : Int))] [some (.inr 7), none] σ (qi Q) := by
    refine k_istore_n (lv' := [some (.inr 7), some (.inl (if 0 < (σ.1 6 2) then (1 : Int) else (0 : Int)))]) d_Content_isTagAround_15 rfl rfl ?_
    refine k_aload_n d_Content_isTagAround_16 rfl ?_
    refine k_getR d_Content_isTagAround_17 fl_7_15 ob_7 rfl ?_
    refine k_cvi [] d_Content_isTagAround_20 ml_7_145 rfl rfl ob_2 rfl (s_Reader_peek hL (by omega)  h) (fun v2 σ1 h => ?_)
    refine k_csi [.inl v2] d_Content_isTagAround_23 ml_7_56 (Or.inl rfl) rfl rfl rfl (s_Reader_isSpace hL (by omega)  h) (fun v4 σ3 h => ?_)
    refine k_join (S := Unit) (pc' := 176) (st' := fun s7 => []) (lv' := fun s7 => [none, none]) (fun s7 σ8 h => ?_) (fun J5 hJ6 h => ?_) h
    · refine k_iconst d_Content_isTagAround_176 cI_0 ?_
      exact k_iret d_Content_isTagAround_177 (Or.inr ⟨rfl, Or.inl rfl⟩) h
    · refine k_ifeq d_Content_isTagAround_26 rfl (fun c9 => ?_) (fun c9 => ?_)
      · have h := ipos c9 h
        refine k_aload_n d_Content_isTagAround_40 rfl ?_
        refine k_getR d_Content_isTagAround_41 fl_7_15 ob_7 rfl ?_
        refine k_ldc d_Content_isTagAround_44 ks_7_183 rfl ?_
        refine k_cvi [.inr 1013] d_Content_isTagAround_46 ml_7_37 rfl rfl ob_2 rfl (s_Reader_at hL (by omega) it_1013 h) (fun v11 σ10 h => ?_)
        refine k_ifeq d_Content_isTagAround_49 rfl (fun c12 => ?_) (fun c12 => ?_)
        · have h := ipos c12 h
          refine k_aload_n d_Content_isTagAround_62 rfl ?_
          refine k_getR d_Content_isTagAround_63 fl_7_15 ob_7 rfl ?_
          refine k_ldc d_Content_isTagAround_66 ks_7_188 rfl ?_
          refine k_cvi [.inr 1014] d_Content_isTagAround_68 ml_7_37 rfl rfl ob_2 rfl (s_Reader_at hL (by omega) it_1014 h) (fun v14 σ13 h => ?_)
          refine k_ifeq d_Content_isTagAround_71 rfl (fun c15 => ?_) (fun c15 => ?_)
          · have h := ipos c15 h
            refine k_iload_n d_Content_isTagAround_81 rfl ?_
            refine k_join (S := Unit) (pc' := 121) (st' := fun s18 => []) (lv' := fun s18 => [some (.inr 7), none]) (fun s18 σ19 h => ?_) (fun J16 hJ17 h => ?_) h
            · refine k_aload_n d_Content_isTagAround_121 rfl ?_
              refine k_getR d_Content_isTagAround_122 fl_7_15 ob_7 rfl ?_
              refine k_bipush d_Content_isTagAround_125 cB_6 ?_
              refine k_cvv [.inl 6] d_Content_isTagAround_127 ml_7_108 rfl rfl ob_2 rfl (s_Reader_fail hL (by omega)  h) (fun σ20 h => ?_)
              refine k_goto d_Content_isTagAround_130 rfl ?_
              exact k_sb (sb_n (sb_s sb_nil)) (hJ6 () _ h)
            · refine k_ifne d_Content_isTagAround_82 rfl (fun c22 => ?_) (fun c22 => ?_)
              · have h := ineg c22 h
                exact k_sb (sb_s (sb_n sb_nil)) (hJ17 () _ h)
              · have h := ipos c22 h
                refine k_aload_n d_Content_isTagAround_85 rfl ?_
                refine k_getR d_Content_isTagAround_86 fl_7_15 ob_7 rfl ?_
                refine k_cvi [] d_Content_isTagAround_89 ml_7_145 rfl rfl ob_2 rfl (s_Reader_peek hL (by omega)  h) (fun v24 σ23 h => ?_)
                refine k_bipush d_Content_isTagAround_92 cB_60 ?_
                refine k_icne d_Content_isTagAround_94 rfl (fun c25 => ?_) (fun c25 => ?_)
                · have h := ineg c25 h
                  exact k_sb (sb_s (sb_n sb_nil)) (hJ17 () _ h)
                · have h := ipos c25 h
                  refine k_aload_n d_Content_isTagAround_97 rfl ?_
                  refine k_getR d_Content_isTagAround_98 fl_7_15 ob_7 rfl ?_
                  refine k_ldc d_Content_isTagAround_101 ks_7_193 rfl ?_
                  refine k_cvi [.inr 1015] d_Content_isTagAround_103 ml_7_37 rfl rfl ob_2 rfl (s_Reader_at hL (by omega) it_1015 h) (fun v27 σ26 h => ?_)
                  refine k_ifne d_Content_isTagAround_106 rfl (fun c28 => ?_) (fun c28 => ?_)
                  · have h := ineg c28 h
                    exact k_sb (sb_s (sb_n sb_nil)) (hJ17 () _ h)
                  · have h := ipos c28 h
                    refine k_aload_n d_Content_isTagAround_109 rfl ?_
                    refine k_getR d_Content_isTagAround_110 fl_7_15 ob_7 rfl ?_
                    refine k_ldc d_Content_isTagAround_113 ks_7_195 rfl ?_
                    refine k_cvi [.inr 1016] d_Content_isTagAround_115 ml_7_37 rfl rfl ob_2 rfl (s_Reader_at hL (by omega) it_1016 h) (fun v30 σ29 h => ?_)
                    refine k_ifeq d_Content_isTagAround_118 rfl (fun c31 => ?_) (fun c31 => ?_)
                    · have h := ipos c31 h
                      refine k_aload_n d_Content_isTagAround_133 rfl ?_
                      refine k_getR d_Content_isTagAround_134 fl_7_15 ob_7 rfl ?_
                      refine k_ldc d_Content_isTagAround_137 ks_7_197 rfl ?_
                      refine k_cvi [.inr 1017] d_Content_isTagAround_139 ml_7_37 rfl rfl ob_2 rfl (s_Reader_at hL (by omega) it_1017 h) (fun v33 σ32 h => ?_)
                      refine k_ifne d_Content_isTagAround_142 rfl (fun c34 => ?_) (fun c34 => ?_)
                      · have h := ineg c34 h
                        refine k_aload_n d_Content_isTagAround_147 rfl ?_
                        refine k_getR d_Content_isTagAround_148 fl_7_27 ob_7 rfl ?_
                        refine k_getI (x := (σ32.1 5 5)) d_Content_isTagAround_151 fl_7_199 ob_5 rfl rfl ?_
                        refine k_ifeq d_Content_isTagAround_154 rfl (fun c35 => ?_) (fun c35 => ?_)
                        · have h := ipos c35 h
                          refine k_aload_n d_Content_isTagAround_169 rfl ?_
                          refine k_getR d_Content_isTagAround_170 fl_7_27 ob_7 rfl ?_
                          refine k_cvv [] d_Content_isTagAround_173 ml_7_202 rfl rfl ob_5 rfl (s_Doctype_readBegin hL (by omega)  h) (fun σ36 h => ?_)
                          exact k_sb (sb_n (sb_n sb_nil)) (hJ6 () _ h)
                        · have h := ineg c35 h
                          refine k_aload_n d_Content_isTagAround_157 rfl ?_
                          refine k_getR d_Content_isTagAround_158 fl_7_15 ob_7 rfl ?_
                          refine k_bipush d_Content_isTagAround_161 cB_6 ?_
                          refine k_cvv [.inl 6] d_Content_isTagAround_163 ml_7_108 rfl rfl ob_2 rfl (s_Reader_fail hL (by omega)  h) (fun σ38 h => ?_)
                          refine k_goto d_Content_isTagAround_166 rfl ?_
                          exact k_sb (sb_n (sb_n sb_nil)) (hJ6 () _ h)
                      · have h := ipos c34 h
                        refine k_iconst d_Content_isTagAround_145 cI_1 ?_
                        exact k_iret d_Content_isTagAround_146 (Or.inr ⟨rfl, Or.inr rfl⟩) h
                    · have h := ineg c31 h
                      exact k_sb (sb_s (sb_n sb_nil)) (hJ17 () _ h)
          · have h := ineg c15 h
            refine k_aload_n d_Content_isTagAround_74 rfl ?_
            refine k_cvv [] d_Content_isTagAround_75 ml_7_190 rfl rfl ob_7 rfl (s_Content_readInstruction hL (by omega)  h) (fun σ40 h => ?_)
            refine k_goto d_Content_isTagAround_78 rfl ?_
            exact k_sb (sb_n (sb_n sb_nil)) (hJ6 () _ h)
        · have h := ineg c12 h
          refine k_aload_n d_Content_isTagAround_52 rfl ?_
          refine k_getR d_Content_isTagAround_53 fl_7_15 ob_7 rfl ?_
          refine k_cvv [] d_Content_isTagAround_56 ml_7_185 rfl rfl ob_2 rfl (s_Reader_readComment hL (by omega)  h) (fun σ42 h => ?_)
          refine k_goto d_Content_isTagAround_59 rfl ?_
          exact k_sb (sb_n (sb_n sb_nil)) (hJ6 () _ h)
      · have h := ineg c9 h
        refine k_aload_n d_Content_isTagAround_29 rfl ?_
        refine k_getR d_Content_isTagAround_30 fl_7_15 ob_7 rfl ?_
        refine k_cvi [] d_Content_isTagAround_33 ml_7_140 rfl rfl ob_2 rfl (s_Reader_skipSpace hL (by omega)  h) (fun v45 σ44 h => ?_)
        refine k_pop d_Content_isTagAround_36 ?_
        refine k_goto d_Content_isTagAround_37 rfl ?_
        exact k_sb (sb_n (sb_n sb_nil)) (hJ6 () _ h)
  refine k_ifle d_Content_isTagAround_7 rfl (fun c47 => ?_) (fun c47 => ?_)
  · have hV49 := k_eqI (if_neg c47) hV46
    refine k_iconst d_Content_isTagAround_14 cI_0 ?_
    exact hV49
  · have hV48 := k_eqI (if_pos c47) hV46
    refine k_iconst d_Content_isTagAround_10 cI_1 ?_
    refine k_goto d_Content_isTagAround_11 rfl ?_
    exact hV48
theorem d_Store_newMark_0 : decode b_Store_newMark 0 = .ok (.aload_n 0, 1) := by decide +kernel
theorem d_Store_newMark_1 : decode b_Store_newMark 1 = .ok (.dup, 1) := by decide +kernel
theorem d_Store_newMark_2 : decode b_Store_newMark 2 = .ok (.getfield 159, 3) := by decide +kernel
theorem d_Store_newMark_5 : decode b_Store_newMark 5 = .ok (.iconst 1, 1) := by decide +kernel
theorem d_Store_newMark_6 : decode b_Store_newMark 6 = .ok (.iadd, 1) := by decide +kernel
theorem d_Store_newMark_7 : decode b_Store_newMark 7 = .ok (.putfield 159, 3) := by decide +kernel
theorem d_Store_newMark_10 : decode b_Store_newMark 10 = .ok (.aload_n 0, 1) := by decide +kernel
theorem d_Store_newMark_11 : decode b_Store_newMark 11 = .ok (.getfield 159, 3) := by decide +kernel
theorem d_Store_newMark_14 : decode b_Store_newMark 14 = .ok (.ireturn, 1) := by decide +kernel
/-- Store_newMark -/
def w_Store_newMark (L : Nat → Nat)  (Q : Int → IS → Prop) (σ : IS) : Prop := inR ((σ.1 1 16) + 1) ∧ Q ((σ.1 1 16) + 1) (pf σ 1 16 ((σ.1 1 16) + 1))
set_option maxHeartbeats 4000000 in
set_option maxRecDepth 20000 in
theorem s_Store_newMark {L : Nat → Nat} (hL : ∀ r, L r < 2147483648) {d : Nat} (hd : 0 ≤ d)  {Q : Int → IS → Prop} {σ : IS}  (h : w_Store_newMark L  Q σ) : OkI BF L d 1 b_Store_newMark 1 1 0 [] [some (.inr 1)] σ (qi Q) := by
  unfold w_Store_newMark at h
  refine k_sb (lv' := [some (.inr 1)]) (sb_s sb_nil) ?_
  refine k_aload_n d_Store_newMark_0 rfl ?_
  refine k_dup d_Store_newMark_1 ?_
  refine k_getI (x := (σ.1 1 16)) d_Store_newMark_2 fl_1_159 ob_1 rfl rfl ?_
  refine k_iconst d_Store_newMark_5 cI_1 ?_
  obtain ⟨p1, h⟩ := h
  refine k_iadd d_Store_newMark_6 p1 ?_
  refine k_putI d_Store_newMark_7 fl_1_159 ob_1 rfl ?_
  refine k_aload_n d_Store_newMark_10 rfl ?_
  refine k_getI (x := ((σ.1 1 16) + 1)) d_Store_newMark_11 fl_1_159 ob_1 rfl rfl ?_
  exact k_iret d_Store_newMark_14 (Or.inl rfl) h
theorem d_Tree_beginElement_0 : decode b_Tree_beginElement 0 = .ok (.aload_n 0, 1) := by decide +kernel
theorem d_Tree_beginElement_1 : decode b_Tree_beginElement 1 = .ok (.iconst 1, 1) := by decide +kernel
theorem d_Tree_beginElement_2 : decode b_Tree_beginElement 2 = .ok (.invokevirtual 64, 3) := by decide +kernel
theorem d_Tree_beginElement_5 : decode b_Tree_beginElement 5 = .ok (.aload_n 0, 1) := by decide +kernel
theorem d_Tree_beginElement_6 : decode b_Tree_beginElement 6 = .ok (.dup, 1) := by decide +kernel
theorem d_Tree_beginElement_7 : decode b_Tree_beginElement 7 = .ok (.getfield 49, 3) := by decide +kernel
theorem d_Tree_beginElement_10 : decode b_Tree_beginElement 10 = .ok (.iconst 1, 1) := by decide +kernel
theorem d_Tree_beginElement_11 : decode b_Tree_beginElement 11 = .ok (.iadd, 1) := by decide +kernel
theorem d_Tree_beginElement_12 : decode b_Tree_beginElement 12 = .ok (.putfield 49, 3) := by decide +kernel
theorem d_Tree_beginElement_15 : decode b_Tree_beginElement 15 = .ok (.aload_n 0, 1) := by decide +kernel
theorem d_Tree_beginElement_16 : decode b_Tree_beginElement 16 = .ok (.getfield 52, 3) := by decide +kernel
theorem d_Tree_beginElement_19 : decode b_Tree_beginElement 19 = .ok (.aload_n 0, 1) := by decide +kernel
theorem d_Tree_beginElement_20 : decode b_Tree_beginElement 20 = .ok (.getfield 9, 3) := by decide +kernel
theorem d_Tree_beginElement_23 : decode b_Tree_beginElement 23 = .ok (.if_icmp .ge 98, 3) := by decide +kernel
theorem d_Tree_beginElement_26 : decode b_Tree_beginElement 26 = .ok (.aload_n 0, 1) := by decide +kernel
theorem d_Tree_beginElement_27 : decode b_Tree_beginElement 27 = .ok (.getfield 15, 3) := by decide +kernel
theorem d_Tree_beginElement_30 : decode b_Tree_beginElement 30 = .ok (.aload_n 0, 1) := by decide +kernel
theorem d_Tree_beginElement_31 : decode b_Tree_beginElement 31 = .ok (.getfield 52, 3) := by decide +kernel
theorem d_Tree_beginElement_34 : decode b_Tree_beginElement 34 = .ok (.iload_n 1, 1) := by decide +kernel
theorem d_Tree_beginElement_35 : decode b_Tree_beginElement 35 = .ok (.iastore, 1) := by decide +kernel
theorem d_Tree_beginElement_36 : decode b_Tree_beginElement 36 = .ok (.aload_n 0, 1) := by decide +kernel
theorem d_Tree_beginElement_37 : decode b_Tree_beginElement 37 = .ok (.getfield 19, 3) := by decide +kernel
theorem d_Tree_beginElement_40 : decode b_Tree_beginElement 40 = .ok (.aload_n 0, 1) := by decide +kernel
theorem d_Tree_beginElement_41 : decode b_Tree_beginElement 41 = .ok (.getfield 52, 3) := by decide +kernel
theorem d_Tree_beginElement_44 : decode b_Tree_beginElement 44 = .ok (.aload_n 0, 1) := by decide +kernel
theorem d_Tree_beginElement_45 : decode b_Tree_beginElement 45 = .ok (.getfield 46, 3) := by decide +kernel
theorem d_Tree_beginElement_48 : decode b_Tree_beginElement 48 = .ok (.iastore, 1) := by decide +kernel
theorem d_Tree_beginElement_49 : decode b_Tree_beginElement 49 = .ok (.aload_n 0, 1) := by decide +kernel
theorem d_Tree_beginElement_50 : decode b_Tree_beginElement 50 = .ok (.getfield 22, 3) := by decide +kernel
theorem d_Tree_beginElement_53 : decode b_Tree_beginElement 53 = .ok (.aload_n 0, 1) := by decide +kernel
theorem d_Tree_beginElement_54 : decode b_Tree_beginElement 54 = .ok (.getfield 52, 3) := by decide +kernel
theorem d_Tree_beginElement_57 : decode b_Tree_beginElement 57 = .ok (.aload_n 0, 1) := by decide +kernel
theorem d_Tree_beginElement_58 : decode b_Tree_beginElement 58 = .ok (.getfield 55, 3) := by decide +kernel
theorem d_Tree_beginElement_61 : decode b_Tree_beginElement 61 = .ok (.iastore, 1) := by decide +kernel
theorem d_Tree_beginElement_62 : decode b_Tree_beginElement 62 = .ok (.aload_n 0, 1) := by decide +kernel
theorem d_Tree_beginElement_63 : decode b_Tree_beginElement 63 = .ok (.getfield 25, 3) := by decide +kernel
theorem d_Tree_beginElement_66 : decode b_Tree_beginElement 66 = .ok (.aload_n 0, 1) := by decide +kernel
theorem d_Tree_beginElement_67 : decode b_Tree_beginElement 67 = .ok (.getfield 52, 3) := by decide +kernel
theorem d_Tree_beginElement_70 : decode b_Tree_beginElement 70 = .ok (.iconst 0, 1) := by decide +kernel
theorem d_Tree_beginElement_71 : decode b_Tree_beginElement 71 = .ok (.iastore, 1) := by decide +kernel
theorem d_Tree_beginElement_72 : decode b_Tree_beginElement 72 = .ok (.aload_n 0, 1) := by decide +kernel
theorem d_Tree_beginElement_73 : decode b_Tree_beginElement 73 = .ok (.getfield 28, 3) := by decide +kernel
theorem d_Tree_beginElement_76 : decode b_Tree_beginElement 76 = .ok (.aload_n 0, 1) := by decide +kernel
theorem d_Tree_beginElement_77 : decode b_Tree_beginElement 77 = .ok (.getfield 52, 3) := by decide +kernel
theorem d_Tree_beginElement_80 : decode b_Tree_beginElement 80 = .ok (.iconst 0, 1) := by decide +kernel
theorem d_Tree_beginElement_81 : decode b_Tree_beginElement 81 = .ok (.iastore, 1) := by decide +kernel
theorem d_Tree_beginElement_82 : decode b_Tree_beginElement 82 = .ok (.aload_n 0, 1) := by decide +kernel
theorem d_Tree_beginElement_83 : decode b_Tree_beginElement 83 = .ok (.getfield 31, 3) := by decide +kernel
theorem d_Tree_beginElement_86 : decode b_Tree_beginElement 86 = .ok (.aload_n 0, 1) := by decide +kernel
theorem d_Tree_beginElement_87 : decode b_Tree_beginElement 87 = .ok (.getfield 52, 3) := by decide +kernel
theorem d_Tree_beginElement_90 : decode b_Tree_beginElement 90 = .ok (.iconst 0, 1) := by decide +kernel
theorem d_Tree_beginElement_91 : decode b_Tree_beginElement 91 = .ok (.iastore, 1) := by decide +kernel
theorem d_Tree_beginElement_92 : decode b_Tree_beginElement 92 = .ok (.aload_n 0, 1) := by decide +kernel
theorem d_Tree_beginElement_93 : decode b_Tree_beginElement 93 = .ok (.bipush (-3), 2) := by decide +kernel
theorem d_Tree_beginElement_95 : decode b_Tree_beginElement 95 = .ok (.aload_n 0, 1) := by decide +kernel
theorem d_Tree_beginElement_96 : decode b_Tree_beginElement 96 = .ok (.getfield 52, 3) := by decide +kernel
theorem d_Tree_beginElement_99 : decode b_Tree_beginElement 99 = .ok (.isub, 1) := by decide +kernel
theorem d_Tree_beginElement_100 : decode b_Tree_beginElement 100 = .ok (.invokevirtual 68, 3) := by decide +kernel
theorem d_Tree_beginElement_103 : decode b_Tree_beginElement 103 = .ok (.aload_n 0, 1) := by decide +kernel
theorem d_Tree_beginElement_104 : decode b_Tree_beginElement 104 = .ok (.aload_n 0, 1) := by decide +kernel
theorem d_Tree_beginElement_105 : decode b_Tree_beginElement 105 = .ok (.getfield 52, 3) := by decide +kernel
theorem d_Tree_beginElement_108 : decode b_Tree_beginElement 108 = .ok (.putfield 46, 3) := by decide +kernel
theorem d_Tree_beginElement_111 : decode b_Tree_beginElement 111 = .ok (.aload_n 0, 1) := by decide +kernel
theorem d_Tree_beginElement_112 : decode b_Tree_beginElement 112 = .ok (.dup, 1) := by decide +kernel
theorem d_Tree_beginElement_113 : decode b_Tree_beginElement 113 = .ok (.getfield 52, 3) := by decide +kernel
theorem d_Tree_beginElement_116 : decode b_Tree_beginElement 116 = .ok (.iconst 1, 1) := by decide +kernel
theorem d_Tree_beginElement_117 : decode b_Tree_beginElement 117 = .ok (.iadd, 1) := by decide +kernel
theorem d_Tree_beginElement_118 : decode b_Tree_beginElement 118 = .ok (.putfield 52, 3) := by decide +kernel
theorem d_Tree_beginElement_121 : decode b_Tree_beginElement 121 = .ok (.return_, 1) := by decide +kernel
/-- Tree_beginElement -/
def w_Tree_beginElement (L : Nat → Nat) (a1 : Int) (Q : IS → Prop) (σ : IS) : Prop := w_Tree_note L 1 (fun σ1 => inR ((σ1.1 6 1) + 1) ∧ WJ (fun (s5 : Unit) (σ6 : IS) => Q σ6) (fun J3 => if (σ1.1 6 2) < (σ1.1 6 0) then inL L 146 (σ1.1 6 2) ∧ inL L 129 (σ1.1 6 2) ∧ inL L 130 (σ1.1 6 2) ∧ inL L 131 (σ1.1 6 2) ∧ inL L 132 (σ1.1 6 2) ∧ inL L 133 (σ1.1 6 2) ∧ inR ((-3) - (σ1.1 6 2)) ∧ w_Tree_put L ((-3) - (σ1.1 6 2)) (fun σ8 => inR ((σ8.1 6 2) + 1) ∧ J3 () (pf (pf σ8 6 3 (σ8.1 6 2)) 6 2 ((σ8.1 6 2) + 1))) (pr (pr (pr (pr (pr (pr (pf σ1 6 1 ((σ1.1 6 1) + 1)) 146 (Int.toNat (σ1.1 6 2)) a1) 129 (Int.toNat (σ1.1 6 2)) (σ1.1 6 3)) 130 (Int.toNat (σ1.1 6 2)) (σ1.1 6 10)) 131 (Int.toNat (σ1.1 6 2)) 0) 132 (Int.toNat (σ1.1 6 2)) 0) 133 (Int.toNat (σ1.1 6 2)) 0) else J3 () (pf σ1 6 1 ((σ1.1 6 1) + 1)))) σ
set_option maxHeartbeats 4000000 in
set_option maxRecDepth 20000 in
theorem s_Tree_beginElement {L : Nat → Nat} (hL : ∀ r, L r < 2147483648) {d : Nat} (hd : 1 ≤ d) {a1 : Int} {Q : IS → Prop} {σ : IS}  (h : w_Tree_beginElement L a1 Q σ) : OkI BF L d 6 b_Tree_beginElement 2 0 0 [] [some (.inr 6), some (.inl a1)] σ (qv Q) := by
  unfold w_Tree_beginElement at h
  obtain ⟨d, rfl⟩ : ∃ e, d = e + 1 := ⟨d - 1, by omega⟩
  refine k_sb (lv' := [some (.inr 6), some (.inl a1)]) (sb_s (sb_s sb_nil)) ?_
  refine k_aload_n d_Tree_beginElement_0 rfl ?_
  refine k_iconst d_Tree_beginElement_1 cI_1 ?_
  refine k_cvv [.inl 1] d_Tree_beginElement_2 ml_6_64 rfl rfl ob_6 rfl (s_Tree_note hL (by omega)  h) (fun σ1 h => ?_)
  refine k_aload_n d_Tree_beginElement_5 rfl ?_
  refine k_dup d_Tree_beginElement_6 ?_
  refine k_getI (x := (σ1.1 6 1)) d_Tree_beginElement_7 fl_6_49 ob_6 rfl rfl ?_
  refine k_iconst d_Tree_beginElement_10 cI_1 ?_
  obtain ⟨p18, h⟩ := h
  refine k_iadd d_Tree_beginElement_11 p18 ?_
  refine k_putI d_Tree_beginElement_12 fl_6_49 ob_6 rfl ?_
  refine k_aload_n d_Tree_beginElement_15 rfl ?_
  refine k_getI (x := (σ1.1 6 2)) d_Tree_beginElement_16 fl_6_52 ob_6 rfl rfl ?_
  refine k_aload_n d_Tree_beginElement_19 rfl ?_
  refine k_getI (x := (σ1.1 6 0)) d_Tree_beginElement_20 fl_6_9 ob_6 rfl rfl ?_
  refine k_join (S := Unit) (pc' := 121) (st' := fun s5 => []) (lv' := fun s5 => [none, none]) (fun s5 σ6 h => ?_) (fun J3 hJ4 h => ?_) h
  · exact k_ret d_Tree_beginElement_121 h
  · refine k_icge d_Tree_beginElement_23 rfl (fun c7 => ?_) (fun c7 => ?_)
    · have h := ineg c7 h
      exact k_sb (sb_n (sb_n sb_nil)) (hJ4 () _ h)
    · have h := ipos c7 h
      refine k_aload_n d_Tree_beginElement_26 rfl ?_
      refine k_getR d_Tree_beginElement_27 fl_6_15 ob_6 rfl ?_
      refine k_aload_n d_Tree_beginElement_30 rfl ?_
      refine k_getI (x := (σ1.1 6 2)) d_Tree_beginElement_31 fl_6_52 ob_6 rfl rfl ?_
      refine k_iload_n d_Tree_beginElement_34 rfl ?_
      obtain ⟨p17, h⟩ := h
      refine k_ist d_Tree_beginElement_35 rI_146 p17 ?_
      refine k_aload_n d_Tree_beginElement_36 rfl ?_
      refine k_getR d_Tree_beginElement_37 fl_6_19 ob_6 rfl ?_
      refine k_aload_n d_Tree_beginElement_40 rfl ?_
      refine k_getI (x := (σ1.1 6 2)) d_Tree_beginElement_41 fl_6_52 ob_6 rfl rfl ?_
      refine k_aload_n d_Tree_beginElement_44 rfl ?_
      refine k_getI (x := (σ1.1 6 3)) d_Tree_beginElement_45 fl_6_46 ob_6 rfl rfl ?_
      obtain ⟨p16, h⟩ := h
      refine k_ist d_Tree_beginElement_48 rI_129 p16 ?_
      refine k_aload_n d_Tree_beginElement_49 rfl ?_
      refine k_getR d_Tree_beginElement_50 fl_6_22 ob_6 rfl ?_
      refine k_aload_n d_Tree_beginElement_53 rfl ?_
      refine k_getI (x := (σ1.1 6 2)) d_Tree_beginElement_54 fl_6_52 ob_6 rfl rfl ?_
      refine k_aload_n d_Tree_beginElement_57 rfl ?_
      refine k_getI (x := (σ1.1 6 10)) d_Tree_beginElement_58 fl_6_55 ob_6 rfl rfl ?_
      obtain ⟨p15, h⟩ := h
      refine k_ist d_Tree_beginElement_61 rI_130 p15 ?_
      refine k_aload_n d_Tree_beginElement_62 rfl ?_
      refine k_getR d_Tree_beginElement_63 fl_6_25 ob_6 rfl ?_
      refine k_aload_n d_Tree_beginElement_66 rfl ?_
      refine k_getI (x := (σ1.1 6 2)) d_Tree_beginElement_67 fl_6_52 ob_6 rfl rfl ?_
      refine k_iconst d_Tree_beginElement_70 cI_0 ?_
      obtain ⟨p14, h⟩ := h
      refine k_ist d_Tree_beginElement_71 rI_131 p14 ?_
      refine k_aload_n d_Tree_beginElement_72 rfl ?_
      refine k_getR d_Tree_beginElement_73 fl_6_28 ob_6 rfl ?_
      refine k_aload_n d_Tree_beginElement_76 rfl ?_
      refine k_getI (x := (σ1.1 6 2)) d_Tree_beginElement_77 fl_6_52 ob_6 rfl rfl ?_
      refine k_iconst d_Tree_beginElement_80 cI_0 ?_
      obtain ⟨p13, h⟩ := h
      refine k_ist d_Tree_beginElement_81 rI_132 p13 ?_
      refine k_aload_n d_Tree_beginElement_82 rfl ?_
      refine k_getR d_Tree_beginElement_83 fl_6_31 ob_6 rfl ?_
      refine k_aload_n d_Tree_beginElement_86 rfl ?_
      refine k_getI (x := (σ1.1 6 2)) d_Tree_beginElement_87 fl_6_52 ob_6 rfl rfl ?_
      refine k_iconst d_Tree_beginElement_90 cI_0 ?_
      obtain ⟨p12, h⟩ := h
      refine k_ist d_Tree_beginElement_91 rI_133 p12 ?_
      refine k_aload_n d_Tree_beginElement_92 rfl ?_
      refine k_bipush d_Tree_beginElement_93 cB_m3 ?_
      refine k_aload_n d_Tree_beginElement_95 rfl ?_
      refine k_getI (x := (σ1.1 6 2)) d_Tree_beginElement_96 fl_6_52 ob_6 rfl rfl ?_
      obtain ⟨p11, h⟩ := h
      refine k_isub d_Tree_beginElement_99 p11 ?_
      refine k_cvv [.inl ((-3) - (σ1.1 6 2))] d_Tree_beginElement_100 ml_6_68 rfl rfl ob_6 rfl (s_Tree_put hL (by omega)  h) (fun σ8 h => ?_)
      refine k_aload_n d_Tree_beginElement_103 rfl ?_
      refine k_aload_n d_Tree_beginElement_104 rfl ?_
      refine k_getI (x := (σ8.1 6 2)) d_Tree_beginElement_105 fl_6_52 ob_6 rfl rfl ?_
      refine k_putI d_Tree_beginElement_108 fl_6_46 ob_6 rfl ?_
      refine k_aload_n d_Tree_beginElement_111 rfl ?_
      refine k_dup d_Tree_beginElement_112 ?_
      refine k_getI (x := (σ8.1 6 2)) d_Tree_beginElement_113 fl_6_52 ob_6 rfl rfl ?_
      refine k_iconst d_Tree_beginElement_116 cI_1 ?_
      obtain ⟨p10, h⟩ := h
      refine k_iadd d_Tree_beginElement_117 p10 ?_
      refine k_putI d_Tree_beginElement_118 fl_6_52 ob_6 rfl ?_
      exact k_sb (sb_n (sb_n sb_nil)) (hJ4 () _ h)
theorem d_Tree_addAttribute_0 : decode b_Tree_addAttribute 0 = .ok (.aload_n 0, 1) := by decide +kernel
theorem d_Tree_addAttribute_1 : decode b_Tree_addAttribute 1 = .ok (.dup, 1) := by decide +kernel
theorem d_Tree_addAttribute_2 : decode b_Tree_addAttribute 2 = .ok (.getfield 49, 3) := by decide +kernel
theorem d_Tree_addAttribute_5 : decode b_Tree_addAttribute 5 = .ok (.iconst 1, 1) := by decide +kernel
theorem d_Tree_addAttribute_6 : decode b_Tree_addAttribute 6 = .ok (.iadd, 1) := by decide +kernel
theorem d_Tree_addAttribute_7 : decode b_Tree_addAttribute 7 = .ok (.putfield 49, 3) := by decide +kernel
theorem d_Tree_addAttribute_10 : decode b_Tree_addAttribute 10 = .ok (.aload_n 0, 1) := by decide +kernel
theorem d_Tree_addAttribute_11 : decode b_Tree_addAttribute 11 = .ok (.getfield 55, 3) := by decide +kernel
theorem d_Tree_addAttribute_14 : decode b_Tree_addAttribute 14 = .ok (.aload_n 0, 1) := by decide +kernel
theorem d_Tree_addAttribute_15 : decode b_Tree_addAttribute 15 = .ok (.getfield 9, 3) := by decide +kernel
theorem d_Tree_addAttribute_18 : decode b_Tree_addAttribute 18 = .ok (.if_icmp .ge 82, 3) := by decide +kernel
theorem d_Tree_addAttribute_21 : decode b_Tree_addAttribute 21 = .ok (.aload_n 0, 1) := by decide +kernel
theorem d_Tree_addAttribute_22 : decode b_Tree_addAttribute 22 = .ok (.getfield 46, 3) := by decide +kernel
theorem d_Tree_addAttribute_25 : decode b_Tree_addAttribute 25 = .ok (.iconst (-1), 1) := by decide +kernel
theorem d_Tree_addAttribute_26 : decode b_Tree_addAttribute 26 = .ok (.if_icmp .eq 74, 3) := by decide +kernel
theorem d_Tree_addAttribute_29 : decode b_Tree_addAttribute 29 = .ok (.aload_n 0, 1) := by decide +kernel
theorem d_Tree_addAttribute_30 : decode b_Tree_addAttribute 30 = .ok (.getfield 34, 3) := by decide +kernel
theorem d_Tree_addAttribute_33 : decode b_Tree_addAttribute 33 = .ok (.aload_n 0, 1) := by decide +kernel
theorem d_Tree_addAttribute_34 : decode b_Tree_addAttribute 34 = .ok (.getfield 55, 3) := by decide +kernel
theorem d_Tree_addAttribute_37 : decode b_Tree_addAttribute 37 = .ok (.iload_n 1, 1) := by decide +kernel
theorem d_Tree_addAttribute_38 : decode b_Tree_addAttribute 38 = .ok (.iastore, 1) := by decide +kernel
theorem d_Tree_addAttribute_39 : decode b_Tree_addAttribute 39 = .ok (.aload_n 0, 1) := by decide +kernel
theorem d_Tree_addAttribute_40 : decode b_Tree_addAttribute 40 = .ok (.getfield 37, 3) := by decide +kernel
theorem d_Tree_addAttribute_43 : decode b_Tree_addAttribute 43 = .ok (.aload_n 0, 1) := by decide +kernel
theorem d_Tree_addAttribute_44 : decode b_Tree_addAttribute 44 = .ok (.getfield 55, 3) := by decide +kernel
theorem d_Tree_addAttribute_47 : decode b_Tree_addAttribute 47 = .ok (.iload_n 2, 1) := by decide +kernel
theorem d_Tree_addAttribute_48 : decode b_Tree_addAttribute 48 = .ok (.iastore, 1) := by decide +kernel
theorem d_Tree_addAttribute_49 : decode b_Tree_addAttribute 49 = .ok (.aload_n 0, 1) := by decide +kernel
theorem d_Tree_addAttribute_50 : decode b_Tree_addAttribute 50 = .ok (.getfield 40, 3) := by decide +kernel
theorem d_Tree_addAttribute_53 : decode b_Tree_addAttribute 53 = .ok (.aload_n 0, 1) := by decide +kernel
theorem d_Tree_addAttribute_54 : decode b_Tree_addAttribute 54 = .ok (.getfield 55, 3) := by decide +kernel
theorem d_Tree_addAttribute_57 : decode b_Tree_addAttribute 57 = .ok (.iload_n 3, 1) := by decide +kernel
theorem d_Tree_addAttribute_58 : decode b_Tree_addAttribute 58 = .ok (.iastore, 1) := by decide +kernel
theorem d_Tree_addAttribute_59 : decode b_Tree_addAttribute 59 = .ok (.aload_n 0, 1) := by decide +kernel
theorem d_Tree_addAttribute_60 : decode b_Tree_addAttribute 60 = .ok (.dup, 1) := by decide +kernel
theorem d_Tree_addAttribute_61 : decode b_Tree_addAttribute 61 = .ok (.getfield 55, 3) := by decide +kernel
theorem d_Tree_addAttribute_64 : decode b_Tree_addAttribute 64 = .ok (.iconst 1, 1) := by decide +kernel
theorem d_Tree_addAttribute_65 : decode b_Tree_addAttribute 65 = .ok (.iadd, 1) := by decide +kernel
theorem d_Tree_addAttribute_66 : decode b_Tree_addAttribute 66 = .ok (.putfield 55, 3) := by decide +kernel
theorem d_Tree_addAttribute_69 : decode b_Tree_addAttribute 69 = .ok (.aload_n 0, 1) := by decide +kernel
theorem d_Tree_addAttribute_70 : decode b_Tree_addAttribute 70 = .ok (.getfield 25, 3) := by decide +kernel
theorem d_Tree_addAttribute_73 : decode b_Tree_addAttribute 73 = .ok (.aload_n 0, 1) := by decide +kernel
theorem d_Tree_addAttribute_74 : decode b_Tree_addAttribute 74 = .ok (.getfield 46, 3) := by decide +kernel
theorem d_Tree_addAttribute_77 : decode b_Tree_addAttribute 77 = .ok (.dup2, 1) := by decide +kernel
theorem d_Tree_addAttribute_78 : decode b_Tree_addAttribute 78 = .ok (.iaload, 1) := by decide +kernel
theorem d_Tree_addAttribute_79 : decode b_Tree_addAttribute 79 = .ok (.iconst 1, 1) := by decide +kernel
theorem d_Tree_addAttribute_80 : decode b_Tree_addAttribute 80 = .ok (.iadd, 1) := by decide +kernel
theorem d_Tree_addAttribute_81 : decode b_Tree_addAttribute 81 = .ok (.iastore, 1) := by decide +kernel
theorem d_Tree_addAttribute_82 : decode b_Tree_addAttribute 82 = .ok (.iload 4, 2) := by decide +kernel
theorem d_Tree_addAttribute_84 : decode b_Tree_addAttribute 84 = .ok (.ifCond .eq 16, 3) := by decide +kernel
theorem d_Tree_addAttribute_87 : decode b_Tree_addAttribute 87 = .ok (.aload_n 0, 1) := by decide +kernel
theorem d_Tree_addAttribute_88 : decode b_Tree_addAttribute 88 = .ok (.getfield 28, 3) := by decide +kernel
theorem d_Tree_addAttribute_91 : decode b_Tree_addAttribute 91 = .ok (.aload_n 0, 1) := by decide +kernel
theorem d_Tree_addAttribute_92 : decode b_Tree_addAttribute 92 = .ok (.getfield 46, 3) := by decide +kernel
theorem d_Tree_addAttribute_95 : decode b_Tree_addAttribute 95 = .ok (.dup2, 1) := by decide +kernel
theorem d_Tree_addAttribute_96 : decode b_Tree_addAttribute 96 = .ok (.iaload, 1) := by decide +kernel
theorem d_Tree_addAttribute_97 : decode b_Tree_addAttribute 97 = .ok (.iconst 1, 1) := by decide +kernel
theorem d_Tree_addAttribute_98 : decode b_Tree_addAttribute 98 = .ok (.iadd, 1) := by decide +kernel
theorem d_Tree_addAttribute_99 : decode b_Tree_addAttribute 99 = .ok (.iastore, 1) := by decide +kernel
theorem d_Tree_addAttribute_100 : decode b_Tree_addAttribute 100 = .ok (.return_, 1) := by decide +kernel
/-- Tree_addAttribute -/
def w_Tree_addAttribute (L : Nat → Nat) (a1 : Int) (a2 : Int) (a3 : Int) (a4 : Int) (Q : IS → Prop) (σ : IS) : Prop := inR ((σ.1 6 1) + 1) ∧ WJ (fun (s3 : Unit) (σ4 : IS) => Q σ4) (fun J1 => if (σ.1 6 10) < (σ.1 6 0) ∧ (¬ (σ.1 6 3) = (-1)) then inL L 161 (σ.1 6 10) ∧ inL L 134 (σ.1 6 10) ∧ inL L 135 (σ.1 6 10) ∧ inR ((σ.1 6 10) + 1) ∧ inL L 131 (σ.1 6 3) ∧ inR ((σ.2 131 (Int.toNat (σ.1 6 3))) + 1) ∧ inL L 131 (σ.1 6 3) ∧ if a4 = 0 then J1 () (pr (pf (pr (pr (pr (pf σ 6 1 ((σ.1 6 1) + 1)) 161 (Int.toNat (σ.1 6 10)) a1) 134 (Int.toNat (σ.1 6 10)) a2) 135 (Int.toNat (σ.1 6 10)) a3) 6 10 ((σ.1 6 10) + 1)) 131 (Int.toNat (σ.1 6 3)) ((σ.2 131 (Int.toNat (σ.1 6 3))) + 1)) else inL L 132 (σ.1 6 3) ∧ inR ((σ.2 132 (Int.toNat (σ.1 6 3))) + 1) ∧ inL L 132 (σ.1 6 3) ∧ J1 () (pr (pr (pf (pr (pr (pr (pf σ 6 1 ((σ.1 6 1) + 1)) 161 (Int.toNat (σ.1 6 10)) a1) 134 (Int.toNat (σ.1 6 10)) a2) 135 (Int.toNat (σ.1 6 10)) a3) 6 10 ((σ.1 6 10) + 1)) 131 (Int.toNat (σ.1 6 3)) ((σ.2 131 (Int.toNat (σ.1 6 3))) + 1)) 132 (Int.toNat (σ.1 6 3)) ((σ.2 132 (Int.toNat (σ.1 6 3))) + 1)) else J1 () (pf σ 6 1 ((σ.1 6 1) + 1)))
set_option maxHeartbeats 4000000 in
set_option maxRecDepth 20000 in
theorem s_Tree_addAttribute {L : Nat → Nat} (hL : ∀ r, L r < 2147483648) {d : Nat} (hd : 0 ≤ d) {a1 : Int} {a2 : Int} {a3 : Int} {a4 : Int} {Q : IS → Prop} {σ : IS}  (h : w_Tree_addAttribute L a1 a2 a3 a4 Q σ) : OkI BF L d 6 b_Tree_addAttribute 5 0 0 [] [some (.inr 6), some (.inl a1), some (.inl a2), some (.inl a3), some (.inl a4)] σ (qv Q) := by
  unfold w_Tree_addAttribute at h
  refine k_sb (lv' := [some (.inr 6), some (.inl a1), some (.inl a2), some (.inl a3), some (.inl a4)]) (sb_s (sb_s (sb_s (sb_s (sb_s sb_nil))))) ?_
  refine k_aload_n d_Tree_addAttribute_0 rfl ?_
  refine k_dup d_Tree_addAttribute_1 ?_
  refine k_getI (x := (σ.1 6 1)) d_Tree_addAttribute_2 fl_6_49 ob_6 rfl rfl ?_
  refine k_iconst d_Tree_addAttribute_5 cI_1 ?_
  obtain ⟨p21, h⟩ := h
  refine k_iadd d_Tree_addAttribute_6 p21 ?_
  refine k_putI d_Tree_addAttribute_7 fl_6_49 ob_6 rfl ?_
  refine k_aload_n d_Tree_addAttribute_10 rfl ?_
  refine k_getI (x := (σ.1 6 10)) d_Tree_addAttribute_11 fl_6_55 ob_6 rfl rfl ?_
  refine k_aload_n d_Tree_addAttribute_14 rfl ?_
  refine k_getI (x := (σ.1 6 0)) d_Tree_addAttribute_15 fl_6_9 ob_6 rfl rfl ?_
  refine k_join (S := Unit) (pc' := 100) (st' := fun s3 => []) (lv' := fun s3 => [none, none, none, none, none]) (fun s3 σ4 h => ?_) (fun J1 hJ2 h => ?_) h
  · exact k_ret d_Tree_addAttribute_100 h
  · have hX16 : ((σ.1 6 10) < (σ.1 6 0) ∧ (¬ (σ.1 6 3) = (-1))) → OkI BF L d 6 b_Tree_addAttribute 5 0 29 [] [some (.inr 6), some (.inl a1), some (.inl a2), some (.inl a3), some (.inl a4)] (pf σ 6 1 ((σ.1 6 1) + 1)) (qv Q) := fun e18 => by
      have h := ipos e18 h
      refine k_aload_n d_Tree_addAttribute_29 rfl ?_
      refine k_getR d_Tree_addAttribute_30 fl_6_34 ob_6 rfl ?_
      refine k_aload_n d_Tree_addAttribute_33 rfl ?_
      refine k_getI (x := (σ.1 6 10)) d_Tree_addAttribute_34 fl_6_55 ob_6 rfl rfl ?_
      refine k_iload_n d_Tree_addAttribute_37 rfl ?_
      obtain ⟨p15, h⟩ := h
      refine k_ist d_Tree_addAttribute_38 rI_161 p15 ?_
      refine k_aload_n d_Tree_addAttribute_39 rfl ?_
      refine k_getR d_Tree_addAttribute_40 fl_6_37 ob_6 rfl ?_
      refine k_aload_n d_Tree_addAttribute_43 rfl ?_
      refine k_getI (x := (σ.1 6 10)) d_Tree_addAttribute_44 fl_6_55 ob_6 rfl rfl ?_
      refine k_iload_n d_Tree_addAttribute_47 rfl ?_
      obtain ⟨p14, h⟩ := h
      refine k_ist d_Tree_addAttribute_48 rI_134 p14 ?_
      refine k_aload_n d_Tree_addAttribute_49 rfl ?_
      refine k_getR d_Tree_addAttribute_50 fl_6_40 ob_6 rfl ?_
      refine k_aload_n d_Tree_addAttribute_53 rfl ?_
      refine k_getI (x := (σ.1 6 10)) d_Tree_addAttribute_54 fl_6_55 ob_6 rfl rfl ?_
      refine k_iload_n d_Tree_addAttribute_57 rfl ?_
      obtain ⟨p13, h⟩ := h
      refine k_ist d_Tree_addAttribute_58 rI_135 p13 ?_
      refine k_aload_n d_Tree_addAttribute_59 rfl ?_
      refine k_dup d_Tree_addAttribute_60 ?_
      refine k_getI (x := (σ.1 6 10)) d_Tree_addAttribute_61 fl_6_55 ob_6 rfl rfl ?_
      refine k_iconst d_Tree_addAttribute_64 cI_1 ?_
      obtain ⟨p12, h⟩ := h
      refine k_iadd d_Tree_addAttribute_65 p12 ?_
      refine k_putI d_Tree_addAttribute_66 fl_6_55 ob_6 rfl ?_
      refine k_aload_n d_Tree_addAttribute_69 rfl ?_
      refine k_getR d_Tree_addAttribute_70 fl_6_25 ob_6 rfl ?_
      refine k_aload_n d_Tree_addAttribute_73 rfl ?_
      refine k_getI (x := (σ.1 6 3)) d_Tree_addAttribute_74 fl_6_46 ob_6 rfl rfl ?_
      refine k_dup2 d_Tree_addAttribute_77 ?_
      obtain ⟨p11, h⟩ := h
      refine k_ild (x := (σ.2 131 (Int.toNat (σ.1 6 3)))) d_Tree_addAttribute_78 rI_131 p11 rfl ?_
      refine k_iconst d_Tree_addAttribute_79 cI_1 ?_
      obtain ⟨p10, h⟩ := h
      refine k_iadd d_Tree_addAttribute_80 p10 ?_
      obtain ⟨p9, h⟩ := h
      refine k_ist d_Tree_addAttribute_81 rI_131 p9 ?_
      refine k_iload d_Tree_addAttribute_82 rfl ?_
      refine k_ifeq d_Tree_addAttribute_84 rfl (fun c5 => ?_) (fun c5 => ?_)
      · have h := ipos c5 h
        exact k_sb (sb_n (sb_n (sb_n (sb_n (sb_n sb_nil))))) (hJ2 () _ h)
      · have h := ineg c5 h
        refine k_aload_n d_Tree_addAttribute_87 rfl ?_
        refine k_getR d_Tree_addAttribute_88 fl_6_28 ob_6 rfl ?_
        refine k_aload_n d_Tree_addAttribute_91 rfl ?_
        refine k_getI (x := (σ.1 6 3)) d_Tree_addAttribute_92 fl_6_46 ob_6 rfl rfl ?_
        refine k_dup2 d_Tree_addAttribute_95 ?_
        obtain ⟨p8, h⟩ := h
        refine k_ild (x := (σ.2 132 (Int.toNat (σ.1 6 3)))) d_Tree_addAttribute_96 rI_132 p8 rfl ?_
        refine k_iconst d_Tree_addAttribute_97 cI_1 ?_
        obtain ⟨p7, h⟩ := h
        refine k_iadd d_Tree_addAttribute_98 p7 ?_
        obtain ⟨p6, h⟩ := h
        refine k_ist d_Tree_addAttribute_99 rI_132 p6 ?_
        exact k_sb (sb_n (sb_n (sb_n (sb_n (sb_n sb_nil))))) (hJ2 () _ h)
    have hY17 : ¬ ((σ.1 6 10) < (σ.1 6 0) ∧ (¬ (σ.1 6 3) = (-1))) → OkI BF L d 6 b_Tree_addAttribute 5 0 100 [] [some (.inr 6), some (.inl a1), some (.inl a2), some (.inl a3), some (.inl a4)] (pf σ 6 1 ((σ.1 6 1) + 1)) (qv Q) := fun e18 => by
      have h := ineg e18 h
      exact k_sb (sb_n (sb_n (sb_n (sb_n (sb_n sb_nil))))) (hJ2 () _ h)
    refine k_icge d_Tree_addAttribute_18 rfl (fun c19 => ?_) (fun c19 => ?_)
    · exact hY17 (fun z => c19 z.1)
    · refine k_aload_n d_Tree_addAttribute_21 rfl ?_
      refine k_getI (x := (σ.1 6 3)) d_Tree_addAttribute_22 fl_6_46 ob_6 rfl rfl ?_
      refine k_iconst d_Tree_addAttribute_25 cI_m1 ?_
      refine k_iceq d_Tree_addAttribute_26 rfl (fun c20 => ?_) (fun c20 => ?_)
      · exact hY17 (fun z => (fun z => z c20) z.2)
      · exact hX16 (⟨c19, c20⟩)
theorem d_Content_finishTag_0 : decode b_Content_finishTag 0 = .ok (.aload_n 0, 1) := by decide +kernel
theorem d_Content_finishTag_1 : decode b_Content_finishTag 1 = .ok (.getfield 23, 3) := by decide +kernel
theorem d_Content_finishTag_4 : decode b_Content_finishTag 4 = .ok (.getfield 304, 3) := by decide +kernel
theorem d_Content_finishTag_7 : decode b_Content_finishTag 7 = .ok (.iload_n 1, 1) := by decide +kernel
theorem d_Content_finishTag_8 : decode b_Content_finishTag 8 = .ok (.iaload, 1) := by decide +kernel
theorem d_Content_finishTag_9 : decode b_Content_finishTag 9 = .ok (.iconst 1, 1) := by decide +kernel
theorem d_Content_finishTag_10 : decode b_Content_finishTag 10 = .ok (.isub, 1) := by decide +kernel
theorem d_Content_finishTag_11 : decode b_Content_finishTag 11 = .ok (.istore 4, 2) := by decide +kernel
theorem d_Content_finishTag_13 : decode b_Content_finishTag 13 = .ok (.iconst 0, 1) := by decide +kernel
theorem d_Content_finishTag_14 : decode b_Content_finishTag 14 = .ok (.istore 5, 2) := by decide +kernel
theorem d_Content_finishTag_16 : decode b_Content_finishTag 16 = .ok (.iload 5, 2) := by decide +kernel
theorem d_Content_finishTag_18 : decode b_Content_finishTag 18 = .ok (.aload_n 0, 1) := by decide +kernel
theorem d_Content_finishTag_19 : decode b_Content_finishTag 19 = .ok (.getfield 23, 3) := by decide +kernel
theorem d_Content_finishTag_22 : decode b_Content_finishTag 22 = .ok (.getfield 307, 3) := by decide +kernel
theorem d_Content_finishTag_25 : decode b_Content_finishTag 25 = .ok (.if_icmp .ge 93, 3) := by decide +kernel
theorem d_Content_finishTag_28 : decode b_Content_finishTag 28 = .ok (.iload 4, 2) := by decide +kernel
theorem d_Content_finishTag_30 : decode b_Content_finishTag 30 = .ok (.iconst (-1), 1) := by decide +kernel
theorem d_Content_finishTag_31 : decode b_Content_finishTag 31 = .ok (.if_icmp .eq 87, 3) := by decide +kernel
theorem d_Content_finishTag_34 : decode b_Content_finishTag 34 = .ok (.aload_n 0, 1) := by decide +kernel
theorem d_Content_finishTag_35 : decode b_Content_finishTag 35 = .ok (.getfield 23, 3) := by decide +kernel
theorem d_Content_finishTag_38 : decode b_Content_finishTag 38 = .ok (.getfield 310, 3) := by decide +kernel
theorem d_Content_finishTag_41 : decode b_Content_finishTag 41 = .ok (.iload 4, 2) := by decide +kernel
theorem d_Content_finishTag_43 : decode b_Content_finishTag 43 = .ok (.iaload, 1) := by decide +kernel
theorem d_Content_finishTag_44 : decode b_Content_finishTag 44 = .ok (.iconst 2, 1) := by decide +kernel
theorem d_Content_finishTag_45 : decode b_Content_finishTag 45 = .ok (.if_icmp .lt 55, 3) := by decide +kernel
theorem d_Content_finishTag_48 : decode b_Content_finishTag 48 = .ok (.aload_n 0, 1) := by decide +kernel
theorem d_Content_finishTag_49 : decode b_Content_finishTag 49 = .ok (.getfield 9, 3) := by decide +kernel
theorem d_Content_finishTag_52 : decode b_Content_finishTag 52 = .ok (.getfield 278, 3) := by decide +kernel
theorem d_Content_finishTag_55 : decode b_Content_finishTag 55 = .ok (.aload_n 0, 1) := by decide +kernel
theorem d_Content_finishTag_56 : decode b_Content_finishTag 56 = .ok (.getfield 23, 3) := by decide +kernel
theorem d_Content_finishTag_59 : decode b_Content_finishTag 59 = .ok (.getfield 313, 3) := by decide +kernel
theorem d_Content_finishTag_62 : decode b_Content_finishTag 62 = .ok (.iload 4, 2) := by decide +kernel
theorem d_Content_finishTag_64 : decode b_Content_finishTag 64 = .ok (.iaload, 1) := by decide +kernel
theorem d_Content_finishTag_65 : decode b_Content_finishTag 65 = .ok (.iaload, 1) := by decide +kernel
theorem d_Content_finishTag_66 : decode b_Content_finishTag 66 = .ok (.iload_n 2, 1) := by decide +kernel
theorem d_Content_finishTag_67 : decode b_Content_finishTag 67 = .ok (.if_icmp .eq 33, 3) := by decide +kernel
theorem d_Content_finishTag_70 : decode b_Content_finishTag 70 = .ok (.aload_n 0, 1) := by decide +kernel
theorem d_Content_finishTag_71 : decode b_Content_finishTag 71 = .ok (.getfield 31, 3) := by decide +kernel
theorem d_Content_finishTag_74 : decode b_Content_finishTag 74 = .ok (.aload_n 0, 1) := by decide +kernel
theorem d_Content_finishTag_75 : decode b_Content_finishTag 75 = .ok (.getfield 23, 3) := by decide +kernel
theorem d_Content_finishTag_78 : decode b_Content_finishTag 78 = .ok (.getfield 313, 3) := by decide +kernel
theorem d_Content_finishTag_81 : decode b_Content_finishTag 81 = .ok (.iload 4, 2) := by decide +kernel
theorem d_Content_finishTag_83 : decode b_Content_finishTag 83 = .ok (.iaload, 1) := by decide +kernel
theorem d_Content_finishTag_84 : decode b_Content_finishTag 84 = .ok (.aload_n 0, 1) := by decide +kernel
theorem d_Content_finishTag_85 : decode b_Content_finishTag 85 = .ok (.getfield 23, 3) := by decide +kernel
theorem d_Content_finishTag_88 : decode b_Content_finishTag 88 = .ok (.getfield 316, 3) := by decide +kernel
theorem d_Content_finishTag_91 : decode b_Content_finishTag 91 = .ok (.iload 4, 2) := by decide +kernel
theorem d_Content_finishTag_93 : decode b_Content_finishTag 93 = .ok (.iaload, 1) := by decide +kernel
theorem d_Content_finishTag_94 : decode b_Content_finishTag 94 = .ok (.iload 4, 2) := by decide +kernel
theorem d_Content_finishTag_96 : decode b_Content_finishTag 96 = .ok (.iconst 0, 1) := by decide +kernel
theorem d_Content_finishTag_97 : decode b_Content_finishTag 97 = .ok (.invokevirtual 296, 3) := by decide +kernel
theorem d_Content_finishTag_100 : decode b_Content_finishTag 100 = .ok (.aload_n 0, 1) := by decide +kernel
theorem d_Content_finishTag_101 : decode b_Content_finishTag 101 = .ok (.getfield 23, 3) := by decide +kernel
theorem d_Content_finishTag_104 : decode b_Content_finishTag 104 = .ok (.getfield 319, 3) := by decide +kernel
theorem d_Content_finishTag_107 : decode b_Content_finishTag 107 = .ok (.iload 4, 2) := by decide +kernel
theorem d_Content_finishTag_109 : decode b_Content_finishTag 109 = .ok (.iaload, 1) := by decide +kernel
theorem d_Content_finishTag_110 : decode b_Content_finishTag 110 = .ok (.istore 4, 2) := by decide +kernel
theorem d_Content_finishTag_112 : decode b_Content_finishTag 112 = .ok (.iinc 5 1, 3) := by decide +kernel
theorem d_Content_finishTag_115 : decode b_Content_finishTag 115 = .ok (.goto (-99), 3) := by decide +kernel
theorem d_Content_finishTag_118 : decode b_Content_finishTag 118 = .ok (.aload_n 0, 1) := by decide +kernel
theorem d_Content_finishTag_119 : decode b_Content_finishTag 119 = .ok (.getfield 31, 3) := by decide +kernel
theorem d_Content_finishTag_122 : decode b_Content_finishTag 122 = .ok (.invokevirtual 237, 3) := by decide +kernel
theorem d_Content_finishTag_125 : decode b_Content_finishTag 125 = .ok (.ifCond .eq 11, 3) := by decide +kernel
theorem d_Content_finishTag_128 : decode b_Content_finishTag 128 = .ok (.aload_n 0, 1) := by decide +kernel
theorem d_Content_finishTag_129 : decode b_Content_finishTag 129 = .ok (.getfield 15, 3) := by decide +kernel
theorem d_Content_finishTag_132 : decode b_Content_finishTag 132 = .ok (.iconst 4, 1) := by decide +kernel
theorem d_Content_finishTag_133 : decode b_Content_finishTag 133 = .ok (.invokevirtual 108, 3) := by decide +kernel
theorem d_Content_finishTag_136 : decode b_Content_finishTag 136 = .ok (.iload_n 3, 1) := by decide +kernel
theorem d_Content_finishTag_137 : decode b_Content_finishTag 137 = .ok (.ifCond .eq 10, 3) := by decide +kernel
theorem d_Content_finishTag_140 : decode b_Content_finishTag 140 = .ok (.aload_n 0, 1) := by decide +kernel
theorem d_Content_finishTag_141 : decode b_Content_finishTag 141 = .ok (.getfield 31, 3) := by decide +kernel
theorem d_Content_finishTag_144 : decode b_Content_finishTag 144 = .ok (.invokevirtual 262, 3) := by decide +kernel
theorem d_Content_finishTag_147 : decode b_Content_finishTag 147 = .ok (.return_, 1) := by decide +kernel
/-- Content_finishTag -/
def w_Content_finishTag (L : Nat → Nat) (a1 : Int) (a2 : Int) (a3 : Int) (Q : IS → Prop) (σ : IS) : Prop := inL L 126 a1 ∧ inR ((σ.2 126 (Int.toNat a1)) - 1) ∧ WL (fun (K1 : Int × Int → IS → Prop) (s3 : Int × Int) (σ4 : IS) => if s3.2 < (σ4.1 4 12) ∧ (¬ s3.1 = (-1)) then inL L 119 s3.1 ∧ WJ (fun (s7 : Unit) (σ8 : IS) => inL L 123 s3.1 ∧ inR (s3.2 + 1) ∧ K1 ((σ8.2 123 (Int.toNat s3.1)), (s3.2 + 1)) σ8) (fun J5 => ((¬ (σ4.2 119 (Int.toNat s3.1)) < 2 → (inL L 148 s3.1 ∧ inL L 155 (σ4.2 148 (Int.toNat s3.1))))) ∧ if ¬ (σ4.2 119 (Int.toNat s3.1)) < 2 ∧ (¬ (σ4.2 155 (Int.toNat (σ4.2 148 (Int.toNat s3.1)))) = a2) then inL L 148 s3.1 ∧ inL L 120 s3.1 ∧ w_Tree_addAttribute L (σ4.2 148 (Int.toNat s3.1)) (σ4.2 120 (Int.toNat s3.1)) s3.1 0 (fun σ13 => J5 () σ13) σ4 else J5 () σ4) else w_Tree_tooMany L  (fun v26 σ25 => WJ (fun (s29 : Unit) (σ30 : IS) => WJ (fun (s33 : Unit) (σ34 : IS) => Q σ34) (fun J31 => if a3 = 0 then J31 () σ30 else w_Tree_endElement L  (fun σ36 => J31 () σ36) σ30)) (fun J27 => if v26 = 0 then J27 () σ25 else w_Reader_fail L 4 (fun σ39 => J27 () σ39) σ25)) σ4) (((σ.2 126 (Int.toNat a1)) - 1), 0) σ
set_option maxHeartbeats 4000000 in
set_option maxRecDepth 20000 in
theorem s_Content_finishTag {L : Nat → Nat} (hL : ∀ r, L r < 2147483648) {d : Nat} (hd : 2 ≤ d) {a1 : Int} {a2 : Int} {a3 : Int} {Q : IS → Prop} {σ : IS}  (h : w_Content_finishTag L a1 a2 a3 Q σ) : OkI BF L d 7 b_Content_finishTag 6 0 0 [] [some (.inr 7), some (.inl a1), some (.inl a2), some (.inl a3)] σ (qv Q) := by
  unfold w_Content_finishTag at h
  obtain ⟨d, rfl⟩ : ∃ e, d = e + 1 := ⟨d - 1, by omega⟩
  refine k_sb (lv' := [some (.inr 7), some (.inl a1), some (.inl a2), some (.inl a3), none, none]) (sb_s (sb_s (sb_s (sb_s (sb_e (sb_e sb_nil)))))) ?_
  refine k_aload_n d_Content_finishTag_0 rfl ?_
  refine k_getR d_Content_finishTag_1 fl_7_23 ob_7 rfl ?_
  refine k_getR d_Content_finishTag_4 fl_7_304 ob_4 rfl ?_
  refine k_iload_n d_Content_finishTag_7 rfl ?_
  obtain ⟨p47, h⟩ := h
  refine k_ild (x := (σ.2 126 (Int.toNat a1))) d_Content_finishTag_8 rI_126 p47 rfl ?_
  refine k_iconst d_Content_finishTag_9 cI_1 ?_
  obtain ⟨p46, h⟩ := h
  refine k_isub d_Content_finishTag_10 p46 ?_
  refine k_istore (lv' := [some (.inr 7), some (.inl a1), some (.inl a2), some (.inl a3), some (.inl ((σ.2 126 (Int.toNat a1)) - 1)), none]) d_Content_finishTag_11 rfl rfl ?_
  refine k_iconst d_Content_finishTag_13 cI_0 ?_
  refine k_istore (lv' := [some (.inr 7), some (.inl a1), some (.inl a2), some (.inl a3), some (.inl ((σ.2 126 (Int.toNat a1)) - 1)), some (.inl 0)]) d_Content_finishTag_14 rfl rfl ?_
  refine k_sb (lv' := [some (.inr 7), none, some (.inl a2), some (.inl a3), some (.inl ((σ.2 126 (Int.toNat a1)) - 1)), some (.inl 0)]) (sb_s (sb_n (sb_s (sb_s (sb_s (sb_s sb_nil)))))) ?_
  refine k_loop (S := Int × Int) (st := fun _ => []) (lv := fun s3 => [some (.inr 7), none, some (.inl a2), some (.inl a3), some (.inl s3.1), some (.inl s3.2)]) (fun K1 hK2 s3 σ4 h => ?_) (((σ.2 126 (Int.toNat a1)) - 1), 0) _ h
  refine k_iload d_Content_finishTag_16 rfl ?_
  refine k_aload_n d_Content_finishTag_18 rfl ?_
  refine k_getR d_Content_finishTag_19 fl_7_23 ob_7 rfl ?_
  refine k_getI (x := (σ4.1 4 12)) d_Content_finishTag_22 fl_7_307 ob_4 rfl rfl ?_
  have hX41 : (s3.2 < (σ4.1 4 12) ∧ (¬ s3.1 = (-1))) → OkI BF L (d + 1) 7 b_Content_finishTag 6 0 34 [] [some (.inr 7), none, some (.inl a2), some (.inl a3), some (.inl s3.1), some (.inl s3.2)] σ4 (qv Q) := fun e43 => by
    have h := ipos e43 h
    refine k_aload_n d_Content_finishTag_34 rfl ?_
    refine k_getR d_Content_finishTag_35 fl_7_23 ob_7 rfl ?_
    refine k_getR d_Content_finishTag_38 fl_7_310 ob_4 rfl ?_
    refine k_iload d_Content_finishTag_41 rfl ?_
    obtain ⟨p24, h⟩ := h
    refine k_ild (x := (σ4.2 119 (Int.toNat s3.1))) d_Content_finishTag_43 rI_119 p24 rfl ?_
    refine k_iconst d_Content_finishTag_44 cI_2 ?_
    refine k_join (S := Unit) (pc' := 100) (st' := fun s7 => []) (lv' := fun s7 => [some (.inr 7), none, some (.inl a2), some (.inl a3), some (.inl s3.1), some (.inl s3.2)]) (fun s7 σ8 h => ?_) (fun J5 hJ6 h => ?_) h
    · refine k_aload_n d_Content_finishTag_100 rfl ?_
      refine k_getR d_Content_finishTag_101 fl_7_23 ob_7 rfl ?_
      refine k_getR d_Content_finishTag_104 fl_7_319 ob_4 rfl ?_
      refine k_iload d_Content_finishTag_107 rfl ?_
      obtain ⟨p10, h⟩ := h
      refine k_ild (x := (σ8.2 123 (Int.toNat s3.1))) d_Content_finishTag_109 rI_123 p10 rfl ?_
      refine k_istore (lv' := [some (.inr 7), none, some (.inl a2), some (.inl a3), some (.inl (σ8.2 123 (Int.toNat s3.1))), some (.inl s3.2)]) d_Content_finishTag_110 rfl rfl ?_
      obtain ⟨p9, h⟩ := h
      refine k_iinc (lv' := [some (.inr 7), none, some (.inl a2), some (.inl a3), some (.inl (σ8.2 123 (Int.toNat s3.1))), some (.inl (s3.2 + 1))]) d_Content_finishTag_112 cI_1 rfl rfl p9 rfl ?_
      refine k_goto d_Content_finishTag_115 rfl ?_
      exact k_sb (sb_s (sb_s (sb_s (sb_s (sb_s (sb_s sb_nil)))))) (hK2 ((σ8.2 123 (Int.toNat s3.1)), (s3.2 + 1)) _ h)
    · obtain ⟨pt20, h⟩ := h
      have hX17 : (¬ (σ4.2 119 (Int.toNat s3.1)) < 2 ∧ (¬ (σ4.2 155 (Int.toNat (σ4.2 148 (Int.toNat s3.1)))) = a2)) → OkI BF L (d + 1) 7 b_Content_finishTag 6 0 70 [] [some (.inr 7), none, some (.inl a2), some (.inl a3), some (.inl s3.1), some (.inl s3.2)] σ4 (qv Q) := fun e19 => by
        have h := ipos e19 h
        refine k_aload_n d_Content_finishTag_70 rfl ?_
        refine k_getR d_Content_finishTag_71 fl_7_31 ob_7 rfl ?_
        refine k_aload_n d_Content_finishTag_74 rfl ?_
        refine k_getR d_Content_finishTag_75 fl_7_23 ob_7 rfl ?_
        refine k_getR d_Content_finishTag_78 fl_7_313 ob_4 rfl ?_
        refine k_iload d_Content_finishTag_81 rfl ?_
        obtain ⟨p16, h⟩ := h
        refine k_ild (x := (σ4.2 148 (Int.toNat s3.1))) d_Content_finishTag_83 rI_148 p16 rfl ?_
        refine k_aload_n d_Content_finishTag_84 rfl ?_
        refine k_getR d_Content_finishTag_85 fl_7_23 ob_7 rfl ?_
        refine k_getR d_Content_finishTag_88 fl_7_316 ob_4 rfl ?_
        refine k_iload d_Content_finishTag_91 rfl ?_
        obtain ⟨p15, h⟩ := h
        refine k_ild (x := (σ4.2 120 (Int.toNat s3.1))) d_Content_finishTag_93 rI_120 p15 rfl ?_
        refine k_iload d_Content_finishTag_94 rfl ?_
        refine k_iconst d_Content_finishTag_96 cI_0 ?_
        refine k_cvv [.inl (σ4.2 148 (Int.toNat s3.1)), .inl (σ4.2 120 (Int.toNat s3.1)), .inl s3.1, .inl 0] d_Content_finishTag_97 ml_7_296 rfl rfl ob_6 rfl (s_Tree_addAttribute hL (by omega)  h) (fun σ13 h => ?_)
        exact k_sb (sb_s (sb_s (sb_s (sb_s (sb_s (sb_s sb_nil)))))) (hJ6 () _ h)
      have hY18 : ¬ (¬ (σ4.2 119 (Int.toNat s3.1)) < 2 ∧ (¬ (σ4.2 155 (Int.toNat (σ4.2 148 (Int.toNat s3.1)))) = a2)) → OkI BF L (d + 1) 7 b_Content_finishTag 6 0 100 [] [some (.inr 7), none, some (.inl a2), some (.inl a3), some (.inl s3.1), some (.inl s3.2)] σ4 (qv Q) := fun e19 => by
        have h := ineg e19 h
        exact k_sb (sb_s (sb_s (sb_s (sb_s (sb_s (sb_s sb_nil)))))) (hJ6 () _ h)
      have pb21 := pt20
      refine k_iclt d_Content_finishTag_45 rfl (fun c22 => ?_) (fun c22 => ?_)
      · exact hY18 (fun z => z.1 c22)
      · have pb21 := pb21 c22
        obtain ⟨p11, p12⟩ := pb21
        refine k_aload_n d_Content_finishTag_48 rfl ?_
        refine k_getR d_Content_finishTag_49 fl_7_9 ob_7 rfl ?_
        refine k_getR d_Content_finishTag_52 fl_7_278 ob_1 rfl ?_
        refine k_aload_n d_Content_finishTag_55 rfl ?_
        refine k_getR d_Content_finishTag_56 fl_7_23 ob_7 rfl ?_
        refine k_getR d_Content_finishTag_59 fl_7_313 ob_4 rfl ?_
        refine k_iload d_Content_finishTag_62 rfl ?_
        refine k_ild (x := (σ4.2 148 (Int.toNat s3.1))) d_Content_finishTag_64 rI_148 p11 rfl ?_
        refine k_ild (x := (σ4.2 155 (Int.toNat (σ4.2 148 (Int.toNat s3.1))))) d_Content_finishTag_65 rI_155 p12 rfl ?_
        refine k_iload_n d_Content_finishTag_66 rfl ?_
        refine k_iceq d_Content_finishTag_67 rfl (fun c23 => ?_) (fun c23 => ?_)
        · exact hY18 (fun z => (fun z => z c23) z.2)
        · exact hX17 (⟨c22, c23⟩)
  have hY42 : ¬ (s3.2 < (σ4.1 4 12) ∧ (¬ s3.1 = (-1))) → OkI BF L (d + 1) 7 b_Content_finishTag 6 0 118 [] [some (.inr 7), none, some (.inl a2), some (.inl a3), some (.inl s3.1), some (.inl s3.2)] σ4 (qv Q) := fun e43 => by
    have h := ineg e43 h
    refine k_aload_n d_Content_finishTag_118 rfl ?_
    refine k_getR d_Content_finishTag_119 fl_7_31 ob_7 rfl ?_
    refine k_cvi [] d_Content_finishTag_122 ml_7_237 rfl rfl ob_6 rfl (s_Tree_tooMany hL (by omega)  h) (fun v26 σ25 h => ?_)
    refine k_join (S := Unit) (pc' := 136) (st' := fun s29 => []) (lv' := fun s29 => [some (.inr 7), none, none, some (.inl a3), none, none]) (fun s29 σ30 h => ?_) (fun J27 hJ28 h => ?_) h
    · refine k_iload_n d_Content_finishTag_136 rfl ?_
      refine k_join (S := Unit) (pc' := 147) (st' := fun s33 => []) (lv' := fun s33 => [none, none, none, none, none, none]) (fun s33 σ34 h => ?_) (fun J31 hJ32 h => ?_) h
      · exact k_ret d_Content_finishTag_147 h
      · refine k_ifeq d_Content_finishTag_137 rfl (fun c35 => ?_) (fun c35 => ?_)
        · have h := ipos c35 h
          exact k_sb (sb_n (sb_s (sb_s (sb_n (sb_s (sb_s sb_nil)))))) (hJ32 () _ h)
        · have h := ineg c35 h
          refine k_aload_n d_Content_finishTag_140 rfl ?_
          refine k_getR d_Content_finishTag_141 fl_7_31 ob_7 rfl ?_
          refine k_cvv [] d_Content_finishTag_144 ml_7_262 rfl rfl ob_6 rfl (s_Tree_endElement hL (by omega)  h) (fun σ36 h => ?_)
          exact k_sb (sb_n (sb_s (sb_s (sb_n (sb_s (sb_s sb_nil)))))) (hJ32 () _ h)
    · refine k_ifeq d_Content_finishTag_125 rfl (fun c38 => ?_) (fun c38 => ?_)
      · have h := ipos c38 h
        exact k_sb (sb_s (sb_s (sb_n (sb_s (sb_n (sb_n sb_nil)))))) (hJ28 () _ h)
      · have h := ineg c38 h
        refine k_aload_n d_Content_finishTag_128 rfl ?_
        refine k_getR d_Content_finishTag_129 fl_7_15 ob_7 rfl ?_
        refine k_iconst d_Content_finishTag_132 cI_4 ?_
        refine k_cvv [.inl 4] d_Content_finishTag_133 ml_7_108 rfl rfl ob_2 rfl (s_Reader_fail hL (by omega)  h) (fun σ39 h => ?_)
        exact k_sb (sb_s (sb_s (sb_n (sb_s (sb_n (sb_n sb_nil)))))) (hJ28 () _ h)
  refine k_icge d_Content_finishTag_25 rfl (fun c44 => ?_) (fun c44 => ?_)
  · exact hY42 (fun z => c44 z.1)
  · refine k_iload d_Content_finishTag_28 rfl ?_
    refine k_iconst d_Content_finishTag_30 cI_m1 ?_
    refine k_iceq d_Content_finishTag_31 rfl (fun c45 => ?_) (fun c45 => ?_)
    · exact hY42 (fun z => (fun z => z c45) z.2)
    · exact hX41 (⟨c44, c45⟩)
theorem d_Content_readTag_0 : decode b_Content_readTag 0 = .ok (.aload_n 0, 1) := by decide +kernel
theorem d_Content_readTag_1 : decode b_Content_readTag 1 = .ok (.getfield 15, 3) := by decide +kernel
theorem d_Content_readTag_4 : decode b_Content_readTag 4 = .ok (.ldc_w 265, 3) := by decide +kernel
theorem d_Content_readTag_7 : decode b_Content_readTag 7 = .ok (.invokevirtual 119, 3) := by decide +kernel
theorem d_Content_readTag_10 : decode b_Content_readTag 10 = .ok (.aload_n 0, 1) := by decide +kernel
theorem d_Content_readTag_11 : decode b_Content_readTag 11 = .ok (.getfield 15, 3) := by decide +kernel
theorem d_Content_readTag_14 : decode b_Content_readTag 14 = .ok (.invokevirtual 250, 3) := by decide +kernel
theorem d_Content_readTag_17 : decode b_Content_readTag 17 = .ok (.istore_n 2, 1) := by decide +kernel
theorem d_Content_readTag_18 : decode b_Content_readTag 18 = .ok (.iload_n 1, 1) := by decide +kernel
theorem d_Content_readTag_19 : decode b_Content_readTag 19 = .ok (.ifCond .eq 23, 3) := by decide +kernel
theorem d_Content_readTag_22 : decode b_Content_readTag 22 = .ok (.aload_n 0, 1) := by decide +kernel
theorem d_Content_readTag_23 : decode b_Content_readTag 23 = .ok (.getfield 9, 3) := by decide +kernel
theorem d_Content_readTag_26 : decode b_Content_readTag 26 = .ok (.iload_n 2, 1) := by decide +kernel
theorem d_Content_readTag_27 : decode b_Content_readTag 27 = .ok (.aload_n 0, 1) := by decide +kernel
theorem d_Content_readTag_28 : decode b_Content_readTag 28 = .ok (.getfield 15, 3) := by decide +kernel
theorem d_Content_readTag_31 : decode b_Content_readTag 31 = .ok (.getfield 47, 3) := by decide +kernel
theorem d_Content_readTag_34 : decode b_Content_readTag 34 = .ok (.iload_n 2, 1) := by decide +kernel
theorem d_Content_readTag_35 : decode b_Content_readTag 35 = .ok (.isub, 1) := by decide +kernel
theorem d_Content_readTag_36 : decode b_Content_readTag 36 = .ok (.invokevirtual 267, 3) := by decide +kernel
theorem d_Content_readTag_39 : decode b_Content_readTag 39 = .ok (.goto 4, 3) := by decide +kernel
theorem d_Content_readTag_42 : decode b_Content_readTag 42 = .ok (.iconst (-1), 1) := by decide +kernel
theorem d_Content_readTag_43 : decode b_Content_readTag 43 = .ok (.istore_n 3, 1) := by decide +kernel
theorem d_Content_readTag_44 : decode b_Content_readTag 44 = .ok (.iload_n 1, 1) := by decide +kernel
theorem d_Content_readTag_45 : decode b_Content_readTag 45 = .ok (.ifCond .eq 13, 3) := by decide +kernel
theorem d_Content_readTag_48 : decode b_Content_readTag 48 = .ok (.aload_n 0, 1) := by decide +kernel
theorem d_Content_readTag_49 : decode b_Content_readTag 49 = .ok (.getfield 9, 3) := by decide +kernel
theorem d_Content_readTag_52 : decode b_Content_readTag 52 = .ok (.invokevirtual 270, 3) := by decide +kernel
theorem d_Content_readTag_55 : decode b_Content_readTag 55 = .ok (.goto 4, 3) := by decide +kernel
theorem d_Content_readTag_58 : decode b_Content_readTag 58 = .ok (.iconst 0, 1) := by decide +kernel
theorem d_Content_readTag_59 : decode b_Content_readTag 59 = .ok (.istore 4, 2) := by decide +kernel
theorem d_Content_readTag_61 : decode b_Content_readTag 61 = .ok (.iload_n 1, 1) := by decide +kernel
theorem d_Content_readTag_62 : decode b_Content_readTag 62 = .ok (.ifCond .eq 11, 3) := by decide +kernel
theorem d_Content_readTag_65 : decode b_Content_readTag 65 = .ok (.aload_n 0, 1) := by decide +kernel
theorem d_Content_readTag_66 : decode b_Content_readTag 66 = .ok (.getfield 31, 3) := by decide +kernel
theorem d_Content_readTag_69 : decode b_Content_readTag 69 = .ok (.iload_n 3, 1) := by decide +kernel
theorem d_Content_readTag_70 : decode b_Content_readTag 70 = .ok (.invokevirtual 273, 3) := by decide +kernel
theorem d_Content_readTag_73 : decode b_Content_readTag 73 = .ok (.aload_n 0, 1) := by decide +kernel
theorem d_Content_readTag_74 : decode b_Content_readTag 74 = .ok (.getfield 15, 3) := by decide +kernel
theorem d_Content_readTag_77 : decode b_Content_readTag 77 = .ok (.invokevirtual 140, 3) := by decide +kernel
theorem d_Content_readTag_80 : decode b_Content_readTag 80 = .ok (.istore 5, 2) := by decide +kernel
theorem d_Content_readTag_82 : decode b_Content_readTag 82 = .ok (.iconst 0, 1) := by decide +kernel
theorem d_Content_readTag_83 : decode b_Content_readTag 83 = .ok (.istore 6, 2) := by decide +kernel
theorem d_Content_readTag_85 : decode b_Content_readTag 85 = .ok (.iload 6, 2) := by decide +kernel
theorem d_Content_readTag_87 : decode b_Content_readTag 87 = .ok (.ldc 63, 2) := by decide +kernel
theorem d_Content_readTag_89 : decode b_Content_readTag 89 = .ok (.if_icmp .ge 260, 3) := by decide +kernel
theorem d_Content_readTag_92 : decode b_Content_readTag 92 = .ok (.aload_n 0, 1) := by decide +kernel
theorem d_Content_readTag_93 : decode b_Content_readTag 93 = .ok (.getfield 15, 3) := by decide +kernel
theorem d_Content_readTag_96 : decode b_Content_readTag 96 = .ok (.getfield 64, 3) := by decide +kernel
theorem d_Content_readTag_99 : decode b_Content_readTag 99 = .ok (.ifCond .ne 250, 3) := by decide +kernel
theorem d_Content_readTag_102 : decode b_Content_readTag 102 = .ok (.aload_n 0, 1) := by decide +kernel
theorem d_Content_readTag_103 : decode b_Content_readTag 103 = .ok (.getfield 15, 3) := by decide +kernel
theorem d_Content_readTag_106 : decode b_Content_readTag 106 = .ok (.ldc 253, 2) := by decide +kernel
theorem d_Content_readTag_108 : decode b_Content_readTag 108 = .ok (.invokevirtual 37, 3) := by decide +kernel
theorem d_Content_readTag_111 : decode b_Content_readTag 111 = .ok (.ifCond .ne 238, 3) := by decide +kernel
theorem d_Content_readTag_114 : decode b_Content_readTag 114 = .ok (.aload_n 0, 1) := by decide +kernel
theorem d_Content_readTag_115 : decode b_Content_readTag 115 = .ok (.getfield 15, 3) := by decide +kernel
theorem d_Content_readTag_118 : decode b_Content_readTag 118 = .ok (.ldc_w 276, 3) := by decide +kernel
theorem d_Content_readTag_121 : decode b_Content_readTag 121 = .ok (.invokevirtual 37, 3) := by decide +kernel
theorem d_Content_readTag_124 : decode b_Content_readTag 124 = .ok (.ifCond .ne 225, 3) := by decide +kernel
theorem d_Content_readTag_127 : decode b_Content_readTag 127 = .ok (.iload 5, 2) := by decide +kernel
theorem d_Content_readTag_129 : decode b_Content_readTag 129 = .ok (.ifCond .ne 11, 3) := by decide +kernel
theorem d_Content_readTag_132 : decode b_Content_readTag 132 = .ok (.aload_n 0, 1) := by decide +kernel
theorem d_Content_readTag_133 : decode b_Content_readTag 133 = .ok (.getfield 15, 3) := by decide +kernel
theorem d_Content_readTag_136 : decode b_Content_readTag 136 = .ok (.iconst 5, 1) := by decide +kernel
theorem d_Content_readTag_137 : decode b_Content_readTag 137 = .ok (.invokevirtual 108, 3) := by decide +kernel
theorem d_Content_readTag_140 : decode b_Content_readTag 140 = .ok (.aload_n 0, 1) := by decide +kernel
theorem d_Content_readTag_141 : decode b_Content_readTag 141 = .ok (.getfield 15, 3) := by decide +kernel
theorem d_Content_readTag_144 : decode b_Content_readTag 144 = .ok (.invokevirtual 250, 3) := by decide +kernel
theorem d_Content_readTag_147 : decode b_Content_readTag 147 = .ok (.istore 7, 2) := by decide +kernel
theorem d_Content_readTag_149 : decode b_Content_readTag 149 = .ok (.iload_n 1, 1) := by decide +kernel
theorem d_Content_readTag_150 : decode b_Content_readTag 150 = .ok (.ifCond .eq 25, 3) := by decide +kernel
theorem d_Content_readTag_153 : decode b_Content_readTag 153 = .ok (.aload_n 0, 1) := by decide +kernel
theorem d_Content_readTag_154 : decode b_Content_readTag 154 = .ok (.getfield 9, 3) := by decide +kernel
theorem d_Content_readTag_157 : decode b_Content_readTag 157 = .ok (.iload 7, 2) := by decide +kernel
theorem d_Content_readTag_159 : decode b_Content_readTag 159 = .ok (.aload_n 0, 1) := by decide +kernel
theorem d_Content_readTag_160 : decode b_Content_readTag 160 = .ok (.getfield 15, 3) := by decide +kernel
theorem d_Content_readTag_163 : decode b_Content_readTag 163 = .ok (.getfield 47, 3) := by decide +kernel
theorem d_Content_readTag_166 : decode b_Content_readTag 166 = .ok (.iload 7, 2) := by decide +kernel
theorem d_Content_readTag_168 : decode b_Content_readTag 168 = .ok (.isub, 1) := by decide +kernel
theorem d_Content_readTag_169 : decode b_Content_readTag 169 = .ok (.invokevirtual 267, 3) := by decide +kernel
theorem d_Content_readTag_172 : decode b_Content_readTag 172 = .ok (.goto 4, 3) := by decide +kernel
theorem d_Content_readTag_175 : decode b_Content_readTag 175 = .ok (.iconst (-1), 1) := by decide +kernel
theorem d_Content_readTag_176 : decode b_Content_readTag 176 = .ok (.istore 8, 2) := by decide +kernel
theorem d_Content_readTag_178 : decode b_Content_readTag 178 = .ok (.iload_n 1, 1) := by decide +kernel
theorem d_Content_readTag_179 : decode b_Content_readTag 179 = .ok (.ifCond .eq 27, 3) := by decide +kernel
theorem d_Content_readTag_182 : decode b_Content_readTag 182 = .ok (.aload_n 0, 1) := by decide +kernel
theorem d_Content_readTag_183 : decode b_Content_readTag 183 = .ok (.getfield 9, 3) := by decide +kernel
theorem d_Content_readTag_186 : decode b_Content_readTag 186 = .ok (.getfield 278, 3) := by decide +kernel
theorem d_Content_readTag_189 : decode b_Content_readTag 189 = .ok (.iload 8, 2) := by decide +kernel
theorem d_Content_readTag_191 : decode b_Content_readTag 191 = .ok (.iaload, 1) := by decide +kernel
theorem d_Content_readTag_192 : decode b_Content_readTag 192 = .ok (.iload 4, 2) := by decide +kernel
theorem d_Content_readTag_194 : decode b_Content_readTag 194 = .ok (.if_icmp .ne 12, 3) := by decide +kernel
theorem d_Content_readTag_197 : decode b_Content_readTag 197 = .ok (.aload_n 0, 1) := by decide +kernel
theorem d_Content_readTag_198 : decode b_Content_readTag 198 = .ok (.getfield 15, 3) := by decide +kernel
theorem d_Content_readTag_201 : decode b_Content_readTag 201 = .ok (.bipush 8, 2) := by decide +kernel
theorem d_Content_readTag_203 : decode b_Content_readTag 203 = .ok (.invokevirtual 108, 3) := by decide +kernel
theorem d_Content_readTag_206 : decode b_Content_readTag 206 = .ok (.aload_n 0, 1) := by decide +kernel
theorem d_Content_readTag_207 : decode b_Content_readTag 207 = .ok (.getfield 15, 3) := by decide +kernel
theorem d_Content_readTag_210 : decode b_Content_readTag 210 = .ok (.invokevirtual 140, 3) := by decide +kernel
theorem d_Content_readTag_213 : decode b_Content_readTag 213 = .ok (.pop, 1) := by decide +kernel
theorem d_Content_readTag_214 : decode b_Content_readTag 214 = .ok (.aload_n 0, 1) := by decide +kernel
theorem d_Content_readTag_215 : decode b_Content_readTag 215 = .ok (.getfield 15, 3) := by decide +kernel
theorem d_Content_readTag_218 : decode b_Content_readTag 218 = .ok (.ldc 175, 2) := by decide +kernel
theorem d_Content_readTag_220 : decode b_Content_readTag 220 = .ok (.invokevirtual 119, 3) := by decide +kernel
theorem d_Content_readTag_223 : decode b_Content_readTag 223 = .ok (.aload_n 0, 1) := by decide +kernel
theorem d_Content_readTag_224 : decode b_Content_readTag 224 = .ok (.getfield 15, 3) := by decide +kernel
theorem d_Content_readTag_227 : decode b_Content_readTag 227 = .ok (.invokevirtual 140, 3) := by decide +kernel
theorem d_Content_readTag_230 : decode b_Content_readTag 230 = .ok (.pop, 1) := by decide +kernel
theorem d_Content_readTag_231 : decode b_Content_readTag 231 = .ok (.iload_n 1, 1) := by decide +kernel
theorem d_Content_readTag_232 : decode b_Content_readTag 232 = .ok (.ifCond .ne 13, 3) := by decide +kernel
theorem d_Content_readTag_235 : decode b_Content_readTag 235 = .ok (.aload_n 0, 1) := by decide +kernel
theorem d_Content_readTag_236 : decode b_Content_readTag 236 = .ok (.getfield 15, 3) := by decide +kernel
theorem d_Content_readTag_239 : decode b_Content_readTag 239 = .ok (.invokevirtual 281, 3) := by decide +kernel
theorem d_Content_readTag_242 : decode b_Content_readTag 242 = .ok (.goto 92, 3) := by decide +kernel
theorem d_Content_readTag_245 : decode b_Content_readTag 245 = .ok (.aload_n 0, 1) := by decide +kernel
theorem d_Content_readTag_246 : decode b_Content_readTag 246 = .ok (.getfield 15, 3) := by decide +kernel
theorem d_Content_readTag_249 : decode b_Content_readTag 249 = .ok (.getfield 64, 3) := by decide +kernel
theorem d_Content_readTag_252 : decode b_Content_readTag 252 = .ok (.ifCond .ne 82, 3) := by decide +kernel
theorem d_Content_readTag_255 : decode b_Content_readTag 255 = .ok (.aload_n 0, 1) := by decide +kernel
theorem d_Content_readTag_256 : decode b_Content_readTag 256 = .ok (.getfield 9, 3) := by decide +kernel
theorem d_Content_readTag_259 : decode b_Content_readTag 259 = .ok (.getfield 278, 3) := by decide +kernel
theorem d_Content_readTag_262 : decode b_Content_readTag 262 = .ok (.iload 8, 2) := by decide +kernel
theorem d_Content_readTag_264 : decode b_Content_readTag 264 = .ok (.iload 4, 2) := by decide +kernel
theorem d_Content_readTag_266 : decode b_Content_readTag 266 = .ok (.iastore, 1) := by decide +kernel
theorem d_Content_readTag_267 : decode b_Content_readTag 267 = .ok (.aload_n 0, 1) := by decide +kernel
theorem d_Content_readTag_268 : decode b_Content_readTag 268 = .ok (.getfield 23, 3) := by decide +kernel
theorem d_Content_readTag_271 : decode b_Content_readTag 271 = .ok (.iload_n 3, 1) := by decide +kernel
theorem d_Content_readTag_272 : decode b_Content_readTag 272 = .ok (.iload 8, 2) := by decide +kernel
theorem d_Content_readTag_274 : decode b_Content_readTag 274 = .ok (.invokevirtual 284, 3) := by decide +kernel
theorem d_Content_readTag_277 : decode b_Content_readTag 277 = .ok (.istore 9, 2) := by decide +kernel
theorem d_Content_readTag_279 : decode b_Content_readTag 279 = .ok (.aload_n 0, 1) := by decide +kernel
theorem d_Content_readTag_280 : decode b_Content_readTag 280 = .ok (.getfield 19, 3) := by decide +kernel
theorem d_Content_readTag_283 : decode b_Content_readTag 283 = .ok (.invokevirtual 287, 3) := by decide +kernel
theorem d_Content_readTag_286 : decode b_Content_readTag 286 = .ok (.istore 10, 2) := by decide +kernel
theorem d_Content_readTag_288 : decode b_Content_readTag 288 = .ok (.aload_n 0, 1) := by decide +kernel
theorem d_Content_readTag_289 : decode b_Content_readTag 289 = .ok (.getfield 19, 3) := by decide +kernel
theorem d_Content_readTag_292 : decode b_Content_readTag 292 = .ok (.iload 10, 2) := by decide +kernel
theorem d_Content_readTag_294 : decode b_Content_readTag 294 = .ok (.iload 9, 2) := by decide +kernel
theorem d_Content_readTag_296 : decode b_Content_readTag 296 = .ok (.iconst (-1), 1) := by decide +kernel
theorem d_Content_readTag_297 : decode b_Content_readTag 297 = .ok (.if_icmp .ne 8, 3) := by decide +kernel
theorem d_Content_readTag_300 : decode b_Content_readTag 300 = .ok (.bipush 10, 2) := by decide +kernel
theorem d_Content_readTag_302 : decode b_Content_readTag 302 = .ok (.goto 13, 3) := by decide +kernel
theorem d_Content_readTag_305 : decode b_Content_readTag 305 = .ok (.aload_n 0, 1) := by decide +kernel
theorem d_Content_readTag_306 : decode b_Content_readTag 306 = .ok (.getfield 23, 3) := by decide +kernel
theorem d_Content_readTag_309 : decode b_Content_readTag 309 = .ok (.getfield 290, 3) := by decide +kernel
theorem d_Content_readTag_312 : decode b_Content_readTag 312 = .ok (.iload 9, 2) := by decide +kernel
theorem d_Content_readTag_314 : decode b_Content_readTag 314 = .ok (.iaload, 1) := by decide +kernel
theorem d_Content_readTag_315 : decode b_Content_readTag 315 = .ok (.invokevirtual 293, 3) := by decide +kernel
theorem d_Content_readTag_318 : decode b_Content_readTag 318 = .ok (.istore 11, 2) := by decide +kernel
theorem d_Content_readTag_320 : decode b_Content_readTag 320 = .ok (.aload_n 0, 1) := by decide +kernel
theorem d_Content_readTag_321 : decode b_Content_readTag 321 = .ok (.getfield 31, 3) := by decide +kernel
theorem d_Content_readTag_324 : decode b_Content_readTag 324 = .ok (.iload 8, 2) := by decide +kernel
theorem d_Content_readTag_326 : decode b_Content_readTag 326 = .ok (.iload 11, 2) := by decide +kernel
theorem d_Content_readTag_328 : decode b_Content_readTag 328 = .ok (.iload 9, 2) := by decide +kernel
theorem d_Content_readTag_330 : decode b_Content_readTag 330 = .ok (.iconst 1, 1) := by decide +kernel
theorem d_Content_readTag_331 : decode b_Content_readTag 331 = .ok (.invokevirtual 296, 3) := by decide +kernel
theorem d_Content_readTag_334 : decode b_Content_readTag 334 = .ok (.aload_n 0, 1) := by decide +kernel
theorem d_Content_readTag_335 : decode b_Content_readTag 335 = .ok (.getfield 15, 3) := by decide +kernel
theorem d_Content_readTag_338 : decode b_Content_readTag 338 = .ok (.invokevirtual 140, 3) := by decide +kernel
theorem d_Content_readTag_341 : decode b_Content_readTag 341 = .ok (.istore 5, 2) := by decide +kernel
theorem d_Content_readTag_343 : decode b_Content_readTag 343 = .ok (.iinc 6 1, 3) := by decide +kernel
theorem d_Content_readTag_346 : decode b_Content_readTag 346 = .ok (.goto (-261), 3) := by decide +kernel
theorem d_Content_readTag_349 : decode b_Content_readTag 349 = .ok (.aload_n 0, 1) := by decide +kernel
theorem d_Content_readTag_350 : decode b_Content_readTag 350 = .ok (.getfield 15, 3) := by decide +kernel
theorem d_Content_readTag_353 : decode b_Content_readTag 353 = .ok (.ldc_w 276, 3) := by decide +kernel
theorem d_Content_readTag_356 : decode b_Content_readTag 356 = .ok (.invokevirtual 155, 3) := by decide +kernel
theorem d_Content_readTag_359 : decode b_Content_readTag 359 = .ok (.istore 6, 2) := by decide +kernel
theorem d_Content_readTag_361 : decode b_Content_readTag 361 = .ok (.aload_n 0, 1) := by decide +kernel
theorem d_Content_readTag_362 : decode b_Content_readTag 362 = .ok (.getfield 15, 3) := by decide +kernel
theorem d_Content_readTag_365 : decode b_Content_readTag 365 = .ok (.ldc 253, 2) := by decide +kernel
theorem d_Content_readTag_367 : decode b_Content_readTag 367 = .ok (.invokevirtual 119, 3) := by decide +kernel
theorem d_Content_readTag_370 : decode b_Content_readTag 370 = .ok (.iload_n 1, 1) := by decide +kernel
theorem d_Content_readTag_371 : decode b_Content_readTag 371 = .ok (.ifCond .eq 22, 3) := by decide +kernel
theorem d_Content_readTag_374 : decode b_Content_readTag 374 = .ok (.aload_n 0, 1) := by decide +kernel
theorem d_Content_readTag_375 : decode b_Content_readTag 375 = .ok (.getfield 15, 3) := by decide +kernel
theorem d_Content_readTag_378 : decode b_Content_readTag 378 = .ok (.getfield 64, 3) := by decide +kernel
theorem d_Content_readTag_381 : decode b_Content_readTag 381 = .ok (.ifCond .ne 12, 3) := by decide +kernel
theorem d_Content_readTag_384 : decode b_Content_readTag 384 = .ok (.aload_n 0, 1) := by decide +kernel
theorem d_Content_readTag_385 : decode b_Content_readTag 385 = .ok (.iload_n 3, 1) := by decide +kernel
theorem d_Content_readTag_386 : decode b_Content_readTag 386 = .ok (.iload 4, 2) := by decide +kernel
theorem d_Content_readTag_388 : decode b_Content_readTag 388 = .ok (.iload 6, 2) := by decide +kernel
theorem d_Content_readTag_390 : decode b_Content_readTag 390 = .ok (.invokevirtual 300, 3) := by decide +kernel
theorem d_Content_readTag_393 : decode b_Content_readTag 393 = .ok (.return_, 1) := by decide +kernel
/-- Content_readTag -/
def w_Content_readTag (L : Nat → Nat) (a1 : Int) (Q : IS → Prop) (σ : IS) : Prop := w_Reader_need L 1019 (fun σ1 => w_Reader_readName L  (fun v4 σ3 => WJ (fun (s7 : Int) (σ8 : IS) => WJ (fun (s11 : Int) (σ12 : IS) => WJ (fun (s15 : Unit) (σ16 : IS) => w_Reader_skipSpace L  (fun v18 σ17 => WL (fun (K19 : Int × Int → IS → Prop) (s21 : Int × Int) (σ22 : IS) => WJ (fun (s25 : Unit) (σ26 : IS) => w_Reader_skip L 1020 (fun v28 σ27 => w_Reader_need L 1018 (fun σ29 => WJ (fun (s33 : Unit) (σ34 : IS) => Q σ34) (fun J31 => if ¬ a1 = 0 ∧ ((σ29.1 2 4) = 0) then w_Content_finishTag L s7 s11 v28 (fun σ35 => J31 () σ35) σ29 else J31 () σ29)) σ27) σ26) (fun J23 => if s21.2 < 1000000 ∧ ((σ22.1 2 4) = 0) then w_Reader_at L 1018 (fun v43 σ42 => if v43 = 0 then w_Reader_at L 1020 (fun v46 σ45 => if v46 = 0 then WJ (fun (s50 : Unit) (σ51 : IS) => w_Reader_readName L  (fun v53 σ52 => WJ (fun (s56 : Int) (σ57 : IS) => WJ (fun (s60 : Unit) (σ61 : IS) => w_Reader_skipSpace L  (fun v63 σ62 => w_Reader_need L 1012 (fun σ64 => w_Reader_skipSpace L  (fun v67 σ66 => WJ (fun (s70 : Unit) (σ71 : IS) => w_Reader_skipSpace L  (fun v73 σ72 => inR (s21.2 + 1) ∧ K19 (v73, (s21.2 + 1)) σ72) σ71) (fun J68 => if a1 = 0 then w_Reader_checkValue L  (fun σ93 => J68 () σ93) σ66 else if (σ66.1 2 4) = 0 then inL L 155 s56 ∧ w_Declared_find L s7 s56 (fun v78 σ77 => w_Entities_readValue L  (fun v80 σ79 => ((¬ v78 = (-1) → inL L 118 v78)) ∧ w_Entities_keepValue L v80 (if v78 = (-1) then (10 : Int) else (σ79.2 118 (Int.toNat v78))) (fun v83 σ82 => w_Tree_addAttribute L s56 v83 v78 1 (fun σ84 => J68 () σ84) σ82) σ79) σ77) (pr σ66 155 (Int.toNat s56) s11) else J68 () σ66)) σ64) σ62) σ61) (fun J58 => ((¬ a1 = 0 → inL L 155 s56)) ∧ if ¬ a1 = 0 ∧ ((σ57.2 155 (Int.toNat s56)) = s11) then w_Reader_fail L 8 (fun σ96 => J58 () σ96) σ57 else J58 () σ57)) (fun J54 => if a1 = 0 then J54 (-1) σ52 else inR ((σ52.1 2 2) - v53) ∧ w_Store_intern L v53 ((σ52.1 2 2) - v53) (fun v107 σ106 => J54 v107 σ106) σ52)) σ51) (fun J48 => if s21.1 = 0 then w_Reader_fail L 5 (fun σ110 => J48 () σ110) σ45 else J48 () σ45) else J23 () σ45) σ42 else J23 () σ42) σ22 else J23 () σ22)) (v18, 0) σ17) σ16) (fun J13 => if a1 = 0 then J13 () σ12 else w_Tree_beginElement L s7 (fun σ118 => J13 () σ118) σ12)) (fun J9 => if a1 = 0 then J9 0 σ8 else w_Store_newMark L  (fun v122 σ121 => J9 v122 σ121) σ8)) (fun J5 => if a1 = 0 then J5 (-1) σ3 else inR ((σ3.1 2 2) - v4) ∧ w_Store_intern L v4 ((σ3.1 2 2) - v4) (fun v125 σ124 => J5 v125 σ124) σ3)) σ1) σ
set_option maxHeartbeats 4000000 in
set_option maxRecDepth 20000 in
theorem s_Content_readTag {L : Nat → Nat} (hL : ∀ r, L r < 2147483648) {d : Nat} (hd : 4 ≤ d) {a1 : Int} {Q : IS → Prop} {σ : IS}  (h : w_Content_readTag L a1 Q σ) : OkI BF L d 7 b_Content_readTag 12 0 0 [] [some (.inr 7), some (.inl a1)] σ (qv Q) := by
  unfold w_Content_readTag at h
  obtain ⟨d, rfl⟩ : ∃ e, d = e + 1 := ⟨d - 1, by omega⟩
  refine k_sb (lv' := [some (.inr 7), some (.inl a1), none, none, none, none, none, none, none, none, none, none]) (sb_s (sb_s (sb_e (sb_e (sb_e (sb_e (sb_e (sb_e (sb_e (sb_e (sb_e (sb_e sb_nil)))))))))))) ?_
  refine k_aload_n d_Content_readTag_0 rfl ?_
  refine k_getR d_Content_readTag_1 fl_7_15 ob_7 rfl ?_
  refine k_ldcw d_Content_readTag_4 ks_7_265 rfl ?_
  refine k_cvv [.inr 1019] d_Content_readTag_7 ml_7_119 rfl rfl ob_2 rfl (s_Reader_need hL (by omega) it_1019 h) (fun σ1 h => ?_)
  refine k_aload_n d_Content_readTag_10 rfl ?_
  refine k_getR d_Content_readTag_11 fl_7_15 ob_7 rfl ?_
  refine k_cvi [] d_Content_readTag_14 ml_7_250 rfl rfl ob_2 rfl (s_Reader_readName hL (by omega)  h) (fun v4 σ3 h => ?_)
  refine k_istore_n (lv' := [some (.inr 7), some (.inl a1), some (.inl v4), none, none, none, none, none, none, none, none, none]) d_Content_readTag_17 rfl rfl ?_
  refine k_iload_n d_Content_readTag_18 rfl ?_
  refine k_join (S := Int) (pc' := 43) (st' := fun s7 => [.inl s7]) (lv' := fun s7 => [some (.inr 7), some (.inl a1), none, none, none, none, none, none, none, none, none, none]) (fun s7 σ8 h => ?_) (fun J5 hJ6 h => ?_) h
  · refine k_istore_n (lv' := [some (.inr 7), some (.inl a1), none, some (.inl s7), none, none, none, none, none, none, none, none]) d_Content_readTag_43 rfl rfl ?_
    refine k_iload_n d_Content_readTag_44 rfl ?_
    refine k_join (S := Int) (pc' := 59) (st' := fun s11 => [.inl s11]) (lv' := fun s11 => [some (.inr 7), some (.inl a1), none, some (.inl s7), none, none, none, none, none, none, none, none]) (fun s11 σ12 h => ?_) (fun J9 hJ10 h => ?_) h
    · refine k_istore (lv' := [some (.inr 7), some (.inl a1), none, some (.inl s7), some (.inl s11), none, none, none, none, none, none, none]) d_Content_readTag_59 rfl rfl ?_
      refine k_iload_n d_Content_readTag_61 rfl ?_
      refine k_join (S := Unit) (pc' := 73) (st' := fun s15 => []) (lv' := fun s15 => [some (.inr 7), some (.inl a1), none, some (.inl s7), some (.inl s11), none, none, none, none, none, none, none]) (fun s15 σ16 h => ?_) (fun J13 hJ14 h => ?_) h
      · refine k_aload_n d_Content_readTag_73 rfl ?_
        refine k_getR d_Content_readTag_74 fl_7_15 ob_7 rfl ?_
        refine k_cvi [] d_Content_readTag_77 ml_7_140 rfl rfl ob_2 rfl (s_Reader_skipSpace hL (by omega)  h) (fun v18 σ17 h => ?_)
        refine k_istore (lv' := [some (.inr 7), some (.inl a1), none, some (.inl s7), some (.inl s11), some (.inl v18), none, none, none, none, none, none]) d_Content_readTag_80 rfl rfl ?_
        refine k_iconst d_Content_readTag_82 cI_0 ?_
        refine k_istore (lv' := [some (.inr 7), some (.inl a1), none, some (.inl s7), some (.inl s11), some (.inl v18), some (.inl 0), none, none, none, none, none]) d_Content_readTag_83 rfl rfl ?_
        refine k_sb (lv' := [some (.inr 7), some (.inl a1), none, some (.inl s7), some (.inl s11), some (.inl v18), some (.inl 0), none, none, none, none, none]) (sb_s (sb_s (sb_s (sb_s (sb_s (sb_s (sb_s (sb_s (sb_s (sb_s (sb_s (sb_s sb_nil)))))))))))) ?_
        refine k_loop (S := Int × Int) (st := fun _ => []) (lv := fun s21 => [some (.inr 7), some (.inl a1), none, some (.inl s7), some (.inl s11), some (.inl s21.1), some (.inl s21.2), none, none, none, none, none]) (fun K19 hK20 s21 σ22 h => ?_) (v18, 0) _ h
        refine k_iload d_Content_readTag_85 rfl ?_
        refine k_ldc d_Content_readTag_87 ks_7_63 cL_1000000 ?_
        refine k_join (S := Unit) (pc' := 349) (st' := fun s25 => []) (lv' := fun s25 => [some (.inr 7), some (.inl a1), none, some (.inl s7), some (.inl s11), none, none, none, none, none, none, none]) (fun s25 σ26 h => ?_) (fun J23 hJ24 h => ?_) h
        · refine k_aload_n d_Content_readTag_349 rfl ?_
          refine k_getR d_Content_readTag_350 fl_7_15 ob_7 rfl ?_
          refine k_ldcw d_Content_readTag_353 ks_7_276 rfl ?_
          refine k_cvi [.inr 1020] d_Content_readTag_356 ml_7_155 rfl rfl ob_2 rfl (s_Reader_skip hL (by omega) it_1020 h) (fun v28 σ27 h => ?_)
          refine k_istore (lv' := [some (.inr 7), some (.inl a1), none, some (.inl s7), some (.inl s11), none, some (.inl v28), none, none, none, none, none]) d_Content_readTag_359 rfl rfl ?_
          refine k_aload_n d_Content_readTag_361 rfl ?_
          refine k_getR d_Content_readTag_362 fl_7_15 ob_7 rfl ?_
          refine k_ldc d_Content_readTag_365 ks_7_253 rfl ?_
          refine k_cvv [.inr 1018] d_Content_readTag_367 ml_7_119 rfl rfl ob_2 rfl (s_Reader_need hL (by omega) it_1018 h) (fun σ29 h => ?_)
          refine k_iload_n d_Content_readTag_370 rfl ?_
          refine k_join (S := Unit) (pc' := 393) (st' := fun s33 => []) (lv' := fun s33 => [none, none, none, none, none, none, none, none, none, none, none, none]) (fun s33 σ34 h => ?_) (fun J31 hJ32 h => ?_) h
          · exact k_ret d_Content_readTag_393 h
          · have hX37 : (¬ a1 = 0 ∧ ((σ29.1 2 4) = 0)) → OkI BF L (d + 1) 7 b_Content_readTag 12 0 384 [] [some (.inr 7), some (.inl a1), none, some (.inl s7), some (.inl s11), none, some (.inl v28), none, none, none, none, none] σ29 (qv Q) := fun e39 => by
              have h := ipos e39 h
              refine k_aload_n d_Content_readTag_384 rfl ?_
              refine k_iload_n d_Content_readTag_385 rfl ?_
              refine k_iload d_Content_readTag_386 rfl ?_
              refine k_iload d_Content_readTag_388 rfl ?_
              refine k_cvv [.inl s7, .inl s11, .inl v28] d_Content_readTag_390 ml_7_300 rfl rfl ob_7 rfl (s_Content_finishTag hL (by omega)  h) (fun σ35 h => ?_)
              exact k_sb (sb_n (sb_n (sb_s (sb_n (sb_n (sb_s (sb_n (sb_s (sb_s (sb_s (sb_s (sb_s sb_nil)))))))))))) (hJ32 () _ h)
            have hY38 : ¬ (¬ a1 = 0 ∧ ((σ29.1 2 4) = 0)) → OkI BF L (d + 1) 7 b_Content_readTag 12 0 393 [] [some (.inr 7), some (.inl a1), none, some (.inl s7), some (.inl s11), none, some (.inl v28), none, none, none, none, none] σ29 (qv Q) := fun e39 => by
              have h := ineg e39 h
              exact k_sb (sb_n (sb_n (sb_s (sb_n (sb_n (sb_s (sb_n (sb_s (sb_s (sb_s (sb_s (sb_s sb_nil)))))))))))) (hJ32 () _ h)
            refine k_ifeq d_Content_readTag_371 rfl (fun c40 => ?_) (fun c40 => ?_)
            · exact hY38 (fun z => z.1 c40)
            · refine k_aload_n d_Content_readTag_374 rfl ?_
              refine k_getR d_Content_readTag_375 fl_7_15 ob_7 rfl ?_
              refine k_getI (x := (σ29.1 2 4)) d_Content_readTag_378 fl_7_64 ob_2 rfl rfl ?_
              refine k_ifne d_Content_readTag_381 rfl (fun c41 => ?_) (fun c41 => ?_)
              · exact hY38 (fun z => (c41) z.2)
              · exact hX37 (⟨c40, c41⟩)
        · have hX112 : (s21.2 < 1000000 ∧ ((σ22.1 2 4) = 0)) → OkI BF L (d + 1) 7 b_Content_readTag 12 0 102 [] [some (.inr 7), some (.inl a1), none, some (.inl s7), some (.inl s11), some (.inl s21.1), some (.inl s21.2), none, none, none, none, none] σ22 (qv Q) := fun e114 => by
            have h := ipos e114 h
            refine k_aload_n d_Content_readTag_102 rfl ?_
            refine k_getR d_Content_readTag_103 fl_7_15 ob_7 rfl ?_
            refine k_ldc d_Content_readTag_106 ks_7_253 rfl ?_
            refine k_cvi [.inr 1018] d_Content_readTag_108 ml_7_37 rfl rfl ob_2 rfl (s_Reader_at hL (by omega) it_1018 h) (fun v43 σ42 h => ?_)
            refine k_ifne d_Content_readTag_111 rfl (fun c44 => ?_) (fun c44 => ?_)
            · have h := ineg c44 h
              exact k_sb (sb_s (sb_s (sb_s (sb_s (sb_s (sb_n (sb_n (sb_s (sb_s (sb_s (sb_s (sb_s sb_nil)))))))))))) (hJ24 () _ h)
            · have h := ipos c44 h
              refine k_aload_n d_Content_readTag_114 rfl ?_
              refine k_getR d_Content_readTag_115 fl_7_15 ob_7 rfl ?_
              refine k_ldcw d_Content_readTag_118 ks_7_276 rfl ?_
              refine k_cvi [.inr 1020] d_Content_readTag_121 ml_7_37 rfl rfl ob_2 rfl (s_Reader_at hL (by omega) it_1020 h) (fun v46 σ45 h => ?_)
              refine k_ifne d_Content_readTag_124 rfl (fun c47 => ?_) (fun c47 => ?_)
              · have h := ineg c47 h
                exact k_sb (sb_s (sb_s (sb_s (sb_s (sb_s (sb_n (sb_n (sb_s (sb_s (sb_s (sb_s (sb_s sb_nil)))))))))))) (hJ24 () _ h)
              · have h := ipos c47 h
                refine k_iload d_Content_readTag_127 rfl ?_
                refine k_join (S := Unit) (pc' := 140) (st' := fun s50 => []) (lv' := fun s50 => [some (.inr 7), some (.inl a1), none, some (.inl s7), some (.inl s11), none, some (.inl s21.2), none, none, none, none, none]) (fun s50 σ51 h => ?_) (fun J48 hJ49 h => ?_) h
                · refine k_aload_n d_Content_readTag_140 rfl ?_
                  refine k_getR d_Content_readTag_141 fl_7_15 ob_7 rfl ?_
                  refine k_cvi [] d_Content_readTag_144 ml_7_250 rfl rfl ob_2 rfl (s_Reader_readName hL (by omega)  h) (fun v53 σ52 h => ?_)
                  refine k_istore (lv' := [some (.inr 7), some (.inl a1), none, some (.inl s7), some (.inl s11), none, some (.inl s21.2), some (.inl v53), none, none, none, none]) d_Content_readTag_147 rfl rfl ?_
                  refine k_iload_n d_Content_readTag_149 rfl ?_
                  refine k_join (S := Int) (pc' := 176) (st' := fun s56 => [.inl s56]) (lv' := fun s56 => [some (.inr 7), some (.inl a1), none, some (.inl s7), some (.inl s11), none, some (.inl s21.2), none, none, none, none, none]) (fun s56 σ57 h => ?_) (fun J54 hJ55 h => ?_) h
                  · refine k_istore (lv' := [some (.inr 7), some (.inl a1), none, some (.inl s7), some (.inl s11), none, some (.inl s21.2), none, some (.inl s56), none, none, none]) d_Content_readTag_176 rfl rfl ?_
                    refine k_iload_n d_Content_readTag_178 rfl ?_
                    refine k_join (S := Unit) (pc' := 206) (st' := fun s60 => []) (lv' := fun s60 => [some (.inr 7), some (.inl a1), none, some (.inl s7), some (.inl s11), none, some (.inl s21.2), none, some (.inl s56), none, none, none]) (fun s60 σ61 h => ?_) (fun J58 hJ59 h => ?_) h
                    · refine k_aload_n d_Content_readTag_206 rfl ?_
                      refine k_getR d_Content_readTag_207 fl_7_15 ob_7 rfl ?_
                      refine k_cvi [] d_Content_readTag_210 ml_7_140 rfl rfl ob_2 rfl (s_Reader_skipSpace hL (by omega)  h) (fun v63 σ62 h => ?_)
                      refine k_pop d_Content_readTag_213 ?_
                      refine k_aload_n d_Content_readTag_214 rfl ?_
                      refine k_getR d_Content_readTag_215 fl_7_15 ob_7 rfl ?_
                      refine k_ldc d_Content_readTag_218 ks_7_175 rfl ?_
                      refine k_cvv [.inr 1012] d_Content_readTag_220 ml_7_119 rfl rfl ob_2 rfl (s_Reader_need hL (by omega) it_1012 h) (fun σ64 h => ?_)
                      refine k_aload_n d_Content_readTag_223 rfl ?_
                      refine k_getR d_Content_readTag_224 fl_7_15 ob_7 rfl ?_
                      refine k_cvi [] d_Content_readTag_227 ml_7_140 rfl rfl ob_2 rfl (s_Reader_skipSpace hL (by omega)  h) (fun v67 σ66 h => ?_)
                      refine k_pop d_Content_readTag_230 ?_
                      refine k_iload_n d_Content_readTag_231 rfl ?_
                      refine k_join (S := Unit) (pc' := 334) (st' := fun s70 => []) (lv' := fun s70 => [some (.inr 7), some (.inl a1), none, some (.inl s7), some (.inl s11), none, some (.inl s21.2), none, none, none, none, none]) (fun s70 σ71 h => ?_) (fun J68 hJ69 h => ?_) h
                      · refine k_aload_n d_Content_readTag_334 rfl ?_
                        refine k_getR d_Content_readTag_335 fl_7_15 ob_7 rfl ?_
                        refine k_cvi [] d_Content_readTag_338 ml_7_140 rfl rfl ob_2 rfl (s_Reader_skipSpace hL (by omega)  h) (fun v73 σ72 h => ?_)
                        refine k_istore (lv' := [some (.inr 7), some (.inl a1), none, some (.inl s7), some (.inl s11), some (.inl v73), some (.inl s21.2), none, none, none, none, none]) d_Content_readTag_341 rfl rfl ?_
                        obtain ⟨p74, h⟩ := h
                        refine k_iinc (lv' := [some (.inr 7), some (.inl a1), none, some (.inl s7), some (.inl s11), some (.inl v73), some (.inl (s21.2 + 1)), none, none, none, none, none]) d_Content_readTag_343 cI_1 rfl rfl p74 rfl ?_
                        refine k_goto d_Content_readTag_346 rfl ?_
                        exact k_sb (sb_s (sb_s (sb_s (sb_s (sb_s (sb_s (sb_s (sb_s (sb_s (sb_s (sb_s (sb_s sb_nil)))))))))))) (hK20 (v73, (s21.2 + 1)) _ h)
                      · refine k_ifne d_Content_readTag_232 rfl (fun c75 => ?_) (fun c75 => ?_)
                        · have h := ineg c75 h
                          refine k_aload_n d_Content_readTag_245 rfl ?_
                          refine k_getR d_Content_readTag_246 fl_7_15 ob_7 rfl ?_
                          refine k_getI (x := (σ66.1 2 4)) d_Content_readTag_249 fl_7_64 ob_2 rfl rfl ?_
                          refine k_ifne d_Content_readTag_252 rfl (fun c76 => ?_) (fun c76 => ?_)
                          · have h := ineg c76 h
                            exact k_sb (sb_s (sb_s (sb_s (sb_s (sb_s (sb_s (sb_s (sb_s (sb_n (sb_s (sb_s (sb_s sb_nil)))))))))))) (hJ69 () _ h)
                          · have h := ipos c76 h
                            refine k_aload_n d_Content_readTag_255 rfl ?_
                            refine k_getR d_Content_readTag_256 fl_7_9 ob_7 rfl ?_
                            refine k_getR d_Content_readTag_259 fl_7_278 ob_1 rfl ?_
                            refine k_iload d_Content_readTag_262 rfl ?_
                            refine k_iload d_Content_readTag_264 rfl ?_
                            obtain ⟨p92, h⟩ := h
                            refine k_ist d_Content_readTag_266 rI_155 p92 ?_
                            refine k_aload_n d_Content_readTag_267 rfl ?_
                            refine k_getR d_Content_readTag_268 fl_7_23 ob_7 rfl ?_
                            refine k_iload_n d_Content_readTag_271 rfl ?_
                            refine k_iload d_Content_readTag_272 rfl ?_
                            refine k_cvi [.inl s7, .inl s56] d_Content_readTag_274 ml_7_284 rfl rfl ob_4 rfl (s_Declared_find hL (by omega)  h) (fun v78 σ77 h => ?_)
                            refine k_istore (lv' := [some (.inr 7), some (.inl a1), none, some (.inl s7), some (.inl s11), none, some (.inl s21.2), none, some (.inl s56), some (.inl v78), none, none]) d_Content_readTag_277 rfl rfl ?_
                            refine k_aload_n d_Content_readTag_279 rfl ?_
                            refine k_getR d_Content_readTag_280 fl_7_19 ob_7 rfl ?_
                            refine k_cvi [] d_Content_readTag_283 ml_7_287 rfl rfl ob_3 rfl (s_Entities_readValue hL (by omega)  h) (fun v80 σ79 h => ?_)
                            refine k_istore (lv' := [some (.inr 7), some (.inl a1), none, some (.inl s7), some (.inl s11), none, some (.inl s21.2), none, some (.inl s56), some (.inl v78), some (.inl v80), none]) d_Content_readTag_286 rfl rfl ?_
                            refine k_aload_n d_Content_readTag_288 rfl ?_
                            refine k_getR d_Content_readTag_289 fl_7_19 ob_7 rfl ?_
                            refine k_iload d_Content_readTag_292 rfl ?_
                            refine k_iload d_Content_readTag_294 rfl ?_
                            refine k_iconst d_Content_readTag_296 cI_m1 ?_
                            obtain ⟨pt87, h⟩ := h
                            have hV86 : OkI BF L (d + 1) 7 b_Content_readTag 12 0 315 [.inl (if v78 = (-1) then (10 : Int) else (σ79.2 118 (Int.toNat v78))), .inl v80, .inr 3] [some (.inr 7), some (.inl a1), none, some (.inl s7), some (.inl s11), none, some (.inl s21.2), none, some (.inl s56), some (.inl v78), some (.inl v80), none] σ79 (qv Q) := by
                              refine k_cvi [.inl v80, .inl (if v78 = (-1) then (10 : Int) else (σ79.2 118 (Int.toNat v78)))] d_Content_readTag_315 ml_7_293 rfl rfl ob_3 rfl (s_Entities_keepValue hL (by omega)  h) (fun v83 σ82 h => ?_)
                              refine k_istore (lv' := [some (.inr 7), some (.inl a1), none, some (.inl s7), some (.inl s11), none, some (.inl s21.2), none, some (.inl s56), some (.inl v78), some (.inl v80), some (.inl v83)]) d_Content_readTag_318 rfl rfl ?_
                              refine k_aload_n d_Content_readTag_320 rfl ?_
                              refine k_getR d_Content_readTag_321 fl_7_31 ob_7 rfl ?_
                              refine k_iload d_Content_readTag_324 rfl ?_
                              refine k_iload d_Content_readTag_326 rfl ?_
                              refine k_iload d_Content_readTag_328 rfl ?_
                              refine k_iconst d_Content_readTag_330 cI_1 ?_
                              refine k_cvv [.inl s56, .inl v83, .inl v78, .inl 1] d_Content_readTag_331 ml_7_296 rfl rfl ob_6 rfl (s_Tree_addAttribute hL (by omega)  h) (fun σ84 h => ?_)
                              exact k_sb (sb_s (sb_s (sb_s (sb_s (sb_s (sb_s (sb_s (sb_s (sb_n (sb_n (sb_n (sb_n sb_nil)))))))))))) (hJ69 () _ h)
                            have pb88 := pt87
                            refine k_icne d_Content_readTag_297 rfl (fun c89 => ?_) (fun c89 => ?_)
                            · have pb88 := pb88 c89
                              have hV91 := k_eqI (if_neg c89) hV86
                              have p81 := pb88
                              refine k_aload_n d_Content_readTag_305 rfl ?_
                              refine k_getR d_Content_readTag_306 fl_7_23 ob_7 rfl ?_
                              refine k_getR d_Content_readTag_309 fl_7_290 ob_4 rfl ?_
                              refine k_iload d_Content_readTag_312 rfl ?_
                              refine k_ild (x := (σ79.2 118 (Int.toNat v78))) d_Content_readTag_314 rI_118 p81 rfl ?_
                              exact hV91
                            · have hV90 := k_eqI (if_pos c89) hV86
                              refine k_bipush d_Content_readTag_300 cB_10 ?_
                              refine k_goto d_Content_readTag_302 rfl ?_
                              exact hV90
                        · have h := ipos c75 h
                          refine k_aload_n d_Content_readTag_235 rfl ?_
                          refine k_getR d_Content_readTag_236 fl_7_15 ob_7 rfl ?_
                          refine k_cvv [] d_Content_readTag_239 ml_7_281 rfl rfl ob_2 rfl (s_Reader_checkValue hL (by omega)  h) (fun σ93 h => ?_)
                          refine k_goto d_Content_readTag_242 rfl ?_
                          exact k_sb (sb_s (sb_s (sb_s (sb_s (sb_s (sb_s (sb_s (sb_s (sb_n (sb_s (sb_s (sb_s sb_nil)))))))))))) (hJ69 () _ h)
                    · obtain ⟨pt101, h⟩ := h
                      have hX98 : (¬ a1 = 0 ∧ ((σ57.2 155 (Int.toNat s56)) = s11)) → OkI BF L (d + 1) 7 b_Content_readTag 12 0 197 [] [some (.inr 7), some (.inl a1), none, some (.inl s7), some (.inl s11), none, some (.inl s21.2), none, some (.inl s56), none, none, none] σ57 (qv Q) := fun e100 => by
                        have h := ipos e100 h
                        refine k_aload_n d_Content_readTag_197 rfl ?_
                        refine k_getR d_Content_readTag_198 fl_7_15 ob_7 rfl ?_
                        refine k_bipush d_Content_readTag_201 cB_8 ?_
                        refine k_cvv [.inl 8] d_Content_readTag_203 ml_7_108 rfl rfl ob_2 rfl (s_Reader_fail hL (by omega)  h) (fun σ96 h => ?_)
                        exact k_sb (sb_s (sb_s (sb_s (sb_s (sb_s (sb_s (sb_s (sb_s (sb_s (sb_s (sb_s (sb_s sb_nil)))))))))))) (hJ59 () _ h)
                      have hY99 : ¬ (¬ a1 = 0 ∧ ((σ57.2 155 (Int.toNat s56)) = s11)) → OkI BF L (d + 1) 7 b_Content_readTag 12 0 206 [] [some (.inr 7), some (.inl a1), none, some (.inl s7), some (.inl s11), none, some (.inl s21.2), none, some (.inl s56), none, none, none] σ57 (qv Q) := fun e100 => by
                        have h := ineg e100 h
                        exact k_sb (sb_s (sb_s (sb_s (sb_s (sb_s (sb_s (sb_s (sb_s (sb_s (sb_s (sb_s (sb_s sb_nil)))))))))))) (hJ59 () _ h)
                      have pb102 := pt101
                      refine k_ifeq d_Content_readTag_179 rfl (fun c103 => ?_) (fun c103 => ?_)
                      · exact hY99 (fun z => z.1 c103)
                      · have pb102 := pb102 c103
                        have p95 := pb102
                        refine k_aload_n d_Content_readTag_182 rfl ?_
                        refine k_getR d_Content_readTag_183 fl_7_9 ob_7 rfl ?_
                        refine k_getR d_Content_readTag_186 fl_7_278 ob_1 rfl ?_
                        refine k_iload d_Content_readTag_189 rfl ?_
                        refine k_ild (x := (σ57.2 155 (Int.toNat s56))) d_Content_readTag_191 rI_155 p95 rfl ?_
                        refine k_iload d_Content_readTag_192 rfl ?_
                        refine k_icne d_Content_readTag_194 rfl (fun c104 => ?_) (fun c104 => ?_)
                        · exact hY99 (fun z => (c104) z.2)
                        · exact hX98 (⟨c103, c104⟩)
                  · refine k_ifeq d_Content_readTag_150 rfl (fun c105 => ?_) (fun c105 => ?_)
                    · have h := ipos c105 h
                      refine k_iconst d_Content_readTag_175 cI_m1 ?_
                      exact k_sb (sb_s (sb_s (sb_s (sb_s (sb_s (sb_s (sb_s (sb_n (sb_s (sb_s (sb_s (sb_s sb_nil)))))))))))) (hJ55 (-1) _ h)
                    · have h := ineg c105 h
                      refine k_aload_n d_Content_readTag_153 rfl ?_
                      refine k_getR d_Content_readTag_154 fl_7_9 ob_7 rfl ?_
                      refine k_iload d_Content_readTag_157 rfl ?_
                      refine k_aload_n d_Content_readTag_159 rfl ?_
                      refine k_getR d_Content_readTag_160 fl_7_15 ob_7 rfl ?_
                      refine k_getI (x := (σ52.1 2 2)) d_Content_readTag_163 fl_7_47 ob_2 rfl rfl ?_
                      refine k_iload d_Content_readTag_166 rfl ?_
                      obtain ⟨p108, h⟩ := h
                      refine k_isub d_Content_readTag_168 p108 ?_
                      refine k_cvi [.inl v53, .inl ((σ52.1 2 2) - v53)] d_Content_readTag_169 ml_7_267 rfl rfl ob_1 rfl (s_Store_intern hL (by omega) stB_BF h) (fun v107 σ106 h => ?_)
                      refine k_goto d_Content_readTag_172 rfl ?_
                      exact k_sb (sb_s (sb_s (sb_s (sb_s (sb_s (sb_s (sb_s (sb_n (sb_s (sb_s (sb_s (sb_s sb_nil)))))))))))) (hJ55 v107 _ h)
                · refine k_ifne d_Content_readTag_129 rfl (fun c109 => ?_) (fun c109 => ?_)
                  · have h := ineg c109 h
                    exact k_sb (sb_s (sb_s (sb_s (sb_s (sb_s (sb_n (sb_s (sb_s (sb_s (sb_s (sb_s (sb_s sb_nil)))))))))))) (hJ49 () _ h)
                  · have h := ipos c109 h
                    refine k_aload_n d_Content_readTag_132 rfl ?_
                    refine k_getR d_Content_readTag_133 fl_7_15 ob_7 rfl ?_
                    refine k_iconst d_Content_readTag_136 cI_5 ?_
                    refine k_cvv [.inl 5] d_Content_readTag_137 ml_7_108 rfl rfl ob_2 rfl (s_Reader_fail hL (by omega)  h) (fun σ110 h => ?_)
                    exact k_sb (sb_s (sb_s (sb_s (sb_s (sb_s (sb_n (sb_s (sb_s (sb_s (sb_s (sb_s (sb_s sb_nil)))))))))))) (hJ49 () _ h)
          have hY113 : ¬ (s21.2 < 1000000 ∧ ((σ22.1 2 4) = 0)) → OkI BF L (d + 1) 7 b_Content_readTag 12 0 349 [] [some (.inr 7), some (.inl a1), none, some (.inl s7), some (.inl s11), some (.inl s21.1), some (.inl s21.2), none, none, none, none, none] σ22 (qv Q) := fun e114 => by
            have h := ineg e114 h
            exact k_sb (sb_s (sb_s (sb_s (sb_s (sb_s (sb_n (sb_n (sb_s (sb_s (sb_s (sb_s (sb_s sb_nil)))))))))))) (hJ24 () _ h)
          refine k_icge d_Content_readTag_89 rfl (fun c115 => ?_) (fun c115 => ?_)
          · exact hY113 (fun z => c115 z.1)
          · refine k_aload_n d_Content_readTag_92 rfl ?_
            refine k_getR d_Content_readTag_93 fl_7_15 ob_7 rfl ?_
            refine k_getI (x := (σ22.1 2 4)) d_Content_readTag_96 fl_7_64 ob_2 rfl rfl ?_
            refine k_ifne d_Content_readTag_99 rfl (fun c116 => ?_) (fun c116 => ?_)
            · exact hY113 (fun z => (c116) z.2)
            · exact hX112 (⟨c115, c116⟩)
      · refine k_ifeq d_Content_readTag_62 rfl (fun c117 => ?_) (fun c117 => ?_)
        · have h := ipos c117 h
          exact k_sb (sb_s (sb_s (sb_s (sb_s (sb_s (sb_s (sb_s (sb_s (sb_s (sb_s (sb_s (sb_s sb_nil)))))))))))) (hJ14 () _ h)
        · have h := ineg c117 h
          refine k_aload_n d_Content_readTag_65 rfl ?_
          refine k_getR d_Content_readTag_66 fl_7_31 ob_7 rfl ?_
          refine k_iload_n d_Content_readTag_69 rfl ?_
          refine k_cvv [.inl s7] d_Content_readTag_70 ml_7_273 rfl rfl ob_6 rfl (s_Tree_beginElement hL (by omega)  h) (fun σ118 h => ?_)
          exact k_sb (sb_s (sb_s (sb_s (sb_s (sb_s (sb_s (sb_s (sb_s (sb_s (sb_s (sb_s (sb_s sb_nil)))))))))))) (hJ14 () _ h)
    · refine k_ifeq d_Content_readTag_45 rfl (fun c120 => ?_) (fun c120 => ?_)
      · have h := ipos c120 h
        refine k_iconst d_Content_readTag_58 cI_0 ?_
        exact k_sb (sb_s (sb_s (sb_s (sb_s (sb_s (sb_s (sb_s (sb_s (sb_s (sb_s (sb_s (sb_s sb_nil)))))))))))) (hJ10 0 _ h)
      · have h := ineg c120 h
        refine k_aload_n d_Content_readTag_48 rfl ?_
        refine k_getR d_Content_readTag_49 fl_7_9 ob_7 rfl ?_
        refine k_cvi [] d_Content_readTag_52 ml_7_270 rfl rfl ob_1 rfl (s_Store_newMark hL (by omega)  h) (fun v122 σ121 h => ?_)
        refine k_goto d_Content_readTag_55 rfl ?_
        exact k_sb (sb_s (sb_s (sb_s (sb_s (sb_s (sb_s (sb_s (sb_s (sb_s (sb_s (sb_s (sb_s sb_nil)))))))))))) (hJ10 v122 _ h)
  · refine k_ifeq d_Content_readTag_19 rfl (fun c123 => ?_) (fun c123 => ?_)
    · have h := ipos c123 h
      refine k_iconst d_Content_readTag_42 cI_m1 ?_
      exact k_sb (sb_s (sb_s (sb_n (sb_s (sb_s (sb_s (sb_s (sb_s (sb_s (sb_s (sb_s (sb_s sb_nil)))))))))))) (hJ6 (-1) _ h)
    · have h := ineg c123 h
      refine k_aload_n d_Content_readTag_22 rfl ?_
      refine k_getR d_Content_readTag_23 fl_7_9 ob_7 rfl ?_
      refine k_iload_n d_Content_readTag_26 rfl ?_
      refine k_aload_n d_Content_readTag_27 rfl ?_
      refine k_getR d_Content_readTag_28 fl_7_15 ob_7 rfl ?_
      refine k_getI (x := (σ3.1 2 2)) d_Content_readTag_31 fl_7_47 ob_2 rfl rfl ?_
      refine k_iload_n d_Content_readTag_34 rfl ?_
      obtain ⟨p126, h⟩ := h
      refine k_isub d_Content_readTag_35 p126 ?_
      refine k_cvi [.inl v4, .inl ((σ3.1 2 2) - v4)] d_Content_readTag_36 ml_7_267 rfl rfl ob_1 rfl (s_Store_intern hL (by omega) stB_BF h) (fun v125 σ124 h => ?_)
      refine k_goto d_Content_readTag_39 rfl ?_
      exact k_sb (sb_s (sb_s (sb_n (sb_s (sb_s (sb_s (sb_s (sb_s (sb_s (sb_s (sb_s (sb_s sb_nil)))))))))))) (hJ6 v125 _ h)
theorem d_Content_readAll_12 : decode b_Content_readAll 12 = .ok (.aload_n 0, 1) := by decide +kernel
theorem d_Content_readAll_13 : decode b_Content_readAll 13 = .ok (.getfield 15, 3) := by decide +kernel
theorem d_Content_readAll_16 : decode b_Content_readAll 16 = .ok (.getfield 43, 3) := by decide +kernel
theorem d_Content_readAll_19 : decode b_Content_readAll 19 = .ok (.aload_n 0, 1) := by decide +kernel
theorem d_Content_readAll_20 : decode b_Content_readAll 20 = .ok (.getfield 15, 3) := by decide +kernel
theorem d_Content_readAll_23 : decode b_Content_readAll 23 = .ok (.getfield 47, 3) := by decide +kernel
theorem d_Content_readAll_26 : decode b_Content_readAll 26 = .ok (.isub, 1) := by decide +kernel
theorem d_Content_readAll_27 : decode b_Content_readAll 27 = .ok (.iconst 5, 1) := by decide +kernel
theorem d_Content_readAll_28 : decode b_Content_readAll 28 = .ok (.if_icmp .le 30, 3) := by decide +kernel
theorem d_Content_readAll_31 : decode b_Content_readAll 31 = .ok (.aload_n 0, 1) := by decide +kernel
theorem d_Content_readAll_32 : decode b_Content_readAll 32 = .ok (.getfield 9, 3) := by decide +kernel
theorem d_Content_readAll_35 : decode b_Content_readAll 35 = .ok (.getfield 50, 3) := by decide +kernel
theorem d_Content_readAll_38 : decode b_Content_readAll 38 = .ok (.aload_n 0, 1) := by decide +kernel
theorem d_Content_readAll_39 : decode b_Content_readAll 39 = .ok (.getfield 15, 3) := by decide +kernel
theorem d_Content_readAll_42 : decode b_Content_readAll 42 = .ok (.getfield 47, 3) := by decide +kernel
theorem d_Content_readAll_45 : decode b_Content_readAll 45 = .ok (.iconst 5, 1) := by decide +kernel
theorem d_Content_readAll_46 : decode b_Content_readAll 46 = .ok (.iadd, 1) := by decide +kernel
theorem d_Content_readAll_47 : decode b_Content_readAll 47 = .ok (.iaload, 1) := by decide +kernel
theorem d_Content_readAll_48 : decode b_Content_readAll 48 = .ok (.invokestatic 56, 3) := by decide +kernel
theorem d_Content_readAll_51 : decode b_Content_readAll 51 = .ok (.ifCond .eq 7, 3) := by decide +kernel
theorem d_Content_readAll_54 : decode b_Content_readAll 54 = .ok (.aload_n 0, 1) := by decide +kernel
theorem d_Content_readAll_55 : decode b_Content_readAll 55 = .ok (.invokevirtual 60, 3) := by decide +kernel
theorem d_Content_readAll_139 : decode b_Content_readAll 139 = .ok (.aload_n 0, 1) := by decide +kernel
theorem d_Content_readAll_140 : decode b_Content_readAll 140 = .ok (.getfield 27, 3) := by decide +kernel
theorem d_Content_readAll_143 : decode b_Content_readAll 143 = .ok (.getfield 82, 3) := by decide +kernel
theorem d_Content_readAll_146 : decode b_Content_readAll 146 = .ok (.ifCond .eq 13, 3) := by decide +kernel
theorem d_Content_readAll_149 : decode b_Content_readAll 149 = .ok (.aload_n 0, 1) := by decide +kernel
theorem d_Content_readAll_150 : decode b_Content_readAll 150 = .ok (.getfield 27, 3) := by decide +kernel
theorem d_Content_readAll_153 : decode b_Content_readAll 153 = .ok (.invokevirtual 88, 3) := by decide +kernel
theorem d_Content_readAll_156 : decode b_Content_readAll 156 = .ok (.goto 67, 3) := by decide +kernel
theorem d_Content_readAll_159 : decode b_Content_readAll 159 = .ok (.aload_n 0, 1) := by decide +kernel
theorem d_Content_readAll_160 : decode b_Content_readAll 160 = .ok (.getfield 31, 3) := by decide +kernel
theorem d_Content_readAll_163 : decode b_Content_readAll 163 = .ok (.getfield 91, 3) := by decide +kernel
theorem d_Content_readAll_166 : decode b_Content_readAll 166 = .ok (.iconst (-1), 1) := by decide +kernel
theorem d_Content_readAll_167 : decode b_Content_readAll 167 = .ok (.if_icmp .eq 13, 3) := by decide +kernel
theorem d_Content_readAll_170 : decode b_Content_readAll 170 = .ok (.aload_n 0, 1) := by decide +kernel
theorem d_Content_readAll_171 : decode b_Content_readAll 171 = .ok (.invokevirtual 95, 3) := by decide +kernel
theorem d_Content_readAll_174 : decode b_Content_readAll 174 = .ok (.ifCond .eq 49, 3) := by decide +kernel
theorem d_Content_readAll_177 : decode b_Content_readAll 177 = .ok (.goto 10, 3) := by decide +kernel
theorem d_Content_readAll_180 : decode b_Content_readAll 180 = .ok (.aload_n 0, 1) := by decide +kernel
theorem d_Content_readAll_181 : decode b_Content_readAll 181 = .ok (.invokevirtual 98, 3) := by decide +kernel
theorem d_Content_readAll_184 : decode b_Content_readAll 184 = .ok (.ifCond .eq 39, 3) := by decide +kernel
theorem d_Content_readAll_187 : decode b_Content_readAll 187 = .ok (.aload_n 0, 1) := by decide +kernel
theorem d_Content_readAll_188 : decode b_Content_readAll 188 = .ok (.getfield 15, 3) := by decide +kernel
theorem d_Content_readAll_191 : decode b_Content_readAll 191 = .ok (.getfield 47, 3) := by decide +kernel
theorem d_Content_readAll_194 : decode b_Content_readAll 194 = .ok (.istore_n 3, 1) := by decide +kernel
theorem d_Content_readAll_195 : decode b_Content_readAll 195 = .ok (.aload_n 0, 1) := by decide +kernel
theorem d_Content_readAll_196 : decode b_Content_readAll 196 = .ok (.iconst 0, 1) := by decide +kernel
theorem d_Content_readAll_197 : decode b_Content_readAll 197 = .ok (.invokevirtual 101, 3) := by decide +kernel
theorem d_Content_readAll_200 : decode b_Content_readAll 200 = .ok (.aload_n 0, 1) := by decide +kernel
theorem d_Content_readAll_201 : decode b_Content_readAll 201 = .ok (.getfield 15, 3) := by decide +kernel
theorem d_Content_readAll_204 : decode b_Content_readAll 204 = .ok (.getfield 64, 3) := by decide +kernel
theorem d_Content_readAll_207 : decode b_Content_readAll 207 = .ok (.ifCond .ne 16, 3) := by decide +kernel
theorem d_Content_readAll_210 : decode b_Content_readAll 210 = .ok (.aload_n 0, 1) := by decide +kernel
theorem d_Content_readAll_211 : decode b_Content_readAll 211 = .ok (.getfield 15, 3) := by decide +kernel
theorem d_Content_readAll_214 : decode b_Content_readAll 214 = .ok (.iload_n 3, 1) := by decide +kernel
theorem d_Content_readAll_215 : decode b_Content_readAll 215 = .ok (.putfield 47, 3) := by decide +kernel
theorem d_Content_readAll_218 : decode b_Content_readAll 218 = .ok (.aload_n 0, 1) := by decide +kernel
theorem d_Content_readAll_219 : decode b_Content_readAll 219 = .ok (.iconst 1, 1) := by decide +kernel
theorem d_Content_readAll_220 : decode b_Content_readAll 220 = .ok (.invokevirtual 101, 3) := by decide +kernel
/-- Content_readAll -/
def w_Content_readAll (L : Nat → Nat)  (Q : IS → Prop) (σ : IS) : Prop := w_Reader_at L 1002 (fun v2 σ1 => WJ (fun (s5 : Unit) (σ6 : IS) => WL (fun (K7 : Int × Int → IS → Prop) (s9 : Int × Int) (σ10 : IS) => if s9.2 < 1000000 ∧ (¬ s9.1 = 0 ∧ ((σ10.1 2 4) = 0)) then WJ (fun (s13 : Unit) (σ14 : IS) => WJ (fun (s17 : Int) (σ18 : IS) => inR (s9.2 + 1) ∧ K7 (s17, (s9.2 + 1)) σ18) (fun J15 => if (σ14.1 2 2) < (σ14.1 2 3) then if (σ14.1 5 6) = 0 then WJ (fun (s24 : Unit) (σ25 : IS) => w_Content_readTag L 0 (fun σ26 => if (σ26.1 2 4) = 0 then w_Content_readTag L 1 (fun σ29 => J15 s9.1 σ29) (pf σ26 2 2 (σ25.1 2 2)) else J15 s9.1 σ26) σ25) (fun J22 => if (σ14.1 6 3) = (-1) then w_Content_isTagAround L  (fun v33 σ32 => if v33 = 0 then J15 s9.1 σ32 else J22 () σ32) σ14 else w_Content_isTagInside L  (fun v36 σ35 => if v36 = 0 then J15 s9.1 σ35 else J22 () σ35) σ14) else w_Doctype_readItem L  (fun σ38 => J15 s9.1 σ38) σ14 else w_Content_finish L  (fun v41 σ40 => J15 v41 σ40) σ14)) (fun J11 => if (σ10.1 3 12) = 0 then inR ((σ10.1 2 2) - (σ10.1 1 2)) ∧ J11 () (pf σ10 2 5 ((σ10.1 2 2) - (σ10.1 1 2))) else J11 () σ10) else Q σ10) (1, 0) σ6) (fun J3 => ((¬ v2 = 0 → inR ((σ1.1 2 3) - (σ1.1 2 2)))) ∧ if ¬ v2 = 0 ∧ (5 < ((σ1.1 2 3) - (σ1.1 2 2))) then inR ((σ1.1 2 2) + 5) ∧ inL L 101 ((σ1.1 2 2) + 5) ∧ w_Reader_isSpace L (σ1.2 101 (Int.toNat ((σ1.1 2 2) + 5))) (fun v52 σ51 => if v52 = 0 then J3 () σ51 else w_Content_readHead L  (fun σ54 => J3 () σ54) σ51) σ1 else J3 () σ1)) σ
set_option maxHeartbeats 4000000 in
set_option maxRecDepth 20000 in
theorem s_Content_readAll {L : Nat → Nat} (hL : ∀ r, L r < 2147483648) {d : Nat} (hd : 6 ≤ d)  {Q : IS → Prop} {σ : IS}  (h : w_Content_readAll L  Q σ) : OkI BF L d 7 b_Content_readAll 4 0 0 [] [some (.inr 7)] σ (qv Q) := by
  unfold w_Content_readAll at h
  obtain ⟨d, rfl⟩ : ∃ e, d = e + 1 := ⟨d - 1, by omega⟩
  refine k_sb (lv' := [some (.inr 7), none, none, none]) (sb_s (sb_e (sb_e (sb_e sb_nil)))) ?_
  refine k_aload_n d_Content_readAll_0 rfl ?_
  refine k_getR d_Content_readAll_1 fl_7_15 ob_7 rfl ?_
  refine k_ldc d_Content_readAll_4 ks_7_35 rfl ?_
  refine k_cvi [.inr 1002] d_Content_readAll_6 ml_7_37 rfl rfl ob_2 rfl (s_Reader_at hL (by omega) it_1002 h) (fun v2 σ1 h => ?_)
  refine k_join (S := Unit) (pc' := 58) (st' := fun s5 => []) (lv' := fun s5 => [some (.inr 7), none, none, none]) (fun s5 σ6 h => ?_) (fun J3 hJ4 h => ?_) h
  · refine k_iconst d_Content_readAll_58 cI_1 ?_
    refine k_istore_n (lv' := [some (.inr 7), some (.inl 1), none, none]) d_Content_readAll_59 rfl rfl ?_
    refine k_iconst d_Content_readAll_60 cI_0 ?_
    refine k_istore_n (lv' := [some (.inr 7), some (.inl 1), some (.inl 0), none]) d_Content_readAll_61 rfl rfl ?_
    refine k_sb (lv' := [some (.inr 7), some (.inl 1), some (.inl 0), none]) (sb_s (sb_s (sb_s (sb_s sb_nil)))) ?_
    refine k_loop (S := Int × Int) (st := fun _ => []) (lv := fun s9 => [some (.inr 7), some (.inl s9.1), some (.inl s9.2), none]) (fun K7 hK8 s9 σ10 h => ?_) (1, 0) _ h
    refine k_iload_n d_Content_readAll_62 rfl ?_
    refine k_ldc d_Content_readAll_63 ks_7_63 cL_1000000 ?_
    have hX44 : (s9.2 < 1000000 ∧ (¬ s9.1 = 0 ∧ ((σ10.1 2 4) = 0))) → OkI BF L (d + 1) 7 b_Content_readAll 4 0 82 [] [some (.inr 7), some (.inl s9.1), some (.inl s9.2), none] σ10 (qv Q) := fun e46 => by
      have h := ipos e46 h
      refine k_aload_n d_Content_readAll_82 rfl ?_
      refine k_getR d_Content_readAll_83 fl_7_19 ob_7 rfl ?_
      refine k_getI (x := (σ10.1 3 12)) d_Content_readAll_86 fl_7_67 ob_3 rfl rfl ?_
      refine k_join (S := Unit) (pc' := 114) (st' := fun s13 => []) (lv' := fun s13 => [some (.inr 7), some (.inl s9.1), some (.inl s9.2), none]) (fun s13 σ14 h => ?_) (fun J11 hJ12 h => ?_) h
      · refine k_aload_n d_Content_readAll_114 rfl ?_
        refine k_getR d_Content_readAll_115 fl_7_15 ob_7 rfl ?_
        refine k_getI (x := (σ14.1 2 2)) d_Content_readAll_118 fl_7_47 ob_2 rfl rfl ?_
        refine k_aload_n d_Content_readAll_121 rfl ?_
        refine k_getR d_Content_readAll_122 fl_7_15 ob_7 rfl ?_
        refine k_getI (x := (σ14.1 2 3)) d_Content_readAll_125 fl_7_43 ob_2 rfl rfl ?_
        refine k_join (S := Int) (pc' := 223) (st' := fun s17 => []) (lv' := fun s17 => [some (.inr 7), some (.inl s17), some (.inl s9.2), none]) (fun s17 σ18 h => ?_) (fun J15 hJ16 h => ?_) h
        · obtain ⟨p19, h⟩ := h
          refine k_iinc (lv' := [some (.inr 7), some (.inl s17), some (.inl (s9.2 + 1)), none]) d_Content_readAll_223 cI_1 rfl rfl p19 rfl ?_
          refine k_goto d_Content_readAll_226 rfl ?_
          exact k_sb (sb_s (sb_s (sb_s (sb_s sb_nil)))) (hK8 (s17, (s9.2 + 1)) _ h)
        · refine k_iclt d_Content_readAll_128 rfl (fun c20 => ?_) (fun c20 => ?_)
          · have h := ipos c20 h
            refine k_aload_n d_Content_readAll_139 rfl ?_
            refine k_getR d_Content_readAll_140 fl_7_27 ob_7 rfl ?_
            refine k_getI (x := (σ14.1 5 6)) d_Content_readAll_143 fl_7_82 ob_5 rfl rfl ?_
            refine k_ifeq d_Content_readAll_146 rfl (fun c21 => ?_) (fun c21 => ?_)
            · have h := ipos c21 h
              refine k_aload_n d_Content_readAll_159 rfl ?_
              refine k_getR d_Content_readAll_160 fl_7_31 ob_7 rfl ?_
              refine k_getI (x := (σ14.1 6 3)) d_Content_readAll_163 fl_7_91 ob_6 rfl rfl ?_
              refine k_iconst d_Content_readAll_166 cI_m1 ?_
              refine k_join (S := Unit) (pc' := 187) (st' := fun s24 => []) (lv' := fun s24 => [some (.inr 7), some (.inl s9.1), some (.inl s9.2), none]) (fun s24 σ25 h => ?_) (fun J22 hJ23 h => ?_) h
              · refine k_aload_n d_Content_readAll_187 rfl ?_
                refine k_getR d_Content_readAll_188 fl_7_15 ob_7 rfl ?_
                refine k_getI (x := (σ25.1 2 2)) d_Content_readAll_191 fl_7_47 ob_2 rfl rfl ?_
                refine k_istore_n (lv' := [some (.inr 7), some (.inl s9.1), some (.inl s9.2), some (.inl (σ25.1 2 2))]) d_Content_readAll_194 rfl rfl ?_
                refine k_aload_n d_Content_readAll_195 rfl ?_
                refine k_iconst d_Content_readAll_196 cI_0 ?_
                refine k_cvv [.inl 0] d_Content_readAll_197 ml_7_101 rfl rfl ob_7 rfl (s_Content_readTag hL (by omega)  h) (fun σ26 h => ?_)
                refine k_aload_n d_Content_readAll_200 rfl ?_
                refine k_getR d_Content_readAll_201 fl_7_15 ob_7 rfl ?_
                refine k_getI (x := (σ26.1 2 4)) d_Content_readAll_204 fl_7_64 ob_2 rfl rfl ?_
                refine k_ifne d_Content_readAll_207 rfl (fun c28 => ?_) (fun c28 => ?_)
                · have h := ineg c28 h
                  exact k_sb (sb_s (sb_s (sb_s (sb_n sb_nil)))) (hJ16 s9.1 _ h)
                · have h := ipos c28 h
                  refine k_aload_n d_Content_readAll_210 rfl ?_
                  refine k_getR d_Content_readAll_211 fl_7_15 ob_7 rfl ?_
                  refine k_iload_n d_Content_readAll_214 rfl ?_
                  refine k_putI d_Content_readAll_215 fl_7_47 ob_2 rfl ?_
                  refine k_aload_n d_Content_readAll_218 rfl ?_
                  refine k_iconst d_Content_readAll_219 cI_1 ?_
                  refine k_cvv [.inl 1] d_Content_readAll_220 ml_7_101 rfl rfl ob_7 rfl (s_Content_readTag hL (by omega)  h) (fun σ29 h => ?_)
                  exact k_sb (sb_s (sb_s (sb_s (sb_n sb_nil)))) (hJ16 s9.1 _ h)
              · refine k_iceq d_Content_readAll_167 rfl (fun c31 => ?_) (fun c31 => ?_)
                · have h := ipos c31 h
                  refine k_aload_n d_Content_readAll_180 rfl ?_
                  refine k_cvi [] d_Content_readAll_181 ml_7_98 rfl rfl ob_7 rfl (s_Content_isTagAround hL (by omega)  h) (fun v33 σ32 h => ?_)
                  refine k_ifeq d_Content_readAll_184 rfl (fun c34 => ?_) (fun c34 => ?_)
                  · have h := ipos c34 h
                    exact k_sb (sb_s (sb_s (sb_s (sb_s sb_nil)))) (hJ16 s9.1 _ h)
                  · have h := ineg c34 h
                    exact k_sb (sb_s (sb_s (sb_s (sb_s sb_nil)))) (hJ23 () _ h)
                · have h := ineg c31 h
                  refine k_aload_n d_Content_readAll_170 rfl ?_
                  refine k_cvi [] d_Content_readAll_171 ml_7_95 rfl rfl ob_7 rfl (s_Content_isTagInside hL (by omega)  h) (fun v36 σ35 h => ?_)
                  refine k_ifeq d_Content_readAll_174 rfl (fun c37 => ?_) (fun c37 => ?_)
                  · have h := ipos c37 h
                    exact k_sb (sb_s (sb_s (sb_s (sb_s sb_nil)))) (hJ16 s9.1 _ h)
                  · have h := ineg c37 h
                    refine k_goto d_Content_readAll_177 rfl ?_
                    exact k_sb (sb_s (sb_s (sb_s (sb_s sb_nil)))) (hJ23 () _ h)
            · have h := ineg c21 h
              refine k_aload_n d_Content_readAll_149 rfl ?_
              refine k_getR d_Content_readAll_150 fl_7_27 ob_7 rfl ?_
              refine k_cvv [] d_Content_readAll_153 ml_7_88 rfl rfl ob_5 rfl (s_Doctype_readItem hL (by omega)  h) (fun σ38 h => ?_)
              refine k_goto d_Content_readAll_156 rfl ?_
              exact k_sb (sb_s (sb_s (sb_s (sb_s sb_nil)))) (hJ16 s9.1 _ h)
          · have h := ineg c20 h
            refine k_aload_n d_Content_readAll_131 rfl ?_
            refine k_cvi [] d_Content_readAll_132 ml_7_78 rfl rfl ob_7 rfl (s_Content_finish hL (by omega)  h) (fun v41 σ40 h => ?_)
            refine k_istore_n (lv' := [some (.inr 7), some (.inl v41), some (.inl s9.2), none]) d_Content_readAll_135 rfl rfl ?_
            refine k_goto d_Content_readAll_136 rfl ?_
            exact k_sb (sb_s (sb_s (sb_s (sb_s sb_nil)))) (hJ16 v41 _ h)
      · refine k_ifne d_Content_readAll_89 rfl (fun c42 => ?_) (fun c42 => ?_)
        · have h := ineg c42 h
          exact k_sb (sb_s (sb_s (sb_s (sb_s sb_nil)))) (hJ12 () _ h)
        · have h := ipos c42 h
          refine k_aload_n d_Content_readAll_92 rfl ?_
          refine k_getR d_Content_readAll_93 fl_7_15 ob_7 rfl ?_
          refine k_aload_n d_Content_readAll_96 rfl ?_
          refine k_getR d_Content_readAll_97 fl_7_15 ob_7 rfl ?_
          refine k_getI (x := (σ10.1 2 2)) d_Content_readAll_100 fl_7_47 ob_2 rfl rfl ?_
          refine k_aload_n d_Content_readAll_103 rfl ?_
          refine k_getR d_Content_readAll_104 fl_7_9 ob_7 rfl ?_
          refine k_getI (x := (σ10.1 1 2)) d_Content_readAll_107 fl_7_72 ob_1 rfl rfl ?_
          obtain ⟨p43, h⟩ := h
          refine k_isub d_Content_readAll_110 p43 ?_
          refine k_putI d_Content_readAll_111 fl_7_75 ob_2 rfl ?_
          exact k_sb (sb_s (sb_s (sb_s (sb_s sb_nil)))) (hJ12 () _ h)
    have hY45 : ¬ (s9.2 < 1000000 ∧ (¬ s9.1 = 0 ∧ ((σ10.1 2 4) = 0))) → OkI BF L (d + 1) 7 b_Content_readAll 4 0 229 [] [some (.inr 7), some (.inl s9.1), some (.inl s9.2), none] σ10 (qv Q) := fun e46 => by
      have h := ineg e46 h
      exact k_ret d_Content_readAll_229 h
    refine k_icge d_Content_readAll_65 rfl (fun c47 => ?_) (fun c47 => ?_)
    · exact hY45 (fun z => c47 z.1)
    · refine k_iload_n d_Content_readAll_68 rfl ?_
      refine k_ifeq d_Content_readAll_69 rfl (fun c48 => ?_) (fun c48 => ?_)
      · exact hY45 (fun z => (fun z => z.1 c48) z.2)
      · refine k_aload_n d_Content_readAll_72 rfl ?_
        refine k_getR d_Content_readAll_73 fl_7_15 ob_7 rfl ?_
        refine k_getI (x := (σ10.1 2 4)) d_Content_readAll_76 fl_7_64 ob_2 rfl rfl ?_
        refine k_ifne d_Content_readAll_79 rfl (fun c49 => ?_) (fun c49 => ?_)
        · exact hY45 (fun z => (fun z => (c49) z.2) z.2)
        · exact hX44 (⟨c47, ⟨c48, c49⟩⟩)
  · obtain ⟨pt61, h⟩ := h
    have hX58 : (¬ v2 = 0 ∧ (5 < ((σ1.1 2 3) - (σ1.1 2 2)))) → OkI BF L (d + 1) 7 b_Content_readAll 4 0 31 [] [some (.inr 7), none, none, none] σ1 (qv Q) := fun e60 => by
      have h := ipos e60 h
      refine k_aload_n d_Content_readAll_31 rfl ?_
      refine k_getR d_Content_readAll_32 fl_7_9 ob_7 rfl ?_
      refine k_getR d_Content_readAll_35 fl_7_50 ob_1 rfl ?_
      refine k_aload_n d_Content_readAll_38 rfl ?_
      refine k_getR d_Content_readAll_39 fl_7_15 ob_7 rfl ?_
      refine k_getI (x := (σ1.1 2 2)) d_Content_readAll_42 fl_7_47 ob_2 rfl rfl ?_
      refine k_iconst d_Content_readAll_45 cI_5 ?_
      obtain ⟨p57, h⟩ := h
      refine k_iadd d_Content_readAll_46 p57 ?_
      obtain ⟨p56, h⟩ := h
      refine k_ild (x := (σ1.2 101 (Int.toNat ((σ1.1 2 2) + 5)))) d_Content_readAll_47 rI_101 p56 rfl ?_
      refine k_csi [.inl (σ1.2 101 (Int.toNat ((σ1.1 2 2) + 5)))] d_Content_readAll_48 ml_7_56 (Or.inl rfl) rfl rfl rfl (s_Reader_isSpace hL (by omega)  h) (fun v52 σ51 h => ?_)
      refine k_ifeq d_Content_readAll_51 rfl (fun c53 => ?_) (fun c53 => ?_)
      · have h := ipos c53 h
        exact k_sb (sb_s (sb_s (sb_s (sb_s sb_nil)))) (hJ4 () _ h)
      · have h := ineg c53 h
        refine k_aload_n d_Content_readAll_54 rfl ?_
        refine k_cvv [] d_Content_readAll_55 ml_7_60 rfl rfl ob_7 rfl (s_Content_readHead hL (by omega)  h) (fun σ54 h => ?_)
        exact k_sb (sb_s (sb_s (sb_s (sb_s sb_nil)))) (hJ4 () _ h)
    have hY59 : ¬ (¬ v2 = 0 ∧ (5 < ((σ1.1 2 3) - (σ1.1 2 2)))) → OkI BF L (d + 1) 7 b_Content_readAll 4 0 58 [] [some (.inr 7), none, none, none] σ1 (qv Q) := fun e60 => by
      have h := ineg e60 h
      exact k_sb (sb_s (sb_s (sb_s (sb_s sb_nil)))) (hJ4 () _ h)
    have pb62 := pt61
    refine k_ifeq d_Content_readAll_9 rfl (fun c63 => ?_) (fun c63 => ?_)
    · exact hY59 (fun z => z.1 c63)
    · have pb62 := pb62 c63
      have p50 := pb62
      refine k_aload_n d_Content_readAll_12 rfl ?_
      refine k_getR d_Content_readAll_13 fl_7_15 ob_7 rfl ?_
      refine k_getI (x := (σ1.1 2 3)) d_Content_readAll_16 fl_7_43 ob_2 rfl rfl ?_
      refine k_aload_n d_Content_readAll_19 rfl ?_
      refine k_getR d_Content_readAll_20 fl_7_15 ob_7 rfl ?_
      refine k_getI (x := (σ1.1 2 2)) d_Content_readAll_23 fl_7_47 ob_2 rfl rfl ?_
      refine k_isub d_Content_readAll_26 p50 ?_
      refine k_iconst d_Content_readAll_27 cI_5 ?_
      refine k_icle d_Content_readAll_28 rfl (fun c64 => ?_) (fun c64 => ?_)
      · exact hY59 (fun z => (c64) z.2)
      · exact hX58 (⟨c63, c64⟩)
theorem d_Validator_link_0 : decode b_Validator_link 0 = .ok (.aload_n 0, 1) := by decide +kernel
theorem d_Validator_link_1 : decode b_Validator_link 1 = .ok (.getfield 48, 3) := by decide +kernel
theorem d_Validator_link_4 : decode b_Validator_link 4 = .ok (.iconst 0, 1) := by decide +kernel
theorem d_Validator_link_5 : decode b_Validator_link 5 = .ok (.aload_n 0, 1) := by decide +kernel
theorem d_Validator_link_6 : decode b_Validator_link 6 = .ok (.getfield 31, 3) := by decide +kernel
theorem d_Validator_link_9 : decode b_Validator_link 9 = .ok (.getfield 113, 3) := by decide +kernel
theorem d_Validator_link_12 : decode b_Validator_link 12 = .ok (.iconst (-1), 1) := by decide +kernel
theorem d_Validator_link_13 : decode b_Validator_link 13 = .ok (.invokestatic 116, 3) := by decide +kernel
theorem d_Validator_link_16 : decode b_Validator_link 16 = .ok (.aload_n 0, 1) := by decide +kernel
theorem d_Validator_link_17 : decode b_Validator_link 17 = .ok (.getfield 62, 3) := by decide +kernel
theorem d_Validator_link_20 : decode b_Validator_link 20 = .ok (.iconst 0, 1) := by decide +kernel
theorem d_Validator_link_21 : decode b_Validator_link 21 = .ok (.aload_n 0, 1) := by decide +kernel
theorem d_Validator_link_22 : decode b_Validator_link 22 = .ok (.getfield 23, 3) := by decide +kernel
theorem d_Validator_link_25 : decode b_Validator_link 25 = .ok (.getfield 119, 3) := by decide +kernel
theorem d_Validator_link_28 : decode b_Validator_link 28 = .ok (.iconst (-1), 1) := by decide +kernel
theorem d_Validator_link_29 : decode b_Validator_link 29 = .ok (.invokestatic 116, 3) := by decide +kernel
theorem d_Validator_link_32 : decode b_Validator_link 32 = .ok (.aload_n 0, 1) := by decide +kernel
theorem d_Validator_link_33 : decode b_Validator_link 33 = .ok (.getfield 31, 3) := by decide +kernel
theorem d_Validator_link_36 : decode b_Validator_link 36 = .ok (.getfield 113, 3) := by decide +kernel
theorem d_Validator_link_39 : decode b_Validator_link 39 = .ok (.iconst 1, 1) := by decide +kernel
theorem d_Validator_link_40 : decode b_Validator_link 40 = .ok (.isub, 1) := by decide +kernel
theorem d_Validator_link_41 : decode b_Validator_link 41 = .ok (.istore_n 1, 1) := by decide +kernel
theorem d_Validator_link_42 : decode b_Validator_link 42 = .ok (.iload_n 1, 1) := by decide +kernel
theorem d_Validator_link_43 : decode b_Validator_link 43 = .ok (.ifCond .lt 100, 3) := by decide +kernel
theorem d_Validator_link_46 : decode b_Validator_link 46 = .ok (.aload_n 0, 1) := by decide +kernel
theorem d_Validator_link_47 : decode b_Validator_link 47 = .ok (.getfield 31, 3) := by decide +kernel
theorem d_Validator_link_50 : decode b_Validator_link 50 = .ok (.getfield 122, 3) := by decide +kernel
theorem d_Validator_link_53 : decode b_Validator_link 53 = .ok (.iload_n 1, 1) := by decide +kernel
theorem d_Validator_link_54 : decode b_Validator_link 54 = .ok (.iaload, 1) := by decide +kernel
theorem d_Validator_link_55 : decode b_Validator_link 55 = .ok (.istore_n 2, 1) := by decide +kernel
theorem d_Validator_link_56 : decode b_Validator_link 56 = .ok (.iload_n 2, 1) := by decide +kernel
theorem d_Validator_link_57 : decode b_Validator_link 57 = .ok (.iconst (-1), 1) := by decide +kernel
theorem d_Validator_link_58 : decode b_Validator_link 58 = .ok (.if_icmp .eq 22, 3) := by decide +kernel
theorem d_Validator_link_61 : decode b_Validator_link 61 = .ok (.aload_n 0, 1) := by decide +kernel
theorem d_Validator_link_62 : decode b_Validator_link 62 = .ok (.getfield 51, 3) := by decide +kernel
theorem d_Validator_link_65 : decode b_Validator_link 65 = .ok (.iload_n 1, 1) := by decide +kernel
theorem d_Validator_link_66 : decode b_Validator_link 66 = .ok (.aload_n 0, 1) := by decide +kernel
theorem d_Validator_link_67 : decode b_Validator_link 67 = .ok (.getfield 48, 3) := by decide +kernel
theorem d_Validator_link_70 : decode b_Validator_link 70 = .ok (.iload_n 2, 1) := by decide +kernel
theorem d_Validator_link_71 : decode b_Validator_link 71 = .ok (.iaload, 1) := by decide +kernel
theorem d_Validator_link_72 : decode b_Validator_link 72 = .ok (.iastore, 1) := by decide +kernel
theorem d_Validator_link_73 : decode b_Validator_link 73 = .ok (.aload_n 0, 1) := by decide +kernel
theorem d_Validator_link_74 : decode b_Validator_link 74 = .ok (.getfield 48, 3) := by decide +kernel
theorem d_Validator_link_77 : decode b_Validator_link 77 = .ok (.iload_n 2, 1) := by decide +kernel
theorem d_Validator_link_78 : decode b_Validator_link 78 = .ok (.iload_n 1, 1) := by decide +kernel
theorem d_Validator_link_79 : decode b_Validator_link 79 = .ok (.iastore, 1) := by decide +kernel
theorem d_Validator_link_80 : decode b_Validator_link 80 = .ok (.aload_n 0, 1) := by decide +kernel
theorem d_Validator_link_81 : decode b_Validator_link 81 = .ok (.getfield 23, 3) := by decide +kernel
theorem d_Validator_link_84 : decode b_Validator_link 84 = .ok (.getfield 125, 3) := by decide +kernel
theorem d_Validator_link_87 : decode b_Validator_link 87 = .ok (.aload_n 0, 1) := by decide +kernel
theorem d_Validator_link_88 : decode b_Validator_link 88 = .ok (.getfield 31, 3) := by decide +kernel
theorem d_Validator_link_91 : decode b_Validator_link 91 = .ok (.getfield 43, 3) := by decide +kernel
theorem d_Validator_link_94 : decode b_Validator_link 94 = .ok (.iload_n 1, 1) := by decide +kernel
theorem d_Validator_link_95 : decode b_Validator_link 95 = .ok (.iaload, 1) := by decide +kernel
theorem d_Validator_link_96 : decode b_Validator_link 96 = .ok (.iaload, 1) := by decide +kernel
theorem d_Validator_link_97 : decode b_Validator_link 97 = .ok (.iconst 1, 1) := by decide +kernel
theorem d_Validator_link_98 : decode b_Validator_link 98 = .ok (.isub, 1) := by decide +kernel
theorem d_Validator_link_99 : decode b_Validator_link 99 = .ok (.istore_n 3, 1) := by decide +kernel
theorem d_Validator_link_100 : decode b_Validator_link 100 = .ok (.iload_n 3, 1) := by decide +kernel
theorem d_Validator_link_101 : decode b_Validator_link 101 = .ok (.iconst (-1), 1) := by decide +kernel
theorem d_Validator_link_102 : decode b_Validator_link 102 = .ok (.if_icmp .ne 16, 3) := by decide +kernel
theorem d_Validator_link_105 : decode b_Validator_link 105 = .ok (.aload_n 0, 1) := by decide +kernel
theorem d_Validator_link_106 : decode b_Validator_link 106 = .ok (.getfield 39, 3) := by decide +kernel
theorem d_Validator_link_109 : decode b_Validator_link 109 = .ok (.iconst 5, 1) := by decide +kernel
theorem d_Validator_link_110 : decode b_Validator_link 110 = .ok (.dup2, 1) := by decide +kernel
theorem d_Validator_link_111 : decode b_Validator_link 111 = .ok (.iaload, 1) := by decide +kernel
theorem d_Validator_link_112 : decode b_Validator_link 112 = .ok (.iconst 1, 1) := by decide +kernel
theorem d_Validator_link_113 : decode b_Validator_link 113 = .ok (.iadd, 1) := by decide +kernel
theorem d_Validator_link_114 : decode b_Validator_link 114 = .ok (.iastore, 1) := by decide +kernel
theorem d_Validator_link_115 : decode b_Validator_link 115 = .ok (.goto 22, 3) := by decide +kernel
theorem d_Validator_link_118 : decode b_Validator_link 118 = .ok (.aload_n 0, 1) := by decide +kernel
theorem d_Validator_link_119 : decode b_Validator_link 119 = .ok (.getfield 54, 3) := by decide +kernel
theorem d_Validator_link_122 : decode b_Validator_link 122 = .ok (.iload_n 1, 1) := by decide +kernel
theorem d_Validator_link_123 : decode b_Validator_link 123 = .ok (.aload_n 0, 1) := by decide +kernel
theorem d_Validator_link_124 : decode b_Validator_link 124 = .ok (.getfield 62, 3) := by decide +kernel
theorem d_Validator_link_127 : decode b_Validator_link 127 = .ok (.iload_n 3, 1) := by decide +kernel
theorem d_Validator_link_128 : decode b_Validator_link 128 = .ok (.iaload, 1) := by decide +kernel
theorem d_Validator_link_129 : decode b_Validator_link 129 = .ok (.iastore, 1) := by decide +kernel
theorem d_Validator_link_130 : decode b_Validator_link 130 = .ok (.aload_n 0, 1) := by decide +kernel
theorem d_Validator_link_131 : decode b_Validator_link 131 = .ok (.getfield 62, 3) := by decide +kernel
theorem d_Validator_link_134 : decode b_Validator_link 134 = .ok (.iload_n 3, 1) := by decide +kernel
theorem d_Validator_link_135 : decode b_Validator_link 135 = .ok (.iload_n 1, 1) := by decide +kernel
theorem d_Validator_link_136 : decode b_Validator_link 136 = .ok (.iastore, 1) := by decide +kernel
theorem d_Validator_link_137 : decode b_Validator_link 137 = .ok (.iinc 1 (-1), 3) := by decide +kernel
theorem d_Validator_link_140 : decode b_Validator_link 140 = .ok (.goto (-98), 3) := by decide +kernel
theorem d_Validator_link_143 : decode b_Validator_link 143 = .ok (.return_, 1) := by decide +kernel
/-- Validator_link -/
def w_Validator_link (L : Nat → Nat)  (Q : IS → Prop) (σ : IS) : Prop := ((0 : Int) ≤ (0 : Int) ∧ (0 : Int) ≤ (σ.1 6 2) ∧ (σ.1 6 2) ≤ ((L 150 : Nat) : Int)) ∧ ((0 : Int) ≤ (0 : Int) ∧ (0 : Int) ≤ (σ.1 4 3) ∧ (σ.1 4 3) ≤ ((L 153 : Nat) : Int)) ∧ inR ((σ.1 6 2) - 1) ∧ WL (fun (K1 : Int → IS → Prop) (s3 : Int) (σ4 : IS) => if s3 < 0 then Q σ4 else inL L 129 s3 ∧ WJ (fun (s8 : Unit) (σ9 : IS) => inL L 146 s3 ∧ inL L 125 (σ9.2 146 (Int.toNat s3)) ∧ inR ((σ9.2 125 (Int.toNat (σ9.2 146 (Int.toNat s3)))) - 1) ∧ WJ (fun (s12 : Unit) (σ13 : IS) => inR (s3 + (-1)) ∧ K1 (s3 + (-1)) σ13) (fun J10 => if ((σ9.2 125 (Int.toNat (σ9.2 146 (Int.toNat s3)))) - 1) = (-1) then inL L 149 5 ∧ inR ((σ9.2 149 (Int.toNat 5)) + 1) ∧ inL L 149 5 ∧ J10 () (pr σ9 149 (Int.toNat 5) ((σ9.2 149 (Int.toNat 5)) + 1)) else inL L 153 ((σ9.2 125 (Int.toNat (σ9.2 146 (Int.toNat s3)))) - 1) ∧ inL L 152 s3 ∧ inL L 153 ((σ9.2 125 (Int.toNat (σ9.2 146 (Int.toNat s3)))) - 1) ∧ J10 () (pr (pr σ9 152 (Int.toNat s3) (σ9.2 153 (Int.toNat ((σ9.2 125 (Int.toNat (σ9.2 146 (Int.toNat s3)))) - 1)))) 153 (Int.toNat ((σ9.2 125 (Int.toNat (σ9.2 146 (Int.toNat s3)))) - 1)) s3))) (fun J6 => if (σ4.2 129 (Int.toNat s3)) = (-1) then J6 () σ4 else inL L 150 (σ4.2 129 (Int.toNat s3)) ∧ inL L 151 s3 ∧ inL L 150 (σ4.2 129 (Int.toNat s3)) ∧ J6 () (pr (pr σ4 151 (Int.toNat s3) (σ4.2 150 (Int.toNat (σ4.2 129 (Int.toNat s3))))) 150 (Int.toNat (σ4.2 129 (Int.toNat s3))) s3))) ((σ.1 6 2) - 1) (fl (fl σ 150 (Int.toNat (0 : Int)) (Int.toNat (σ.1 6 2)) (-1)) 153 (Int.toNat (0 : Int)) (Int.toNat (σ.1 4 3)) (-1))
set_option maxHeartbeats 4000000 in
set_option maxRecDepth 20000 in
theorem s_Validator_link {L : Nat → Nat} (hL : ∀ r, L r < 2147483648) {d : Nat} (hd : 0 ≤ d)  {Q : IS → Prop} {σ : IS}  (h : w_Validator_link L  Q σ) : OkI BF L d 8 b_Validator_link 4 0 0 [] [some (.inr 8)] σ (qv Q) := by
  unfold w_Validator_link at h
  refine k_sb (lv' := [some (.inr 8), none, none, none]) (sb_s (sb_e (sb_e (sb_e sb_nil)))) ?_
  refine k_aload_n d_Validator_link_0 rfl ?_
  refine k_getR d_Validator_link_1 fl_8_48 ob_8 rfl ?_
  refine k_iconst d_Validator_link_4 cI_0 ?_
  refine k_aload_n d_Validator_link_5 rfl ?_
  refine k_getR d_Validator_link_6 fl_8_31 ob_8 rfl ?_
  refine k_getI (x := (σ.1 6 2)) d_Validator_link_9 fl_8_113 ob_6 rfl rfl ?_
  refine k_iconst d_Validator_link_12 cI_m1 ?_
  obtain ⟨p32, h⟩ := h
  refine k_fillr d_Validator_link_13 ml_8_116 rI_150 p32 rfl ?_
  refine k_aload_n d_Validator_link_16 rfl ?_
  refine k_getR d_Validator_link_17 fl_8_62 ob_8 rfl ?_
  refine k_iconst d_Validator_link_20 cI_0 ?_
  refine k_aload_n d_Validator_link_21 rfl ?_
  refine k_getR d_Validator_link_22 fl_8_23 ob_8 rfl ?_
  refine k_getI (x := (σ.1 4 3)) d_Validator_link_25 fl_8_119 ob_4 rfl rfl ?_
  refine k_iconst d_Validator_link_28 cI_m1 ?_
  obtain ⟨p31, h⟩ := h
  refine k_fillr d_Validator_link_29 ml_8_116 rI_153 p31 rfl ?_
  refine k_aload_n d_Validator_link_32 rfl ?_
  refine k_getR d_Validator_link_33 fl_8_31 ob_8 rfl ?_
  refine k_getI (x := (σ.1 6 2)) d_Validator_link_36 fl_8_113 ob_6 rfl rfl ?_
  refine k_iconst d_Validator_link_39 cI_1 ?_
  obtain ⟨p30, h⟩ := h
  refine k_isub d_Validator_link_40 p30 ?_
  refine k_istore_n (lv' := [some (.inr 8), some (.inl ((σ.1 6 2) - 1)), none, none]) d_Validator_link_41 rfl rfl ?_
  refine k_sb (lv' := [some (.inr 8), some (.inl ((σ.1 6 2) - 1)), none, none]) (sb_s (sb_s (sb_s (sb_s sb_nil)))) ?_
  refine k_loop (S := Int) (st := fun _ => []) (lv := fun s3 => [some (.inr 8), some (.inl s3), none, none]) (fun K1 hK2 s3 σ4 h => ?_) ((σ.1 6 2) - 1) _ h
  refine k_iload_n d_Validator_link_42 rfl ?_
  refine k_iflt d_Validator_link_43 rfl (fun c5 => ?_) (fun c5 => ?_)
  · have h := ipos c5 h
    exact k_ret d_Validator_link_143 h
  · have h := ineg c5 h
    refine k_aload_n d_Validator_link_46 rfl ?_
    refine k_getR d_Validator_link_47 fl_8_31 ob_8 rfl ?_
    refine k_getR d_Validator_link_50 fl_8_122 ob_6 rfl ?_
    refine k_iload_n d_Validator_link_53 rfl ?_
    obtain ⟨p29, h⟩ := h
    refine k_ild (x := (σ4.2 129 (Int.toNat s3))) d_Validator_link_54 rI_129 p29 rfl ?_
    refine k_istore_n (lv' := [some (.inr 8), some (.inl s3), some (.inl (σ4.2 129 (Int.toNat s3))), none]) d_Validator_link_55 rfl rfl ?_
    refine k_iload_n d_Validator_link_56 rfl ?_
    refine k_iconst d_Validator_link_57 cI_m1 ?_
    refine k_join (S := Unit) (pc' := 80) (st' := fun s8 => []) (lv' := fun s8 => [some (.inr 8), some (.inl s3), none, none]) (fun s8 σ9 h => ?_) (fun J6 hJ7 h => ?_) h
    · refine k_aload_n d_Validator_link_80 rfl ?_
      refine k_getR d_Validator_link_81 fl_8_23 ob_8 rfl ?_
      refine k_getR d_Validator_link_84 fl_8_125 ob_4 rfl ?_
      refine k_aload_n d_Validator_link_87 rfl ?_
      refine k_getR d_Validator_link_88 fl_8_31 ob_8 rfl ?_
      refine k_getR d_Validator_link_91 fl_8_43 ob_6 rfl ?_
      refine k_iload_n d_Validator_link_94 rfl ?_
      obtain ⟨p24, h⟩ := h
      refine k_ild (x := (σ9.2 146 (Int.toNat s3))) d_Validator_link_95 rI_146 p24 rfl ?_
      obtain ⟨p23, h⟩ := h
      refine k_ild (x := (σ9.2 125 (Int.toNat (σ9.2 146 (Int.toNat s3))))) d_Validator_link_96 rI_125 p23 rfl ?_
      refine k_iconst d_Validator_link_97 cI_1 ?_
      obtain ⟨p22, h⟩ := h
      refine k_isub d_Validator_link_98 p22 ?_
      refine k_istore_n (lv' := [some (.inr 8), some (.inl s3), none, some (.inl ((σ9.2 125 (Int.toNat (σ9.2 146 (Int.toNat s3)))) - 1))]) d_Validator_link_99 rfl rfl ?_
      refine k_iload_n d_Validator_link_100 rfl ?_
      refine k_iconst d_Validator_link_101 cI_m1 ?_
      refine k_join (S := Unit) (pc' := 137) (st' := fun s12 => []) (lv' := fun s12 => [some (.inr 8), some (.inl s3), none, none]) (fun s12 σ13 h => ?_) (fun J10 hJ11 h => ?_) h
      · obtain ⟨p14, h⟩ := h
        refine k_iinc (lv' := [some (.inr 8), some (.inl (s3 + (-1))), none, none]) d_Validator_link_137 cI_m1 rfl rfl p14 rfl ?_
        refine k_goto d_Validator_link_140 rfl ?_
        exact k_sb (sb_s (sb_s (sb_s (sb_s sb_nil)))) (hK2 (s3 + (-1)) _ h)
      · refine k_icne d_Validator_link_102 rfl (fun c15 => ?_) (fun c15 => ?_)
        · have h := ineg c15 h
          refine k_aload_n d_Validator_link_118 rfl ?_
          refine k_getR d_Validator_link_119 fl_8_54 ob_8 rfl ?_
          refine k_iload_n d_Validator_link_122 rfl ?_
          refine k_aload_n d_Validator_link_123 rfl ?_
          refine k_getR d_Validator_link_124 fl_8_62 ob_8 rfl ?_
          refine k_iload_n d_Validator_link_127 rfl ?_
          obtain ⟨p18, h⟩ := h
          refine k_ild (x := (σ9.2 153 (Int.toNat ((σ9.2 125 (Int.toNat (σ9.2 146 (Int.toNat s3)))) - 1)))) d_Validator_link_128 rI_153 p18 rfl ?_
          obtain ⟨p17, h⟩ := h
          refine k_ist d_Validator_link_129 rI_152 p17 ?_
          refine k_aload_n d_Validator_link_130 rfl ?_
          refine k_getR d_Validator_link_131 fl_8_62 ob_8 rfl ?_
          refine k_iload_n d_Validator_link_134 rfl ?_
          refine k_iload_n d_Validator_link_135 rfl ?_
          obtain ⟨p16, h⟩ := h
          refine k_ist d_Validator_link_136 rI_153 p16 ?_
          exact k_sb (sb_s (sb_s (sb_s (sb_n sb_nil)))) (hJ11 () _ h)
        · have h := ipos c15 h
          refine k_aload_n d_Validator_link_105 rfl ?_
          refine k_getR d_Validator_link_106 fl_8_39 ob_8 rfl ?_
          refine k_iconst d_Validator_link_109 cI_5 ?_
          refine k_dup2 d_Validator_link_110 ?_
          obtain ⟨p21, h⟩ := h
          refine k_ild (x := (σ9.2 149 (Int.toNat 5))) d_Validator_link_111 rI_149 p21 rfl ?_
          refine k_iconst d_Validator_link_112 cI_1 ?_
          obtain ⟨p20, h⟩ := h
          refine k_iadd d_Validator_link_113 p20 ?_
          obtain ⟨p19, h⟩ := h
          refine k_ist d_Validator_link_114 rI_149 p19 ?_
          refine k_goto d_Validator_link_115 rfl ?_
          exact k_sb (sb_s (sb_s (sb_s (sb_n sb_nil)))) (hJ11 () _ h)
    · refine k_iceq d_Validator_link_58 rfl (fun c25 => ?_) (fun c25 => ?_)
      · have h := ipos c25 h
        exact k_sb (sb_s (sb_s (sb_n (sb_s sb_nil)))) (hJ7 () _ h)
      · have h := ineg c25 h
        refine k_aload_n d_Validator_link_61 rfl ?_
        refine k_getR d_Validator_link_62 fl_8_51 ob_8 rfl ?_
        refine k_iload_n d_Validator_link_65 rfl ?_
        refine k_aload_n d_Validator_link_66 rfl ?_
        refine k_getR d_Validator_link_67 fl_8_48 ob_8 rfl ?_
        refine k_iload_n d_Validator_link_70 rfl ?_
        obtain ⟨p28, h⟩ := h
        refine k_ild (x := (σ4.2 150 (Int.toNat (σ4.2 129 (Int.toNat s3))))) d_Validator_link_71 rI_150 p28 rfl ?_
        obtain ⟨p27, h⟩ := h
        refine k_ist d_Validator_link_72 rI_151 p27 ?_
        refine k_aload_n d_Validator_link_73 rfl ?_
        refine k_getR d_Validator_link_74 fl_8_48 ob_8 rfl ?_
        refine k_iload_n d_Validator_link_77 rfl ?_
        refine k_iload_n d_Validator_link_78 rfl ?_
        obtain ⟨p26, h⟩ := h
        refine k_ist d_Validator_link_79 rI_150 p26 ?_
        exact k_sb (sb_s (sb_s (sb_n (sb_s sb_nil)))) (hJ7 () _ h)
theorem d_Validator_markMixed_0 : decode b_Validator_markMixed 0 = .ok (.aload_n 0, 1) := by decide +kernel
theorem d_Validator_markMixed_1 : decode b_Validator_markMixed 1 = .ok (.getfield 9, 3) := by decide +kernel
theorem d_Validator_markMixed_4 : decode b_Validator_markMixed 4 = .ok (.invokevirtual 152, 3) := by decide +kernel
theorem d_Validator_markMixed_7 : decode b_Validator_markMixed 7 = .ok (.istore_n 2, 1) := by decide +kernel
theorem d_Validator_markMixed_8 : decode b_Validator_markMixed 8 = .ok (.aload_n 0, 1) := by decide +kernel
theorem d_Validator_markMixed_9 : decode b_Validator_markMixed 9 = .ok (.getfield 15, 3) := by decide +kernel
theorem d_Validator_markMixed_12 : decode b_Validator_markMixed 12 = .ok (.iload_n 1, 1) := by decide +kernel
theorem d_Validator_markMixed_13 : decode b_Validator_markMixed 13 = .ok (.putfield 158, 3) := by decide +kernel
theorem d_Validator_markMixed_16 : decode b_Validator_markMixed 16 = .ok (.aload_n 0, 1) := by decide +kernel
theorem d_Validator_markMixed_17 : decode b_Validator_markMixed 17 = .ok (.getfield 15, 3) := by decide +kernel
theorem d_Validator_markMixed_20 : decode b_Validator_markMixed 20 = .ok (.aload_n 0, 1) := by decide +kernel
theorem d_Validator_markMixed_21 : decode b_Validator_markMixed 21 = .ok (.getfield 9, 3) := by decide +kernel
theorem d_Validator_markMixed_24 : decode b_Validator_markMixed 24 = .ok (.getfield 163, 3) := by decide +kernel
theorem d_Validator_markMixed_27 : decode b_Validator_markMixed 27 = .ok (.putfield 166, 3) := by decide +kernel
theorem d_Validator_markMixed_30 : decode b_Validator_markMixed 30 = .ok (.iconst 0, 1) := by decide +kernel
theorem d_Validator_markMixed_31 : decode b_Validator_markMixed 31 = .ok (.istore_n 3, 1) := by decide +kernel
theorem d_Validator_markMixed_32 : decode b_Validator_markMixed 32 = .ok (.iload_n 3, 1) := by decide +kernel
theorem d_Validator_markMixed_33 : decode b_Validator_markMixed 33 = .ok (.ldc 169, 2) := by decide +kernel
theorem d_Validator_markMixed_35 : decode b_Validator_markMixed 35 = .ok (.if_icmp .ge 153, 3) := by decide +kernel
theorem d_Validator_markMixed_38 : decode b_Validator_markMixed 38 = .ok (.aload_n 0, 1) := by decide +kernel
theorem d_Validator_markMixed_39 : decode b_Validator_markMixed 39 = .ok (.getfield 15, 3) := by decide +kernel
theorem d_Validator_markMixed_42 : decode b_Validator_markMixed 42 = .ok (.ldc 170, 2) := by decide +kernel
theorem d_Validator_markMixed_44 : decode b_Validator_markMixed 44 = .ok (.invokevirtual 172, 3) := by decide +kernel
theorem d_Validator_markMixed_47 : decode b_Validator_markMixed 47 = .ok (.ifCond .ne 141, 3) := by decide +kernel
theorem d_Validator_markMixed_50 : decode b_Validator_markMixed 50 = .ok (.aload_n 0, 1) := by decide +kernel
theorem d_Validator_markMixed_51 : decode b_Validator_markMixed 51 = .ok (.getfield 15, 3) := by decide +kernel
theorem d_Validator_markMixed_54 : decode b_Validator_markMixed 54 = .ok (.getfield 158, 3) := by decide +kernel
theorem d_Validator_markMixed_57 : decode b_Validator_markMixed 57 = .ok (.aload_n 0, 1) := by decide +kernel
theorem d_Validator_markMixed_58 : decode b_Validator_markMixed 58 = .ok (.getfield 15, 3) := by decide +kernel
theorem d_Validator_markMixed_61 : decode b_Validator_markMixed 61 = .ok (.getfield 166, 3) := by decide +kernel
theorem d_Validator_markMixed_64 : decode b_Validator_markMixed 64 = .ok (.if_icmp .ge 124, 3) := by decide +kernel
theorem d_Validator_markMixed_67 : decode b_Validator_markMixed 67 = .ok (.aload_n 0, 1) := by decide +kernel
theorem d_Validator_markMixed_68 : decode b_Validator_markMixed 68 = .ok (.getfield 15, 3) := by decide +kernel
theorem d_Validator_markMixed_71 : decode b_Validator_markMixed 71 = .ok (.ldc 176, 2) := by decide +kernel
theorem d_Validator_markMixed_73 : decode b_Validator_markMixed 73 = .ok (.invokevirtual 178, 3) := by decide +kernel
theorem d_Validator_markMixed_76 : decode b_Validator_markMixed 76 = .ok (.istore 4, 2) := by decide +kernel
theorem d_Validator_markMixed_78 : decode b_Validator_markMixed 78 = .ok (.aload_n 0, 1) := by decide +kernel
theorem d_Validator_markMixed_79 : decode b_Validator_markMixed 79 = .ok (.getfield 15, 3) := by decide +kernel
theorem d_Validator_markMixed_82 : decode b_Validator_markMixed 82 = .ok (.dup, 1) := by decide +kernel
theorem d_Validator_markMixed_83 : decode b_Validator_markMixed 83 = .ok (.getfield 158, 3) := by decide +kernel
theorem d_Validator_markMixed_86 : decode b_Validator_markMixed 86 = .ok (.iload 4, 2) := by decide +kernel
theorem d_Validator_markMixed_88 : decode b_Validator_markMixed 88 = .ok (.ifCond .eq 7, 3) := by decide +kernel
theorem d_Validator_markMixed_91 : decode b_Validator_markMixed 91 = .ok (.iconst 0, 1) := by decide +kernel
theorem d_Validator_markMixed_92 : decode b_Validator_markMixed 92 = .ok (.goto 4, 3) := by decide +kernel
theorem d_Validator_markMixed_95 : decode b_Validator_markMixed 95 = .ok (.iconst 1, 1) := by decide +kernel
theorem d_Validator_markMixed_96 : decode b_Validator_markMixed 96 = .ok (.iadd, 1) := by decide +kernel
theorem d_Validator_markMixed_97 : decode b_Validator_markMixed 97 = .ok (.putfield 158, 3) := by decide +kernel
theorem d_Validator_markMixed_100 : decode b_Validator_markMixed 100 = .ok (.iload 4, 2) := by decide +kernel
theorem d_Validator_markMixed_102 : decode b_Validator_markMixed 102 = .ok (.ifCond .eq 80, 3) := by decide +kernel
theorem d_Validator_markMixed_105 : decode b_Validator_markMixed 105 = .ok (.aload_n 0, 1) := by decide +kernel
theorem d_Validator_markMixed_106 : decode b_Validator_markMixed 106 = .ok (.getfield 15, 3) := by decide +kernel
theorem d_Validator_markMixed_109 : decode b_Validator_markMixed 109 = .ok (.invokevirtual 181, 3) := by decide +kernel
theorem d_Validator_markMixed_112 : decode b_Validator_markMixed 112 = .ok (.pop, 1) := by decide +kernel
theorem d_Validator_markMixed_113 : decode b_Validator_markMixed 113 = .ok (.aload_n 0, 1) := by decide +kernel
theorem d_Validator_markMixed_114 : decode b_Validator_markMixed 114 = .ok (.getfield 15, 3) := by decide +kernel
theorem d_Validator_markMixed_117 : decode b_Validator_markMixed 117 = .ok (.invokevirtual 184, 3) := by decide +kernel
theorem d_Validator_markMixed_120 : decode b_Validator_markMixed 120 = .ok (.istore 5, 2) := by decide +kernel
theorem d_Validator_markMixed_122 : decode b_Validator_markMixed 122 = .ok (.aload_n 0, 1) := by decide +kernel
theorem d_Validator_markMixed_123 : decode b_Validator_markMixed 123 = .ok (.getfield 9, 3) := by decide +kernel
theorem d_Validator_markMixed_126 : decode b_Validator_markMixed 126 = .ok (.iload 5, 2) := by decide +kernel
theorem d_Validator_markMixed_128 : decode b_Validator_markMixed 128 = .ok (.aload_n 0, 1) := by decide +kernel
theorem d_Validator_markMixed_129 : decode b_Validator_markMixed 129 = .ok (.getfield 15, 3) := by decide +kernel
theorem d_Validator_markMixed_132 : decode b_Validator_markMixed 132 = .ok (.getfield 158, 3) := by decide +kernel
theorem d_Validator_markMixed_135 : decode b_Validator_markMixed 135 = .ok (.iload 5, 2) := by decide +kernel
theorem d_Validator_markMixed_137 : decode b_Validator_markMixed 137 = .ok (.isub, 1) := by decide +kernel
theorem d_Validator_markMixed_138 : decode b_Validator_markMixed 138 = .ok (.invokevirtual 187, 3) := by decide +kernel
theorem d_Validator_markMixed_141 : decode b_Validator_markMixed 141 = .ok (.istore 6, 2) := by decide +kernel
theorem d_Validator_markMixed_143 : decode b_Validator_markMixed 143 = .ok (.aload_n 0, 1) := by decide +kernel
theorem d_Validator_markMixed_144 : decode b_Validator_markMixed 144 = .ok (.getfield 39, 3) := by decide +kernel
theorem d_Validator_markMixed_147 : decode b_Validator_markMixed 147 = .ok (.iconst 3, 1) := by decide +kernel
theorem d_Validator_markMixed_148 : decode b_Validator_markMixed 148 = .ok (.dup2, 1) := by decide +kernel
theorem d_Validator_markMixed_149 : decode b_Validator_markMixed 149 = .ok (.iaload, 1) := by decide +kernel
theorem d_Validator_markMixed_150 : decode b_Validator_markMixed 150 = .ok (.aload_n 0, 1) := by decide +kernel
theorem d_Validator_markMixed_151 : decode b_Validator_markMixed 151 = .ok (.getfield 9, 3) := by decide +kernel
theorem d_Validator_markMixed_154 : decode b_Validator_markMixed 154 = .ok (.getfield 191, 3) := by decide +kernel
theorem d_Validator_markMixed_157 : decode b_Validator_markMixed 157 = .ok (.iload 6, 2) := by decide +kernel
theorem d_Validator_markMixed_159 : decode b_Validator_markMixed 159 = .ok (.iaload, 1) := by decide +kernel
theorem d_Validator_markMixed_160 : decode b_Validator_markMixed 160 = .ok (.iload_n 2, 1) := by decide +kernel
theorem d_Validator_markMixed_161 : decode b_Validator_markMixed 161 = .ok (.if_icmp .ne 7, 3) := by decide +kernel
theorem d_Validator_markMixed_164 : decode b_Validator_markMixed 164 = .ok (.iconst 1, 1) := by decide +kernel
theorem d_Validator_markMixed_165 : decode b_Validator_markMixed 165 = .ok (.goto 4, 3) := by decide +kernel
theorem d_Validator_markMixed_168 : decode b_Validator_markMixed 168 = .ok (.iconst 0, 1) := by decide +kernel
theorem d_Validator_markMixed_169 : decode b_Validator_markMixed 169 = .ok (.iadd, 1) := by decide +kernel
theorem d_Validator_markMixed_170 : decode b_Validator_markMixed 170 = .ok (.iastore, 1) := by decide +kernel
theorem d_Validator_markMixed_171 : decode b_Validator_markMixed 171 = .ok (.aload_n 0, 1) := by decide +kernel
theorem d_Validator_markMixed_172 : decode b_Validator_markMixed 172 = .ok (.getfield 9, 3) := by decide +kernel
theorem d_Validator_markMixed_175 : decode b_Validator_markMixed 175 = .ok (.getfield 191, 3) := by decide +kernel
theorem d_Validator_markMixed_178 : decode b_Validator_markMixed 178 = .ok (.iload 6, 2) := by decide +kernel
theorem d_Validator_markMixed_180 : decode b_Validator_markMixed 180 = .ok (.iload_n 2, 1) := by decide +kernel
theorem d_Validator_markMixed_181 : decode b_Validator_markMixed 181 = .ok (.iastore, 1) := by decide +kernel
theorem d_Validator_markMixed_182 : decode b_Validator_markMixed 182 = .ok (.iinc 3 1, 3) := by decide +kernel
theorem d_Validator_markMixed_185 : decode b_Validator_markMixed 185 = .ok (.goto (-153), 3) := by decide +kernel
theorem d_Validator_markMixed_188 : decode b_Validator_markMixed 188 = .ok (.iload_n 2, 1) := by decide +kernel
theorem d_Validator_markMixed_189 : decode b_Validator_markMixed 189 = .ok (.ireturn, 1) := by decide +kernel
/-- Validator_markMixed -/
def w_Validator_markMixed (L : Nat → Nat) (a1 : Int) (Q : Int → IS → Prop) (σ : IS) : Prop := w_Store_newMark L  (fun v2 σ1 => WL (fun (K3 : Int → IS → Prop) (s5 : Int) (σ6 : IS) => WJ (fun (s9 : Unit) (σ10 : IS) => Q v2 σ10) (fun J7 => if s5 < 1000000 then w_Reader_at L 1083 (fun v13 σ12 => if v13 = 0 ∧ ((σ12.1 2 2) < (σ12.1 2 3)) then w_Reader_skip L 1084 (fun v15 σ14 => inR ((σ14.1 2 2) + (if v15 = 0 then (1 : Int) else (0 : Int))) ∧ WJ (fun (s18 : Unit) (σ19 : IS) => inR (s5 + 1) ∧ K3 (s5 + 1) σ19) (fun J16 => if v15 = 0 then J16 () (pf σ14 2 2 ((σ14.1 2 2) + (if v15 = 0 then (1 : Int) else (0 : Int)))) else w_Reader_skipSpace L  (fun v23 σ22 => w_Reader_readName L  (fun v25 σ24 => inR ((σ24.1 2 2) - v25) ∧ w_Store_intern L v25 ((σ24.1 2 2) - v25) (fun v27 σ26 => inL L 149 3 ∧ inL L 155 v27 ∧ inR ((σ26.2 149 (Int.toNat 3)) + (if (σ26.2 155 (Int.toNat v27)) = v2 then (1 : Int) else (0 : Int))) ∧ inL L 149 3 ∧ inL L 155 v27 ∧ J16 () (pr (pr σ26 149 (Int.toNat 3) ((σ26.2 149 (Int.toNat 3)) + (if (σ26.2 155 (Int.toNat v27)) = v2 then (1 : Int) else (0 : Int)))) 155 (Int.toNat v27) v2)) σ24) σ22) (pf σ14 2 2 ((σ14.1 2 2) + (if v15 = 0 then (1 : Int) else (0 : Int)))))) σ12 else J7 () σ12) σ6 else J7 () σ6)) 0 (pf (pf σ1 2 2 a1) 2 3 (σ1.1 1 3))) σ
set_option maxHeartbeats 4000000 in
set_option maxRecDepth 20000 in
theorem s_Validator_markMixed {L : Nat → Nat} (hL : ∀ r, L r < 2147483648) {d : Nat} (hd : 2 ≤ d) {a1 : Int} {Q : Int → IS → Prop} {σ : IS}  (h : w_Validator_markMixed L a1 Q σ) : OkI BF L d 8 b_Validator_markMixed 7 1 0 [] [some (.inr 8), some (.inl a1)] σ (qi Q) := by
  unfold w_Validator_markMixed at h
  obtain ⟨d, rfl⟩ : ∃ e, d = e + 1 := ⟨d - 1, by omega⟩
  refine k_sb (lv' := [some (.inr 8), some (.inl a1), none, none, none, none, none]) (sb_s (sb_s (sb_e (sb_e (sb_e (sb_e (sb_e sb_nil))))))) ?_
  refine k_aload_n d_Validator_markMixed_0 rfl ?_
  refine k_getR d_Validator_markMixed_1 fl_8_9 ob_8 rfl ?_
  refine k_cvi [] d_Validator_markMixed_4 ml_8_152 rfl rfl ob_1 rfl (s_Store_newMark hL (by omega)  h) (fun v2 σ1 h => ?_)
  refine k_istore_n (lv' := [some (.inr 8), some (.inl a1), some (.inl v2), none, none, none, none]) d_Validator_markMixed_7 rfl rfl ?_
  refine k_aload_n d_Validator_markMixed_8 rfl ?_
  refine k_getR d_Validator_markMixed_9 fl_8_15 ob_8 rfl ?_
  refine k_iload_n d_Validator_markMixed_12 rfl ?_
  refine k_putI d_Validator_markMixed_13 fl_8_158 ob_2 rfl ?_
  refine k_aload_n d_Validator_markMixed_16 rfl ?_
  refine k_getR d_Validator_markMixed_17 fl_8_15 ob_8 rfl ?_
  refine k_aload_n d_Validator_markMixed_20 rfl ?_
  refine k_getR d_Validator_markMixed_21 fl_8_9 ob_8 rfl ?_
  refine k_getI (x := (σ1.1 1 3)) d_Validator_markMixed_24 fl_8_163 ob_1 rfl rfl ?_
  refine k_putI d_Validator_markMixed_27 fl_8_166 ob_2 rfl ?_
  refine k_iconst d_Validator_markMixed_30 cI_0 ?_
  refine k_istore_n (lv' := [some (.inr 8), some (.inl a1), some (.inl v2), some (.inl 0), none, none, none]) d_Validator_markMixed_31 rfl rfl ?_
  refine k_sb (lv' := [some (.inr 8), none, some (.inl v2), some (.inl 0), none, none, none]) (sb_s (sb_n (sb_s (sb_s (sb_s (sb_s (sb_s sb_nil))))))) ?_
  refine k_loop (S := Int) (st := fun _ => []) (lv := fun s5 => [some (.inr 8), none, some (.inl v2), some (.inl s5), none, none, none]) (fun K3 hK4 s5 σ6 h => ?_) 0 _ h
  refine k_iload_n d_Validator_markMixed_32 rfl ?_
  refine k_ldc d_Validator_markMixed_33 ks_8_169 cL_1000000 ?_
  refine k_join (S := Unit) (pc' := 188) (st' := fun s9 => []) (lv' := fun s9 => [none, none, some (.inl v2), none, none, none, none]) (fun s9 σ10 h => ?_) (fun J7 hJ8 h => ?_) h
  · refine k_iload_n d_Validator_markMixed_188 rfl ?_
    exact k_iret d_Validator_markMixed_189 (Or.inl rfl) h
  · refine k_icge d_Validator_markMixed_35 rfl (fun c11 => ?_) (fun c11 => ?_)
    · have h := ineg c11 h
      exact k_sb (sb_n (sb_s (sb_s (sb_n (sb_s (sb_s (sb_s sb_nil))))))) (hJ8 () _ h)
    · have h := ipos c11 h
      refine k_aload_n d_Validator_markMixed_38 rfl ?_
      refine k_getR d_Validator_markMixed_39 fl_8_15 ob_8 rfl ?_
      refine k_ldc d_Validator_markMixed_42 ks_8_170 rfl ?_
      refine k_cvi [.inr 1083] d_Validator_markMixed_44 ml_8_172 rfl rfl ob_2 rfl (s_Reader_at hL (by omega) it_1083 h) (fun v13 σ12 h => ?_)
      have hX43 : (v13 = 0 ∧ ((σ12.1 2 2) < (σ12.1 2 3))) → OkI BF L (d + 1) 8 b_Validator_markMixed 7 1 67 [] [some (.inr 8), none, some (.inl v2), some (.inl s5), none, none, none] σ12 (qi Q) := fun e45 => by
        have h := ipos e45 h
        refine k_aload_n d_Validator_markMixed_67 rfl ?_
        refine k_getR d_Validator_markMixed_68 fl_8_15 ob_8 rfl ?_
        refine k_ldc d_Validator_markMixed_71 ks_8_176 rfl ?_
        refine k_cvi [.inr 1084] d_Validator_markMixed_73 ml_8_178 rfl rfl ob_2 rfl (s_Reader_skip hL (by omega) it_1084 h) (fun v15 σ14 h => ?_)
        refine k_istore (lv' := [some (.inr 8), none, some (.inl v2), some (.inl s5), some (.inl v15), none, none]) d_Validator_markMixed_76 rfl rfl ?_
        refine k_aload_n d_Validator_markMixed_78 rfl ?_
        refine k_getR d_Validator_markMixed_79 fl_8_15 ob_8 rfl ?_
        refine k_dup d_Validator_markMixed_82 ?_
        refine k_getI (x := (σ14.1 2 2)) d_Validator_markMixed_83 fl_8_158 ob_2 rfl rfl ?_
        refine k_iload d_Validator_markMixed_86 rfl ?_
        have hV39 : OkI BF L (d + 1) 8 b_Validator_markMixed 7 1 96 [.inl (if v15 = 0 then (1 : Int) else (0 : Int)), .inl (σ14.1 2 2), .inr 2] [some (.inr 8), none, some (.inl v2), some (.inl s5), some (.inl v15), none, none] σ14 (qi Q) := by
          obtain ⟨p38, h⟩ := h
          refine k_iadd d_Validator_markMixed_96 p38 ?_
          refine k_putI d_Validator_markMixed_97 fl_8_158 ob_2 rfl ?_
          refine k_iload d_Validator_markMixed_100 rfl ?_
          refine k_join (S := Unit) (pc' := 182) (st' := fun s18 => []) (lv' := fun s18 => [some (.inr 8), none, some (.inl v2), some (.inl s5), none, none, none]) (fun s18 σ19 h => ?_) (fun J16 hJ17 h => ?_) h
          · obtain ⟨p20, h⟩ := h
            refine k_iinc (lv' := [some (.inr 8), none, some (.inl v2), some (.inl (s5 + 1)), none, none, none]) d_Validator_markMixed_182 cI_1 rfl rfl p20 rfl ?_
            refine k_goto d_Validator_markMixed_185 rfl ?_
            exact k_sb (sb_s (sb_s (sb_s (sb_s (sb_s (sb_s (sb_s sb_nil))))))) (hK4 (s5 + 1) _ h)
          · refine k_ifeq d_Validator_markMixed_102 rfl (fun c21 => ?_) (fun c21 => ?_)
            · have h := ipos c21 h
              exact k_sb (sb_s (sb_s (sb_s (sb_s (sb_n (sb_s (sb_s sb_nil))))))) (hJ17 () _ h)
            · have h := ineg c21 h
              refine k_aload_n d_Validator_markMixed_105 rfl ?_
              refine k_getR d_Validator_markMixed_106 fl_8_15 ob_8 rfl ?_
              refine k_cvi [] d_Validator_markMixed_109 ml_8_181 rfl rfl ob_2 rfl (s_Reader_skipSpace hL (by omega)  h) (fun v23 σ22 h => ?_)
              refine k_pop d_Validator_markMixed_112 ?_
              refine k_aload_n d_Validator_markMixed_113 rfl ?_
              refine k_getR d_Validator_markMixed_114 fl_8_15 ob_8 rfl ?_
              refine k_cvi [] d_Validator_markMixed_117 ml_8_184 rfl rfl ob_2 rfl (s_Reader_readName hL (by omega)  h) (fun v25 σ24 h => ?_)
              refine k_istore (lv' := [some (.inr 8), none, some (.inl v2), some (.inl s5), some (.inl v15), some (.inl v25), none]) d_Validator_markMixed_120 rfl rfl ?_
              refine k_aload_n d_Validator_markMixed_122 rfl ?_
              refine k_getR d_Validator_markMixed_123 fl_8_9 ob_8 rfl ?_
              refine k_iload d_Validator_markMixed_126 rfl ?_
              refine k_aload_n d_Validator_markMixed_128 rfl ?_
              refine k_getR d_Validator_markMixed_129 fl_8_15 ob_8 rfl ?_
              refine k_getI (x := (σ24.1 2 2)) d_Validator_markMixed_132 fl_8_158 ob_2 rfl rfl ?_
              refine k_iload d_Validator_markMixed_135 rfl ?_
              obtain ⟨p37, h⟩ := h
              refine k_isub d_Validator_markMixed_137 p37 ?_
              refine k_cvi [.inl v25, .inl ((σ24.1 2 2) - v25)] d_Validator_markMixed_138 ml_8_187 rfl rfl ob_1 rfl (s_Store_intern hL (by omega) stB_BF h) (fun v27 σ26 h => ?_)
              refine k_istore (lv' := [some (.inr 8), none, some (.inl v2), some (.inl s5), some (.inl v15), some (.inl v25), some (.inl v27)]) d_Validator_markMixed_141 rfl rfl ?_
              refine k_aload_n d_Validator_markMixed_143 rfl ?_
              refine k_getR d_Validator_markMixed_144 fl_8_39 ob_8 rfl ?_
              refine k_iconst d_Validator_markMixed_147 cI_3 ?_
              refine k_dup2 d_Validator_markMixed_148 ?_
              obtain ⟨p36, h⟩ := h
              refine k_ild (x := (σ26.2 149 (Int.toNat 3))) d_Validator_markMixed_149 rI_149 p36 rfl ?_
              refine k_aload_n d_Validator_markMixed_150 rfl ?_
              refine k_getR d_Validator_markMixed_151 fl_8_9 ob_8 rfl ?_
              refine k_getR d_Validator_markMixed_154 fl_8_191 ob_1 rfl ?_
              refine k_iload d_Validator_markMixed_157 rfl ?_
              obtain ⟨p35, h⟩ := h
              refine k_ild (x := (σ26.2 155 (Int.toNat v27))) d_Validator_markMixed_159 rI_155 p35 rfl ?_
              refine k_iload_n d_Validator_markMixed_160 rfl ?_
              have hV31 : OkI BF L (d + 1) 8 b_Validator_markMixed 7 1 169 [.inl (if (σ26.2 155 (Int.toNat v27)) = v2 then (1 : Int) else (0 : Int)), .inl (σ26.2 149 (Int.toNat 3)), .inl 3, .inr 149] [some (.inr 8), none, some (.inl v2), some (.inl s5), some (.inl v15), some (.inl v25), some (.inl v27)] σ26 (qi Q) := by
                obtain ⟨p30, h⟩ := h
                refine k_iadd d_Validator_markMixed_169 p30 ?_
                obtain ⟨p29, h⟩ := h
                refine k_ist d_Validator_markMixed_170 rI_149 p29 ?_
                refine k_aload_n d_Validator_markMixed_171 rfl ?_
                refine k_getR d_Validator_markMixed_172 fl_8_9 ob_8 rfl ?_
                refine k_getR d_Validator_markMixed_175 fl_8_191 ob_1 rfl ?_
                refine k_iload d_Validator_markMixed_178 rfl ?_
                refine k_iload_n d_Validator_markMixed_180 rfl ?_
                obtain ⟨p28, h⟩ := h
                refine k_ist d_Validator_markMixed_181 rI_155 p28 ?_
                exact k_sb (sb_s (sb_s (sb_s (sb_s (sb_n (sb_n (sb_n sb_nil))))))) (hJ17 () _ h)
              refine k_icne d_Validator_markMixed_161 rfl (fun c32 => ?_) (fun c32 => ?_)
              · have hV34 := k_eqI (if_neg c32) hV31
                refine k_iconst d_Validator_markMixed_168 cI_0 ?_
                exact hV34
              · have hV33 := k_eqI (if_pos c32) hV31
                refine k_iconst d_Validator_markMixed_164 cI_1 ?_
                refine k_goto d_Validator_markMixed_165 rfl ?_
                exact hV33
        refine k_ifeq d_Validator_markMixed_88 rfl (fun c40 => ?_) (fun c40 => ?_)
        · have hV41 := k_eqI (if_pos c40) hV39
          refine k_iconst d_Validator_markMixed_95 cI_1 ?_
          exact hV41
        · have hV42 := k_eqI (if_neg c40) hV39
          refine k_iconst d_Validator_markMixed_91 cI_0 ?_
          refine k_goto d_Validator_markMixed_92 rfl ?_
          exact hV42
      have hY44 : ¬ (v13 = 0 ∧ ((σ12.1 2 2) < (σ12.1 2 3))) → OkI BF L (d + 1) 8 b_Validator_markMixed 7 1 188 [] [some (.inr 8), none, some (.inl v2), some (.inl s5), none, none, none] σ12 (qi Q) := fun e45 => by
        have h := ineg e45 h
        exact k_sb (sb_n (sb_s (sb_s (sb_n (sb_s (sb_s (sb_s sb_nil))))))) (hJ8 () _ h)
      refine k_ifne d_Validator_markMixed_47 rfl (fun c46 => ?_) (fun c46 => ?_)
      · exact hY44 (fun z => c46 z.1)
      · refine k_aload_n d_Validator_markMixed_50 rfl ?_
        refine k_getR d_Validator_markMixed_51 fl_8_15 ob_8 rfl ?_
        refine k_getI (x := (σ12.1 2 2)) d_Validator_markMixed_54 fl_8_158 ob_2 rfl rfl ?_
        refine k_aload_n d_Validator_markMixed_57 rfl ?_
        refine k_getR d_Validator_markMixed_58 fl_8_15 ob_8 rfl ?_
        refine k_getI (x := (σ12.1 2 3)) d_Validator_markMixed_61 fl_8_166 ob_2 rfl rfl ?_
        refine k_icge d_Validator_markMixed_64 rfl (fun c47 => ?_) (fun c47 => ?_)
        · exact hY44 (fun z => (c47) z.2)
        · exact hX43 (⟨c46, c47⟩)
theorem d_Model_has_0 : decode b_Model_has 0 = .ok (.aload_n 0, 1) := by decide +kernel
theorem d_Model_has_1 : decode b_Model_has 1 = .ok (.iload_n 1, 1) := by decide +kernel
theorem d_Model_has_2 : decode b_Model_has 2 = .ok (.bipush 8, 2) := by decide +kernel
theorem d_Model_has_4 : decode b_Model_has 4 = .ok (.imul, 1) := by decide +kernel
theorem d_Model_has_5 : decode b_Model_has 5 = .ok (.iload_n 2, 1) := by decide +kernel
theorem d_Model_has_6 : decode b_Model_has 6 = .ok (.iconst 5, 1) := by decide +kernel
theorem d_Model_has_7 : decode b_Model_has 7 = .ok (.ishr, 1) := by decide +kernel
theorem d_Model_has_8 : decode b_Model_has 8 = .ok (.iadd, 1) := by decide +kernel
theorem d_Model_has_9 : decode b_Model_has 9 = .ok (.iaload, 1) := by decide +kernel
theorem d_Model_has_10 : decode b_Model_has 10 = .ok (.iload_n 2, 1) := by decide +kernel
theorem d_Model_has_11 : decode b_Model_has 11 = .ok (.bipush 31, 2) := by decide +kernel
theorem d_Model_has_13 : decode b_Model_has 13 = .ok (.iand, 1) := by decide +kernel
theorem d_Model_has_14 : decode b_Model_has 14 = .ok (.iushr, 1) := by decide +kernel
theorem d_Model_has_15 : decode b_Model_has 15 = .ok (.iconst 1, 1) := by decide +kernel
theorem d_Model_has_16 : decode b_Model_has 16 = .ok (.iand, 1) := by decide +kernel
theorem d_Model_has_17 : decode b_Model_has 17 = .ok (.ifCond .eq 7, 3) := by decide +kernel
theorem d_Model_has_20 : decode b_Model_has 20 = .ok (.iconst 1, 1) := by decide +kernel
theorem d_Model_has_21 : decode b_Model_has 21 = .ok (.goto 4, 3) := by decide +kernel
theorem d_Model_has_24 : decode b_Model_has 24 = .ok (.iconst 0, 1) := by decide +kernel
theorem d_Model_has_25 : decode b_Model_has 25 = .ok (.ireturn, 1) := by decide +kernel
/-- Model_has -/
def w_Model_has (L : Nat → Nat) (a0 : Nat) (a1 : Int) (a2 : Int) (Q : Int → IS → Prop) (σ : IS) : Prop := inR (a1 * 8) ∧ inR ((a1 * 8) + (isr a2 5)) ∧ inL L a0 ((a1 * 8) + (isr a2 5)) ∧ Q (if (ia (iur (σ.2 a0 (Int.toNat ((a1 * 8) + (isr a2 5)))) (ia a2 31)) 1) = 0 then (0 : Int) else (1 : Int)) σ
set_option maxHeartbeats 4000000 in
set_option maxRecDepth 20000 in
theorem s_Model_has {L : Nat → Nat} (hL : ∀ r, L r < 2147483648) {d : Nat} (hd : 0 ≤ d) {a0 : Nat} {a1 : Int} {a2 : Int} {Q : Int → IS → Prop} {σ : IS} (ha0 : rwI BF a0) (h : w_Model_has L a0 a1 a2 Q σ) : OkI BF L d 9 b_Model_has 3 2 0 [] [some (.inr a0), some (.inl a1), some (.inl a2)] σ (qi Q) := by
  unfold w_Model_has at h
  refine k_sb (lv' := [some (.inr a0), some (.inl a1), some (.inl a2)]) (sb_s (sb_s (sb_s sb_nil))) ?_
  refine k_aload_n d_Model_has_0 rfl ?_
  refine k_iload_n d_Model_has_1 rfl ?_
  refine k_bipush d_Model_has_2 cB_8 ?_
  obtain ⟨p7, h⟩ := h
  refine k_imul d_Model_has_4 p7 ?_
  refine k_iload_n d_Model_has_5 rfl ?_
  refine k_iconst d_Model_has_6 cI_5 ?_
  refine k_ishr d_Model_has_7 ?_
  obtain ⟨p6, h⟩ := h
  refine k_iadd d_Model_has_8 p6 ?_
  obtain ⟨p5, h⟩ := h
  refine k_ild (x := (σ.2 a0 (Int.toNat ((a1 * 8) + (isr a2 5))))) d_Model_has_9 ha0 p5 rfl ?_
  refine k_iload_n d_Model_has_10 rfl ?_
  refine k_bipush d_Model_has_11 cB_31 ?_
  refine k_iand d_Model_has_13 ?_
  refine k_iushr d_Model_has_14 ?_
  refine k_iconst d_Model_has_15 cI_1 ?_
  refine k_iand d_Model_has_16 ?_
  have hV1 : OkI BF L d 9 b_Model_has 3 2 25 [.inl (if (ia (iur (σ.2 a0 (Int.toNat ((a1 * 8) + (isr a2 5)))) (ia a2 31)) 1) = 0 then (0 : Int) else (1 : Int))] [some (.inr a0), some (.inl a1), some (.inl a2)] σ (qi Q) := by
    exact k_iret d_Model_has_25 (Or.inr ⟨rfl, it01 (Or.inl rfl) (Or.inr rfl)⟩) h
  refine k_ifeq d_Model_has_17 rfl (fun c2 => ?_) (fun c2 => ?_)
  · have hV3 := k_eqI (if_pos c2) hV1
    refine k_iconst d_Model_has_24 cI_0 ?_
    exact hV3
  · have hV4 := k_eqI (if_neg c2) hV1
    refine k_iconst d_Model_has_20 cI_1 ?_
    refine k_goto d_Model_has_21 rfl ?_
    exact hV4
theorem d_Model_unite_0 : decode b_Model_unite 0 = .ok (.iconst 0, 1) := by decide +kernel
theorem d_Model_unite_1 : decode b_Model_unite 1 = .ok (.istore 4, 2) := by decide +kernel
theorem d_Model_unite_3 : decode b_Model_unite 3 = .ok (.iload 4, 2) := by decide +kernel
theorem d_Model_unite_5 : decode b_Model_unite 5 = .ok (.bipush 8, 2) := by decide +kernel
theorem d_Model_unite_7 : decode b_Model_unite 7 = .ok (.if_icmp .ge 30, 3) := by decide +kernel
theorem d_Model_unite_10 : decode b_Model_unite 10 = .ok (.aload_n 0, 1) := by decide +kernel
theorem d_Model_unite_11 : decode b_Model_unite 11 = .ok (.iload_n 1, 1) := by decide +kernel
theorem d_Model_unite_12 : decode b_Model_unite 12 = .ok (.bipush 8, 2) := by decide +kernel
theorem d_Model_unite_14 : decode b_Model_unite 14 = .ok (.imul, 1) := by decide +kernel
theorem d_Model_unite_15 : decode b_Model_unite 15 = .ok (.iload 4, 2) := by decide +kernel
theorem d_Model_unite_17 : decode b_Model_unite 17 = .ok (.iadd, 1) := by decide +kernel
theorem d_Model_unite_18 : decode b_Model_unite 18 = .ok (.dup2, 1) := by decide +kernel
theorem d_Model_unite_19 : decode b_Model_unite 19 = .ok (.iaload, 1) := by decide +kernel
theorem d_Model_unite_20 : decode b_Model_unite 20 = .ok (.aload_n 2, 1) := by decide +kernel
theorem d_Model_unite_21 : decode b_Model_unite 21 = .ok (.iload_n 3, 1) := by decide +kernel
theorem d_Model_unite_22 : decode b_Model_unite 22 = .ok (.bipush 8, 2) := by decide +kernel
theorem d_Model_unite_24 : decode b_Model_unite 24 = .ok (.imul, 1) := by decide +kernel
theorem d_Model_unite_25 : decode b_Model_unite 25 = .ok (.iload 4, 2) := by decide +kernel
theorem d_Model_unite_27 : decode b_Model_unite 27 = .ok (.iadd, 1) := by decide +kernel
theorem d_Model_unite_28 : decode b_Model_unite 28 = .ok (.iaload, 1) := by decide +kernel
theorem d_Model_unite_29 : decode b_Model_unite 29 = .ok (.ior, 1) := by decide +kernel
theorem d_Model_unite_30 : decode b_Model_unite 30 = .ok (.iastore, 1) := by decide +kernel
theorem d_Model_unite_31 : decode b_Model_unite 31 = .ok (.iinc 4 1, 3) := by decide +kernel
theorem d_Model_unite_34 : decode b_Model_unite 34 = .ok (.goto (-31), 3) := by decide +kernel
theorem d_Model_unite_37 : decode b_Model_unite 37 = .ok (.return_, 1) := by decide +kernel
/-- Model_unite -/
def w_Model_unite (L : Nat → Nat) (a0 : Nat) (a1 : Int) (a2 : Nat) (a3 : Int) (Q : IS → Prop) (σ : IS) : Prop := WL (fun (K1 : Int → IS → Prop) (s3 : Int) (σ4 : IS) => if s3 < 8 then inR (a1 * 8) ∧ inR ((a1 * 8) + s3) ∧ inL L a0 ((a1 * 8) + s3) ∧ inR (a3 * 8) ∧ inR ((a3 * 8) + s3) ∧ inL L a2 ((a3 * 8) + s3) ∧ inL L a0 ((a1 * 8) + s3) ∧ inR (s3 + 1) ∧ K1 (s3 + 1) (pr σ4 a0 (Int.toNat ((a1 * 8) + s3)) (io (σ4.2 a0 (Int.toNat ((a1 * 8) + s3))) (σ4.2 a2 (Int.toNat ((a3 * 8) + s3))))) else Q σ4) 0 σ
set_option maxHeartbeats 4000000 in
set_option maxRecDepth 20000 in
theorem s_Model_unite {L : Nat → Nat} (hL : ∀ r, L r < 2147483648) {d : Nat} (hd : 0 ≤ d) {a0 : Nat} {a1 : Int} {a2 : Nat} {a3 : Int} {Q : IS → Prop} {σ : IS} (ha0 : rwI BF a0) (ha2 : rwI BF a2) (h : w_Model_unite L a0 a1 a2 a3 Q σ) : OkI BF L d 9 b_Model_unite 5 0 0 [] [some (.inr a0), some (.inl a1), some (.inr a2), some (.inl a3)] σ (qv Q) := by
  unfold w_Model_unite at h
  refine k_sb (lv' := [some (.inr a0), some (.inl a1), some (.inr a2), some (.inl a3), none]) (sb_s (sb_s (sb_s (sb_s (sb_e sb_nil))))) ?_
  refine k_iconst d_Model_unite_0 cI_0 ?_
  refine k_istore (lv' := [some (.inr a0), some (.inl a1), some (.inr a2), some (.inl a3), some (.inl 0)]) d_Model_unite_1 rfl rfl ?_
  refine k_sb (lv' := [some (.inr a0), some (.inl a1), some (.inr a2), some (.inl a3), some (.inl 0)]) (sb_s (sb_s (sb_s (sb_s (sb_s sb_nil))))) ?_
  refine k_loop (S := Int) (st := fun _ => []) (lv := fun s3 => [some (.inr a0), some (.inl a1), some (.inr a2), some (.inl a3), some (.inl s3)]) (fun K1 hK2 s3 σ4 h => ?_) 0 _ h
  refine k_iload d_Model_unite_3 rfl ?_
  refine k_bipush d_Model_unite_5 cB_8 ?_
  refine k_icge d_Model_unite_7 rfl (fun c5 => ?_) (fun c5 => ?_)
  · have h := ineg c5 h
    exact k_ret d_Model_unite_37 h
  · have h := ipos c5 h
    refine k_aload_n d_Model_unite_10 rfl ?_
    refine k_iload_n d_Model_unite_11 rfl ?_
    refine k_bipush d_Model_unite_12 cB_8 ?_
    obtain ⟨p13, h⟩ := h
    refine k_imul d_Model_unite_14 p13 ?_
    refine k_iload d_Model_unite_15 rfl ?_
    obtain ⟨p12, h⟩ := h
    refine k_iadd d_Model_unite_17 p12 ?_
    refine k_dup2 d_Model_unite_18 ?_
    obtain ⟨p11, h⟩ := h
    refine k_ild (x := (σ4.2 a0 (Int.toNat ((a1 * 8) + s3)))) d_Model_unite_19 ha0 p11 rfl ?_
    refine k_aload_n d_Model_unite_20 rfl ?_
    refine k_iload_n d_Model_unite_21 rfl ?_
    refine k_bipush d_Model_unite_22 cB_8 ?_
    obtain ⟨p10, h⟩ := h
    refine k_imul d_Model_unite_24 p10 ?_
    refine k_iload d_Model_unite_25 rfl ?_
    obtain ⟨p9, h⟩ := h
    refine k_iadd d_Model_unite_27 p9 ?_
    obtain ⟨p8, h⟩ := h
    refine k_ild (x := (σ4.2 a2 (Int.toNat ((a3 * 8) + s3)))) d_Model_unite_28 ha2 p8 rfl ?_
    refine k_ior d_Model_unite_29 ?_
    obtain ⟨p7, h⟩ := h
    refine k_ist d_Model_unite_30 ha0 p7 ?_
    obtain ⟨p6, h⟩ := h
    refine k_iinc (lv' := [some (.inr a0), some (.inl a1), some (.inr a2), some (.inl a3), some (.inl (s3 + 1))]) d_Model_unite_31 cI_1 rfl rfl p6 rfl ?_
    refine k_goto d_Model_unite_34 rfl ?_
    exact k_sb (sb_s (sb_s (sb_s (sb_s (sb_s sb_nil))))) (hK2 (s3 + 1) _ h)
theorem d_Model_followAll_0 : decode b_Model_followAll 0 = .ok (.iconst 0, 1) := by decide +kernel
theorem d_Model_followAll_1 : decode b_Model_followAll 1 = .ok (.istore_n 3, 1) := by decide +kernel
theorem d_Model_followAll_2 : decode b_Model_followAll 2 = .ok (.iload_n 3, 1) := by decide +kernel
theorem d_Model_followAll_3 : decode b_Model_followAll 3 = .ok (.aload_n 0, 1) := by decide +kernel
theorem d_Model_followAll_4 : decode b_Model_followAll 4 = .ok (.getfield 62, 3) := by decide +kernel
theorem d_Model_followAll_7 : decode b_Model_followAll 7 = .ok (.if_icmp .ge 34, 3) := by decide +kernel
theorem d_Model_followAll_10 : decode b_Model_followAll 10 = .ok (.aload_n 0, 1) := by decide +kernel
theorem d_Model_followAll_11 : decode b_Model_followAll 11 = .ok (.getfield 29, 3) := by decide +kernel
theorem d_Model_followAll_14 : decode b_Model_followAll 14 = .ok (.iload_n 1, 1) := by decide +kernel
theorem d_Model_followAll_15 : decode b_Model_followAll 15 = .ok (.iload_n 3, 1) := by decide +kernel
theorem d_Model_followAll_16 : decode b_Model_followAll 16 = .ok (.invokestatic 122, 3) := by decide +kernel
theorem d_Model_followAll_19 : decode b_Model_followAll 19 = .ok (.ifCond .eq 16, 3) := by decide +kernel
theorem d_Model_followAll_22 : decode b_Model_followAll 22 = .ok (.aload_n 0, 1) := by decide +kernel
theorem d_Model_followAll_23 : decode b_Model_followAll 23 = .ok (.getfield 23, 3) := by decide +kernel
theorem d_Model_followAll_26 : decode b_Model_followAll 26 = .ok (.iload_n 3, 1) := by decide +kernel
theorem d_Model_followAll_27 : decode b_Model_followAll 27 = .ok (.aload_n 0, 1) := by decide +kernel
theorem d_Model_followAll_28 : decode b_Model_followAll 28 = .ok (.getfield 26, 3) := by decide +kernel
theorem d_Model_followAll_31 : decode b_Model_followAll 31 = .ok (.iload_n 2, 1) := by decide +kernel
theorem d_Model_followAll_32 : decode b_Model_followAll 32 = .ok (.invokestatic 126, 3) := by decide +kernel
theorem d_Model_followAll_35 : decode b_Model_followAll 35 = .ok (.iinc 3 1, 3) := by decide +kernel
theorem d_Model_followAll_38 : decode b_Model_followAll 38 = .ok (.goto (-36), 3) := by decide +kernel
theorem d_Model_followAll_41 : decode b_Model_followAll 41 = .ok (.return_, 1) := by decide +kernel
/-- Model_followAll -/
def w_Model_followAll (L : Nat → Nat) (a1 : Int) (a2 : Int) (Q : IS → Prop) (σ : IS) : Prop := WL (fun (K1 : Int → IS → Prop) (s3 : Int) (σ4 : IS) => if s3 < (σ4.1 9 3) then w_Model_has L 140 a1 s3 (fun v7 σ6 => WJ (fun (s10 : Unit) (σ11 : IS) => inR (s3 + 1) ∧ K1 (s3 + 1) σ11) (fun J8 => if v7 = 0 then J8 () σ6 else w_Model_unite L 138 s3 139 a2 (fun σ14 => J8 () σ14) σ6)) σ4 else Q σ4) 0 σ
set_option maxHeartbeats 4000000 in
set_option maxRecDepth 20000 in
theorem s_Model_followAll {L : Nat → Nat} (hL : ∀ r, L r < 2147483648) {d : Nat} (hd : 1 ≤ d) {a1 : Int} {a2 : Int} {Q : IS → Prop} {σ : IS}  (h : w_Model_followAll L a1 a2 Q σ) : OkI BF L d 9 b_Model_followAll 4 0 0 [] [some (.inr 9), some (.inl a1), some (.inl a2)] σ (qv Q) := by
  unfold w_Model_followAll at h
  obtain ⟨d, rfl⟩ : ∃ e, d = e + 1 := ⟨d - 1, by omega⟩
  refine k_sb (lv' := [some (.inr 9), some (.inl a1), some (.inl a2), none]) (sb_s (sb_s (sb_s (sb_e sb_nil)))) ?_
  refine k_iconst d_Model_followAll_0 cI_0 ?_
  refine k_istore_n (lv' := [some (.inr 9), some (.inl a1), some (.inl a2), some (.inl 0)]) d_Model_followAll_1 rfl rfl ?_
  refine k_sb (lv' := [some (.inr 9), some (.inl a1), some (.inl a2), some (.inl 0)]) (sb_s (sb_s (sb_s (sb_s sb_nil)))) ?_
  refine k_loop (S := Int) (st := fun _ => []) (lv := fun s3 => [some (.inr 9), some (.inl a1), some (.inl a2), some (.inl s3)]) (fun K1 hK2 s3 σ4 h => ?_) 0 _ h
  refine k_iload_n d_Model_followAll_2 rfl ?_
  refine k_aload_n d_Model_followAll_3 rfl ?_
  refine k_getI (x := (σ4.1 9 3)) d_Model_followAll_4 fl_9_62 ob_9 rfl rfl ?_
  refine k_icge d_Model_followAll_7 rfl (fun c5 => ?_) (fun c5 => ?_)
  · have h := ineg c5 h
    exact k_ret d_Model_followAll_41 h
  · have h := ipos c5 h
    refine k_aload_n d_Model_followAll_10 rfl ?_
    refine k_getR d_Model_followAll_11 fl_9_29 ob_9 rfl ?_
    refine k_iload_n d_Model_followAll_14 rfl ?_
    refine k_iload_n d_Model_followAll_15 rfl ?_
    refine k_csi [.inr 140, .inl a1, .inl s3] d_Model_followAll_16 ml_9_122 (Or.inl rfl) rfl rfl rfl (s_Model_has hL (by omega) rI_140 h) (fun v7 σ6 h => ?_)
    refine k_join (S := Unit) (pc' := 35) (st' := fun s10 => []) (lv' := fun s10 => [some (.inr 9), some (.inl a1), some (.inl a2), some (.inl s3)]) (fun s10 σ11 h => ?_) (fun J8 hJ9 h => ?_) h
    · obtain ⟨p12, h⟩ := h
      refine k_iinc (lv' := [some (.inr 9), some (.inl a1), some (.inl a2), some (.inl (s3 + 1))]) d_Model_followAll_35 cI_1 rfl rfl p12 rfl ?_
      refine k_goto d_Model_followAll_38 rfl ?_
      exact k_sb (sb_s (sb_s (sb_s (sb_s sb_nil)))) (hK2 (s3 + 1) _ h)
    · refine k_ifeq d_Model_followAll_19 rfl (fun c13 => ?_) (fun c13 => ?_)
      · have h := ipos c13 h
        exact k_sb (sb_s (sb_s (sb_s (sb_s sb_nil)))) (hJ9 () _ h)
      · have h := ineg c13 h
        refine k_aload_n d_Model_followAll_22 rfl ?_
        refine k_getR d_Model_followAll_23 fl_9_23 ob_9 rfl ?_
        refine k_iload_n d_Model_followAll_26 rfl ?_
        refine k_aload_n d_Model_followAll_27 rfl ?_
        refine k_getR d_Model_followAll_28 fl_9_26 ob_9 rfl ?_
        refine k_iload_n d_Model_followAll_31 rfl ?_
        refine k_csv [.inr 138, .inl s3, .inr 139, .inl a2] d_Model_followAll_32 ml_9_126 (Or.inl rfl) rfl rfl rfl (s_Model_unite hL (by omega) rI_138 rI_139 h) (fun σ14 h => ?_)
        exact k_sb (sb_s (sb_s (sb_s (sb_s sb_nil)))) (hJ9 () _ h)
theorem d_Model_readHowOften_0 : decode b_Model_readHowOften 0 = .ok (.aload_n 0, 1) := by decide +kernel
theorem d_Model_readHowOften_1 : decode b_Model_readHowOften 1 = .ok (.getfield 15, 3) := by decide +kernel
theorem d_Model_readHowOften_4 : decode b_Model_readHowOften 4 = .ok (.ldc 108, 2) := by decide +kernel
theorem d_Model_readHowOften_6 : decode b_Model_readHowOften 6 = .ok (.invokevirtual 110, 3) := by decide +kernel
theorem d_Model_readHowOften_9 : decode b_Model_readHowOften 9 = .ok (.istore_n 2, 1) := by decide +kernel
theorem d_Model_readHowOften_10 : decode b_Model_readHowOften 10 = .ok (.iload_n 2, 1) := by decide +kernel
theorem d_Model_readHowOften_11 : decode b_Model_readHowOften 11 = .ok (.ifCond .ne 15, 3) := by decide +kernel
theorem d_Model_readHowOften_14 : decode b_Model_readHowOften 14 = .ok (.aload_n 0, 1) := by decide +kernel
theorem d_Model_readHowOften_15 : decode b_Model_readHowOften 15 = .ok (.getfield 15, 3) := by decide +kernel
theorem d_Model_readHowOften_18 : decode b_Model_readHowOften 18 = .ok (.ldc 114, 2) := by decide +kernel
theorem d_Model_readHowOften_20 : decode b_Model_readHowOften 20 = .ok (.invokevirtual 110, 3) := by decide +kernel
theorem d_Model_readHowOften_23 : decode b_Model_readHowOften 23 = .ok (.ifCond .eq 9, 3) := by decide +kernel
theorem d_Model_readHowOften_26 : decode b_Model_readHowOften 26 = .ok (.aload_n 0, 1) := by decide +kernel
theorem d_Model_readHowOften_27 : decode b_Model_readHowOften 27 = .ok (.iload_n 1, 1) := by decide +kernel
theorem d_Model_readHowOften_28 : decode b_Model_readHowOften 28 = .ok (.iload_n 1, 1) := by decide +kernel
theorem d_Model_readHowOften_29 : decode b_Model_readHowOften 29 = .ok (.invokevirtual 116, 3) := by decide +kernel
theorem d_Model_readHowOften_32 : decode b_Model_readHowOften 32 = .ok (.iload_n 2, 1) := by decide +kernel
theorem d_Model_readHowOften_33 : decode b_Model_readHowOften 33 = .ok (.ifCond .ne 15, 3) := by decide +kernel
theorem d_Model_readHowOften_36 : decode b_Model_readHowOften 36 = .ok (.aload_n 0, 1) := by decide +kernel
theorem d_Model_readHowOften_37 : decode b_Model_readHowOften 37 = .ok (.getfield 15, 3) := by decide +kernel
theorem d_Model_readHowOften_40 : decode b_Model_readHowOften 40 = .ok (.ldc 120, 2) := by decide +kernel
theorem d_Model_readHowOften_42 : decode b_Model_readHowOften 42 = .ok (.invokevirtual 110, 3) := by decide +kernel
theorem d_Model_readHowOften_45 : decode b_Model_readHowOften 45 = .ok (.ifCond .eq 10, 3) := by decide +kernel
theorem d_Model_readHowOften_48 : decode b_Model_readHowOften 48 = .ok (.aload_n 0, 1) := by decide +kernel
theorem d_Model_readHowOften_49 : decode b_Model_readHowOften 49 = .ok (.getfield 32, 3) := by decide +kernel
theorem d_Model_readHowOften_52 : decode b_Model_readHowOften 52 = .ok (.iload_n 1, 1) := by decide +kernel
theorem d_Model_readHowOften_53 : decode b_Model_readHowOften 53 = .ok (.iconst 1, 1) := by decide +kernel
theorem d_Model_readHowOften_54 : decode b_Model_readHowOften 54 = .ok (.bastore, 1) := by decide +kernel
theorem d_Model_readHowOften_55 : decode b_Model_readHowOften 55 = .ok (.return_, 1) := by decide +kernel
/-- Model_readHowOften -/
def w_Model_readHowOften (L : Nat → Nat) (a1 : Int) (Q : IS → Prop) (σ : IS) : Prop := w_Reader_skip L 1047 (fun v2 σ1 => WJ (fun (s5 : Unit) (σ6 : IS) => WJ (fun (s9 : Unit) (σ10 : IS) => Q σ10) (fun J7 => WJ (fun (s13 : Unit) (σ14 : IS) => inL L 141 a1 ∧ J7 () (pr σ14 141 (Int.toNat a1) 1)) (fun J11 => if v2 = 0 then w_Reader_skip L 1049 (fun v18 σ17 => if v18 = 0 then J7 () σ17 else J11 () σ17) σ6 else J11 () σ6))) (fun J3 => WJ (fun (s22 : Unit) (σ23 : IS) => w_Model_followAll L a1 a1 (fun σ24 => J3 () σ24) σ23) (fun J20 => if v2 = 0 then w_Reader_skip L 1048 (fun v28 σ27 => if v28 = 0 then J3 () σ27 else J20 () σ27) σ1 else J20 () σ1))) σ
set_option maxHeartbeats 4000000 in
set_option maxRecDepth 20000 in
theorem s_Model_readHowOften {L : Nat → Nat} (hL : ∀ r, L r < 2147483648) {d : Nat} (hd : 2 ≤ d) {a1 : Int} {Q : IS → Prop} {σ : IS}  (h : w_Model_readHowOften L a1 Q σ) : OkI BF L d 9 b_Model_readHowOften 3 0 0 [] [some (.inr 9), some (.inl a1)] σ (qv Q) := by
  unfold w_Model_readHowOften at h
  obtain ⟨d, rfl⟩ : ∃ e, d = e + 1 := ⟨d - 1, by omega⟩
  refine k_sb (lv' := [some (.inr 9), some (.inl a1), none]) (sb_s (sb_s (sb_e sb_nil))) ?_
  refine k_aload_n d_Model_readHowOften_0 rfl ?_
  refine k_getR d_Model_readHowOften_1 fl_9_15 ob_9 rfl ?_
  refine k_ldc d_Model_readHowOften_4 ks_9_108 rfl ?_
  refine k_cvi [.inr 1047] d_Model_readHowOften_6 ml_9_110 rfl rfl ob_2 rfl (s_Reader_skip hL (by omega) it_1047 h) (fun v2 σ1 h => ?_)
  refine k_istore_n (lv' := [some (.inr 9), some (.inl a1), some (.inl v2)]) d_Model_readHowOften_9 rfl rfl ?_
  refine k_iload_n d_Model_readHowOften_10 rfl ?_
  refine k_join (S := Unit) (pc' := 32) (st' := fun s5 => []) (lv' := fun s5 => [some (.inr 9), some (.inl a1), some (.inl v2)]) (fun s5 σ6 h => ?_) (fun J3 hJ4 h => ?_) h
  · refine k_iload_n d_Model_readHowOften_32 rfl ?_
    refine k_join (S := Unit) (pc' := 55) (st' := fun s9 => []) (lv' := fun s9 => [none, none, none]) (fun s9 σ10 h => ?_) (fun J7 hJ8 h => ?_) h
    · exact k_ret d_Model_readHowOften_55 h
    · refine k_join (S := Unit) (pc' := 48) (st' := fun s13 => []) (lv' := fun s13 => [some (.inr 9), some (.inl a1), none]) (fun s13 σ14 h => ?_) (fun J11 hJ12 h => ?_) h
      · refine k_aload_n d_Model_readHowOften_48 rfl ?_
        refine k_getR d_Model_readHowOften_49 fl_9_32 ob_9 rfl ?_
        refine k_iload_n d_Model_readHowOften_52 rfl ?_
        refine k_iconst d_Model_readHowOften_53 cI_1 ?_
        obtain ⟨p15, h⟩ := h
        refine k_zst d_Model_readHowOften_54 rz_141 p15 (Or.inr rfl) ?_
        exact k_sb (sb_n (sb_n (sb_s sb_nil))) (hJ8 () _ h)
      · refine k_ifne d_Model_readHowOften_33 rfl (fun c16 => ?_) (fun c16 => ?_)
        · have h := ineg c16 h
          exact k_sb (sb_s (sb_s (sb_n sb_nil))) (hJ12 () _ h)
        · have h := ipos c16 h
          refine k_aload_n d_Model_readHowOften_36 rfl ?_
          refine k_getR d_Model_readHowOften_37 fl_9_15 ob_9 rfl ?_
          refine k_ldc d_Model_readHowOften_40 ks_9_120 rfl ?_
          refine k_cvi [.inr 1049] d_Model_readHowOften_42 ml_9_110 rfl rfl ob_2 rfl (s_Reader_skip hL (by omega) it_1049 h) (fun v18 σ17 h => ?_)
          refine k_ifeq d_Model_readHowOften_45 rfl (fun c19 => ?_) (fun c19 => ?_)
          · have h := ipos c19 h
            exact k_sb (sb_n (sb_n (sb_n sb_nil))) (hJ8 () _ h)
          · have h := ineg c19 h
            exact k_sb (sb_s (sb_s (sb_n sb_nil))) (hJ12 () _ h)
  · refine k_join (S := Unit) (pc' := 26) (st' := fun s22 => []) (lv' := fun s22 => [some (.inr 9), some (.inl a1), some (.inl v2)]) (fun s22 σ23 h => ?_) (fun J20 hJ21 h => ?_) h
    · refine k_aload_n d_Model_readHowOften_26 rfl ?_
      refine k_iload_n d_Model_readHowOften_27 rfl ?_
      refine k_iload_n d_Model_readHowOften_28 rfl ?_
      refine k_cvv [.inl a1, .inl a1] d_Model_readHowOften_29 ml_9_116 rfl rfl ob_9 rfl (s_Model_followAll hL (by omega)  h) (fun σ24 h => ?_)
      exact k_sb (sb_s (sb_s (sb_s sb_nil))) (hJ4 () _ h)
    · refine k_ifne d_Model_readHowOften_11 rfl (fun c26 => ?_) (fun c26 => ?_)
      · have h := ineg c26 h
        exact k_sb (sb_s (sb_s (sb_s sb_nil))) (hJ21 () _ h)
      · have h := ipos c26 h
        refine k_aload_n d_Model_readHowOften_14 rfl ?_
        refine k_getR d_Model_readHowOften_15 fl_9_15 ob_9 rfl ?_
        refine k_ldc d_Model_readHowOften_18 ks_9_114 rfl ?_
        refine k_cvi [.inr 1048] d_Model_readHowOften_20 ml_9_110 rfl rfl ob_2 rfl (s_Reader_skip hL (by omega) it_1048 h) (fun v28 σ27 h => ?_)
        refine k_ifeq d_Model_readHowOften_23 rfl (fun c29 => ?_) (fun c29 => ?_)
        · have h := ipos c29 h
          exact k_sb (sb_s (sb_s (sb_s sb_nil))) (hJ4 () _ h)
        · have h := ineg c29 h
          exact k_sb (sb_s (sb_s (sb_s sb_nil))) (hJ21 () _ h)
theorem d_Model_join_0 : decode b_Model_join 0 = .ok (.iload_n 1, 1) := by decide +kernel
theorem d_Model_join_1 : decode b_Model_join 1 = .ok (.iconst 1, 1) := by decide +kernel
theorem d_Model_join_2 : decode b_Model_join 2 = .ok (.iadd, 1) := by decide +kernel
theorem d_Model_join_3 : decode b_Model_join 3 = .ok (.istore_n 2, 1) := by decide +kernel
theorem d_Model_join_4 : decode b_Model_join 4 = .ok (.aload_n 0, 1) := by decide +kernel
theorem d_Model_join_5 : decode b_Model_join 5 = .ok (.getfield 36, 3) := by decide +kernel
theorem d_Model_join_8 : decode b_Model_join 8 = .ok (.iload_n 1, 1) := by decide +kernel
theorem d_Model_join_9 : decode b_Model_join 9 = .ok (.baload, 1) := by decide +kernel
theorem d_Model_join_10 : decode b_Model_join 10 = .ok (.ifCond .ne 67, 3) := by decide +kernel
theorem d_Model_join_13 : decode b_Model_join 13 = .ok (.aload_n 0, 1) := by decide +kernel
theorem d_Model_join_14 : decode b_Model_join 14 = .ok (.getfield 26, 3) := by decide +kernel
theorem d_Model_join_17 : decode b_Model_join 17 = .ok (.iload_n 2, 1) := by decide +kernel
theorem d_Model_join_18 : decode b_Model_join 18 = .ok (.bipush 8, 2) := by decide +kernel
theorem d_Model_join_20 : decode b_Model_join 20 = .ok (.imul, 1) := by decide +kernel
theorem d_Model_join_21 : decode b_Model_join 21 = .ok (.aload_n 0, 1) := by decide +kernel
theorem d_Model_join_22 : decode b_Model_join 22 = .ok (.getfield 26, 3) := by decide +kernel
theorem d_Model_join_25 : decode b_Model_join 25 = .ok (.iload_n 1, 1) := by decide +kernel
theorem d_Model_join_26 : decode b_Model_join 26 = .ok (.bipush 8, 2) := by decide +kernel
theorem d_Model_join_28 : decode b_Model_join 28 = .ok (.imul, 1) := by decide +kernel
theorem d_Model_join_29 : decode b_Model_join 29 = .ok (.bipush 8, 2) := by decide +kernel
theorem d_Model_join_31 : decode b_Model_join 31 = .ok (.invokestatic 102, 3) := by decide +kernel
theorem d_Model_join_34 : decode b_Model_join 34 = .ok (.aload_n 0, 1) := by decide +kernel
theorem d_Model_join_35 : decode b_Model_join 35 = .ok (.getfield 29, 3) := by decide +kernel
theorem d_Model_join_38 : decode b_Model_join 38 = .ok (.iload_n 2, 1) := by decide +kernel
theorem d_Model_join_39 : decode b_Model_join 39 = .ok (.bipush 8, 2) := by decide +kernel
theorem d_Model_join_41 : decode b_Model_join 41 = .ok (.imul, 1) := by decide +kernel
theorem d_Model_join_42 : decode b_Model_join 42 = .ok (.aload_n 0, 1) := by decide +kernel
theorem d_Model_join_43 : decode b_Model_join 43 = .ok (.getfield 29, 3) := by decide +kernel
theorem d_Model_join_46 : decode b_Model_join 46 = .ok (.iload_n 1, 1) := by decide +kernel
theorem d_Model_join_47 : decode b_Model_join 47 = .ok (.bipush 8, 2) := by decide +kernel
theorem d_Model_join_49 : decode b_Model_join 49 = .ok (.imul, 1) := by decide +kernel
theorem d_Model_join_50 : decode b_Model_join 50 = .ok (.bipush 8, 2) := by decide +kernel
theorem d_Model_join_52 : decode b_Model_join 52 = .ok (.invokestatic 102, 3) := by decide +kernel
theorem d_Model_join_55 : decode b_Model_join 55 = .ok (.aload_n 0, 1) := by decide +kernel
theorem d_Model_join_56 : decode b_Model_join 56 = .ok (.getfield 32, 3) := by decide +kernel
theorem d_Model_join_59 : decode b_Model_join 59 = .ok (.iload_n 1, 1) := by decide +kernel
theorem d_Model_join_60 : decode b_Model_join 60 = .ok (.aload_n 0, 1) := by decide +kernel
theorem d_Model_join_61 : decode b_Model_join 61 = .ok (.getfield 32, 3) := by decide +kernel
theorem d_Model_join_64 : decode b_Model_join 64 = .ok (.iload_n 2, 1) := by decide +kernel
theorem d_Model_join_65 : decode b_Model_join 65 = .ok (.baload, 1) := by decide +kernel
theorem d_Model_join_66 : decode b_Model_join 66 = .ok (.bastore, 1) := by decide +kernel
theorem d_Model_join_67 : decode b_Model_join 67 = .ok (.aload_n 0, 1) := by decide +kernel
theorem d_Model_join_68 : decode b_Model_join 68 = .ok (.getfield 36, 3) := by decide +kernel
theorem d_Model_join_71 : decode b_Model_join 71 = .ok (.iload_n 1, 1) := by decide +kernel
theorem d_Model_join_72 : decode b_Model_join 72 = .ok (.iconst 1, 1) := by decide +kernel
theorem d_Model_join_73 : decode b_Model_join 73 = .ok (.bastore, 1) := by decide +kernel
theorem d_Model_join_74 : decode b_Model_join 74 = .ok (.goto 142, 3) := by decide +kernel
theorem d_Model_join_77 : decode b_Model_join 77 = .ok (.aload_n 0, 1) := by decide +kernel
theorem d_Model_join_78 : decode b_Model_join 78 = .ok (.getfield 39, 3) := by decide +kernel
theorem d_Model_join_81 : decode b_Model_join 81 = .ok (.iload_n 1, 1) := by decide +kernel
theorem d_Model_join_82 : decode b_Model_join 82 = .ok (.iaload, 1) := by decide +kernel
theorem d_Model_join_83 : decode b_Model_join 83 = .ok (.bipush 124, 2) := by decide +kernel
theorem d_Model_join_85 : decode b_Model_join 85 = .ok (.if_icmp .ne 47, 3) := by decide +kernel
theorem d_Model_join_88 : decode b_Model_join 88 = .ok (.aload_n 0, 1) := by decide +kernel
theorem d_Model_join_89 : decode b_Model_join 89 = .ok (.getfield 26, 3) := by decide +kernel
theorem d_Model_join_92 : decode b_Model_join 92 = .ok (.iload_n 1, 1) := by decide +kernel
theorem d_Model_join_93 : decode b_Model_join 93 = .ok (.aload_n 0, 1) := by decide +kernel
theorem d_Model_join_94 : decode b_Model_join 94 = .ok (.getfield 26, 3) := by decide +kernel
theorem d_Model_join_97 : decode b_Model_join 97 = .ok (.iload_n 2, 1) := by decide +kernel
theorem d_Model_join_98 : decode b_Model_join 98 = .ok (.invokestatic 126, 3) := by decide +kernel
theorem d_Model_join_101 : decode b_Model_join 101 = .ok (.aload_n 0, 1) := by decide +kernel
theorem d_Model_join_102 : decode b_Model_join 102 = .ok (.getfield 29, 3) := by decide +kernel
theorem d_Model_join_105 : decode b_Model_join 105 = .ok (.iload_n 1, 1) := by decide +kernel
theorem d_Model_join_106 : decode b_Model_join 106 = .ok (.aload_n 0, 1) := by decide +kernel
theorem d_Model_join_107 : decode b_Model_join 107 = .ok (.getfield 29, 3) := by decide +kernel
theorem d_Model_join_110 : decode b_Model_join 110 = .ok (.iload_n 2, 1) := by decide +kernel
theorem d_Model_join_111 : decode b_Model_join 111 = .ok (.invokestatic 126, 3) := by decide +kernel
theorem d_Model_join_114 : decode b_Model_join 114 = .ok (.aload_n 0, 1) := by decide +kernel
theorem d_Model_join_115 : decode b_Model_join 115 = .ok (.getfield 32, 3) := by decide +kernel
theorem d_Model_join_118 : decode b_Model_join 118 = .ok (.iload_n 1, 1) := by decide +kernel
theorem d_Model_join_119 : decode b_Model_join 119 = .ok (.dup2, 1) := by decide +kernel
theorem d_Model_join_120 : decode b_Model_join 120 = .ok (.baload, 1) := by decide +kernel
theorem d_Model_join_121 : decode b_Model_join 121 = .ok (.aload_n 0, 1) := by decide +kernel
theorem d_Model_join_122 : decode b_Model_join 122 = .ok (.getfield 32, 3) := by decide +kernel
theorem d_Model_join_125 : decode b_Model_join 125 = .ok (.iload_n 2, 1) := by decide +kernel
theorem d_Model_join_126 : decode b_Model_join 126 = .ok (.baload, 1) := by decide +kernel
theorem d_Model_join_127 : decode b_Model_join 127 = .ok (.ior, 1) := by decide +kernel
theorem d_Model_join_128 : decode b_Model_join 128 = .ok (.bastore, 1) := by decide +kernel
theorem d_Model_join_129 : decode b_Model_join 129 = .ok (.goto 87, 3) := by decide +kernel
theorem d_Model_join_132 : decode b_Model_join 132 = .ok (.aload_n 0, 1) := by decide +kernel
theorem d_Model_join_133 : decode b_Model_join 133 = .ok (.iload_n 1, 1) := by decide +kernel
theorem d_Model_join_134 : decode b_Model_join 134 = .ok (.iload_n 2, 1) := by decide +kernel
theorem d_Model_join_135 : decode b_Model_join 135 = .ok (.invokevirtual 116, 3) := by decide +kernel
theorem d_Model_join_138 : decode b_Model_join 138 = .ok (.aload_n 0, 1) := by decide +kernel
theorem d_Model_join_139 : decode b_Model_join 139 = .ok (.getfield 32, 3) := by decide +kernel
theorem d_Model_join_142 : decode b_Model_join 142 = .ok (.iload_n 1, 1) := by decide +kernel
theorem d_Model_join_143 : decode b_Model_join 143 = .ok (.baload, 1) := by decide +kernel
theorem d_Model_join_144 : decode b_Model_join 144 = .ok (.ifCond .eq 16, 3) := by decide +kernel
theorem d_Model_join_147 : decode b_Model_join 147 = .ok (.aload_n 0, 1) := by decide +kernel
theorem d_Model_join_148 : decode b_Model_join 148 = .ok (.getfield 26, 3) := by decide +kernel
theorem d_Model_join_151 : decode b_Model_join 151 = .ok (.iload_n 1, 1) := by decide +kernel
theorem d_Model_join_152 : decode b_Model_join 152 = .ok (.aload_n 0, 1) := by decide +kernel
theorem d_Model_join_153 : decode b_Model_join 153 = .ok (.getfield 26, 3) := by decide +kernel
theorem d_Model_join_156 : decode b_Model_join 156 = .ok (.iload_n 2, 1) := by decide +kernel
theorem d_Model_join_157 : decode b_Model_join 157 = .ok (.invokestatic 126, 3) := by decide +kernel
theorem d_Model_join_160 : decode b_Model_join 160 = .ok (.aload_n 0, 1) := by decide +kernel
theorem d_Model_join_161 : decode b_Model_join 161 = .ok (.getfield 32, 3) := by decide +kernel
theorem d_Model_join_164 : decode b_Model_join 164 = .ok (.iload_n 2, 1) := by decide +kernel
theorem d_Model_join_165 : decode b_Model_join 165 = .ok (.baload, 1) := by decide +kernel
theorem d_Model_join_166 : decode b_Model_join 166 = .ok (.ifCond .ne 22, 3) := by decide +kernel
theorem d_Model_join_169 : decode b_Model_join 169 = .ok (.aload_n 0, 1) := by decide +kernel
theorem d_Model_join_170 : decode b_Model_join 170 = .ok (.getfield 29, 3) := by decide +kernel
theorem d_Model_join_173 : decode b_Model_join 173 = .ok (.iload_n 1, 1) := by decide +kernel
theorem d_Model_join_174 : decode b_Model_join 174 = .ok (.bipush 8, 2) := by decide +kernel
theorem d_Model_join_176 : decode b_Model_join 176 = .ok (.imul, 1) := by decide +kernel
theorem d_Model_join_177 : decode b_Model_join 177 = .ok (.iload_n 1, 1) := by decide +kernel
theorem d_Model_join_178 : decode b_Model_join 178 = .ok (.bipush 8, 2) := by decide +kernel
theorem d_Model_join_180 : decode b_Model_join 180 = .ok (.imul, 1) := by decide +kernel
theorem d_Model_join_181 : decode b_Model_join 181 = .ok (.bipush 8, 2) := by decide +kernel
theorem d_Model_join_183 : decode b_Model_join 183 = .ok (.iadd, 1) := by decide +kernel
theorem d_Model_join_184 : decode b_Model_join 184 = .ok (.iconst 0, 1) := by decide +kernel
theorem d_Model_join_185 : decode b_Model_join 185 = .ok (.invokestatic 96, 3) := by decide +kernel
theorem d_Model_join_188 : decode b_Model_join 188 = .ok (.aload_n 0, 1) := by decide +kernel
theorem d_Model_join_189 : decode b_Model_join 189 = .ok (.getfield 29, 3) := by decide +kernel
theorem d_Model_join_192 : decode b_Model_join 192 = .ok (.iload_n 1, 1) := by decide +kernel
theorem d_Model_join_193 : decode b_Model_join 193 = .ok (.aload_n 0, 1) := by decide +kernel
theorem d_Model_join_194 : decode b_Model_join 194 = .ok (.getfield 29, 3) := by decide +kernel
theorem d_Model_join_197 : decode b_Model_join 197 = .ok (.iload_n 2, 1) := by decide +kernel
theorem d_Model_join_198 : decode b_Model_join 198 = .ok (.invokestatic 126, 3) := by decide +kernel
theorem d_Model_join_201 : decode b_Model_join 201 = .ok (.aload_n 0, 1) := by decide +kernel
theorem d_Model_join_202 : decode b_Model_join 202 = .ok (.getfield 32, 3) := by decide +kernel
theorem d_Model_join_205 : decode b_Model_join 205 = .ok (.iload_n 1, 1) := by decide +kernel
theorem d_Model_join_206 : decode b_Model_join 206 = .ok (.dup2, 1) := by decide +kernel
theorem d_Model_join_207 : decode b_Model_join 207 = .ok (.baload, 1) := by decide +kernel
theorem d_Model_join_208 : decode b_Model_join 208 = .ok (.aload_n 0, 1) := by decide +kernel
theorem d_Model_join_209 : decode b_Model_join 209 = .ok (.getfield 32, 3) := by decide +kernel
theorem d_Model_join_212 : decode b_Model_join 212 = .ok (.iload_n 2, 1) := by decide +kernel
theorem d_Model_join_213 : decode b_Model_join 213 = .ok (.baload, 1) := by decide +kernel
theorem d_Model_join_214 : decode b_Model_join 214 = .ok (.iand, 1) := by decide +kernel
theorem d_Model_join_215 : decode b_Model_join 215 = .ok (.bastore, 1) := by decide +kernel
theorem d_Model_join_216 : decode b_Model_join 216 = .ok (.return_, 1) := by decide +kernel
/-- Model_join -/
def w_Model_join (L : Nat → Nat) (a1 : Int) (Q : IS → Prop) (σ : IS) : Prop := inR (a1 + 1) ∧ inL L 142 a1 ∧ WJ (fun (s3 : Unit) (σ4 : IS) => Q σ4) (fun J1 => if (σ.2 142 (Int.toNat a1)) = 0 then inR ((a1 + 1) * 8) ∧ inR (a1 * 8) ∧ ((0 : Int) ≤ (8 : Int) ∧ (0 : Int) ≤ ((a1 + 1) * 8) ∧ (0 : Int) ≤ (a1 * 8) ∧ ((a1 + 1) * 8) + (8 : Int) ≤ ((L 139 : Nat) : Int) ∧ (a1 * 8) + (8 : Int) ≤ ((L 139 : Nat) : Int)) ∧ inR ((a1 + 1) * 8) ∧ inR (a1 * 8) ∧ ((0 : Int) ≤ (8 : Int) ∧ (0 : Int) ≤ ((a1 + 1) * 8) ∧ (0 : Int) ≤ (a1 * 8) ∧ ((a1 + 1) * 8) + (8 : Int) ≤ ((L 140 : Nat) : Int) ∧ (a1 * 8) + (8 : Int) ≤ ((L 140 : Nat) : Int)) ∧ inL L 141 (a1 + 1) ∧ inL L 141 a1 ∧ is01 ((cp (cp σ 139 (Int.toNat ((a1 + 1) * 8)) 139 (Int.toNat (a1 * 8)) (Int.toNat (8 : Int))) 140 (Int.toNat ((a1 + 1) * 8)) 140 (Int.toNat (a1 * 8)) (Int.toNat (8 : Int))).2 141 (Int.toNat (a1 + 1))) ∧ inL L 142 a1 ∧ J1 () (pr (pr (cp (cp σ 139 (Int.toNat ((a1 + 1) * 8)) 139 (Int.toNat (a1 * 8)) (Int.toNat (8 : Int))) 140 (Int.toNat ((a1 + 1) * 8)) 140 (Int.toNat (a1 * 8)) (Int.toNat (8 : Int))) 141 (Int.toNat a1) ((cp (cp σ 139 (Int.toNat ((a1 + 1) * 8)) 139 (Int.toNat (a1 * 8)) (Int.toNat (8 : Int))) 140 (Int.toNat ((a1 + 1) * 8)) 140 (Int.toNat (a1 * 8)) (Int.toNat (8 : Int))).2 141 (Int.toNat (a1 + 1)))) 142 (Int.toNat a1) 1) else inL L 143 a1 ∧ if (σ.2 143 (Int.toNat a1)) = 124 then w_Model_unite L 139 a1 139 (a1 + 1) (fun σ33 => w_Model_unite L 140 a1 140 (a1 + 1) (fun σ35 => inL L 141 a1 ∧ inL L 141 (a1 + 1) ∧ inL L 141 a1 ∧ is01 (io (σ35.2 141 (Int.toNat a1)) (σ35.2 141 (Int.toNat (a1 + 1)))) ∧ J1 () (pr σ35 141 (Int.toNat a1) (io (σ35.2 141 (Int.toNat a1)) (σ35.2 141 (Int.toNat (a1 + 1)))))) σ33) σ else w_Model_followAll L a1 (a1 + 1) (fun σ7 => inL L 141 a1 ∧ WJ (fun (s11 : Unit) (σ12 : IS) => inL L 141 (a1 + 1) ∧ WJ (fun (s15 : Unit) (σ16 : IS) => w_Model_unite L 140 a1 140 (a1 + 1) (fun σ17 => inL L 141 a1 ∧ inL L 141 (a1 + 1) ∧ inL L 141 a1 ∧ is01 (ia (σ17.2 141 (Int.toNat a1)) (σ17.2 141 (Int.toNat (a1 + 1)))) ∧ J1 () (pr σ17 141 (Int.toNat a1) (ia (σ17.2 141 (Int.toNat a1)) (σ17.2 141 (Int.toNat (a1 + 1)))))) σ16) (fun J13 => if (σ12.2 141 (Int.toNat (a1 + 1))) = 0 then inR (a1 * 8) ∧ inR (a1 * 8) ∧ inR ((a1 * 8) + 8) ∧ ((0 : Int) ≤ (a1 * 8) ∧ (a1 * 8) ≤ ((a1 * 8) + 8) ∧ ((a1 * 8) + 8) ≤ ((L 140 : Nat) : Int)) ∧ J13 () (fl σ12 140 (Int.toNat (a1 * 8)) (Int.toNat ((a1 * 8) + 8)) 0) else J13 () σ12)) (fun J9 => if (σ7.2 141 (Int.toNat a1)) = 0 then J9 () σ7 else w_Model_unite L 139 a1 139 (a1 + 1) (fun σ30 => J9 () σ30) σ7)) σ)
set_option maxHeartbeats 4000000 in
set_option maxRecDepth 20000 in
theorem s_Model_join {L : Nat → Nat} (hL : ∀ r, L r < 2147483648) {d : Nat} (hd : 2 ≤ d) {a1 : Int} {Q : IS → Prop} {σ : IS}  (h : w_Model_join L a1 Q σ) : OkI BF L d 9 b_Model_join 3 0 0 [] [some (.inr 9), some (.inl a1)] σ (qv Q) := by
  unfold w_Model_join at h
  obtain ⟨d, rfl⟩ : ∃ e, d = e + 1 := ⟨d - 1, by omega⟩
  refine k_sb (lv' := [some (.inr 9), some (.inl a1), none]) (sb_s (sb_s (sb_e sb_nil))) ?_
  refine k_iload_n d_Model_join_0 rfl ?_
  refine k_iconst d_Model_join_1 cI_1 ?_
  obtain ⟨p53, h⟩ := h
  refine k_iadd d_Model_join_2 p53 ?_
  refine k_istore_n (lv' := [some (.inr 9), some (.inl a1), some (.inl (a1 + 1))]) d_Model_join_3 rfl rfl ?_
  refine k_aload_n d_Model_join_4 rfl ?_
  refine k_getR d_Model_join_5 fl_9_36 ob_9 rfl ?_
  refine k_iload_n d_Model_join_8 rfl ?_
  obtain ⟨p52, h⟩ := h
  refine k_bld (x := (σ.2 142 (Int.toNat a1))) d_Model_join_9 rB_142 p52 rfl ?_
  refine k_join (S := Unit) (pc' := 216) (st' := fun s3 => []) (lv' := fun s3 => [none, none, none]) (fun s3 σ4 h => ?_) (fun J1 hJ2 h => ?_) h
  · exact k_ret d_Model_join_216 h
  · refine k_ifne d_Model_join_10 rfl (fun c5 => ?_) (fun c5 => ?_)
    · have h := ineg c5 h
      refine k_aload_n d_Model_join_77 rfl ?_
      refine k_getR d_Model_join_78 fl_9_39 ob_9 rfl ?_
      refine k_iload_n d_Model_join_81 rfl ?_
      obtain ⟨p41, h⟩ := h
      refine k_ild (x := (σ.2 143 (Int.toNat a1))) d_Model_join_82 rI_143 p41 rfl ?_
      refine k_bipush d_Model_join_83 cB_124 ?_
      refine k_icne d_Model_join_85 rfl (fun c6 => ?_) (fun c6 => ?_)
      · have h := ineg c6 h
        refine k_aload_n d_Model_join_132 rfl ?_
        refine k_iload_n d_Model_join_133 rfl ?_
        refine k_iload_n d_Model_join_134 rfl ?_
        refine k_cvv [.inl a1, .inl (a1 + 1)] d_Model_join_135 ml_9_116 rfl rfl ob_9 rfl (s_Model_followAll hL (by omega)  h) (fun σ7 h => ?_)
        refine k_aload_n d_Model_join_138 rfl ?_
        refine k_getR d_Model_join_139 fl_9_32 ob_9 rfl ?_
        refine k_iload_n d_Model_join_142 rfl ?_
        obtain ⟨p32, h⟩ := h
        refine k_bld (x := (σ7.2 141 (Int.toNat a1))) d_Model_join_143 rB_141 p32 rfl ?_
        refine k_join (S := Unit) (pc' := 160) (st' := fun s11 => []) (lv' := fun s11 => [some (.inr 9), some (.inl a1), some (.inl (a1 + 1))]) (fun s11 σ12 h => ?_) (fun J9 hJ10 h => ?_) h
        · refine k_aload_n d_Model_join_160 rfl ?_
          refine k_getR d_Model_join_161 fl_9_32 ob_9 rfl ?_
          refine k_iload_n d_Model_join_164 rfl ?_
          obtain ⟨p28, h⟩ := h
          refine k_bld (x := (σ12.2 141 (Int.toNat (a1 + 1)))) d_Model_join_165 rB_141 p28 rfl ?_
          refine k_join (S := Unit) (pc' := 188) (st' := fun s15 => []) (lv' := fun s15 => [some (.inr 9), some (.inl a1), some (.inl (a1 + 1))]) (fun s15 σ16 h => ?_) (fun J13 hJ14 h => ?_) h
          · refine k_aload_n d_Model_join_188 rfl ?_
            refine k_getR d_Model_join_189 fl_9_29 ob_9 rfl ?_
            refine k_iload_n d_Model_join_192 rfl ?_
            refine k_aload_n d_Model_join_193 rfl ?_
            refine k_getR d_Model_join_194 fl_9_29 ob_9 rfl ?_
            refine k_iload_n d_Model_join_197 rfl ?_
            refine k_csv [.inr 140, .inl a1, .inr 140, .inl (a1 + 1)] d_Model_join_198 ml_9_126 (Or.inl rfl) rfl rfl rfl (s_Model_unite hL (by omega) rI_140 rI_140 h) (fun σ17 h => ?_)
            refine k_aload_n d_Model_join_201 rfl ?_
            refine k_getR d_Model_join_202 fl_9_32 ob_9 rfl ?_
            refine k_iload_n d_Model_join_205 rfl ?_
            refine k_dup2 d_Model_join_206 ?_
            obtain ⟨p22, h⟩ := h
            refine k_bld (x := (σ17.2 141 (Int.toNat a1))) d_Model_join_207 rB_141 p22 rfl ?_
            refine k_aload_n d_Model_join_208 rfl ?_
            refine k_getR d_Model_join_209 fl_9_32 ob_9 rfl ?_
            refine k_iload_n d_Model_join_212 rfl ?_
            obtain ⟨p21, h⟩ := h
            refine k_bld (x := (σ17.2 141 (Int.toNat (a1 + 1)))) d_Model_join_213 rB_141 p21 rfl ?_
            refine k_iand d_Model_join_214 ?_
            obtain ⟨p19, h⟩ := h
            obtain ⟨p20, h⟩ := h
            refine k_zst d_Model_join_215 rz_141 p19 p20 ?_
            exact k_sb (sb_n (sb_n (sb_n sb_nil))) (hJ2 () _ h)
          · refine k_ifne d_Model_join_166 rfl (fun c23 => ?_) (fun c23 => ?_)
            · have h := ineg c23 h
              exact k_sb (sb_s (sb_s (sb_s sb_nil))) (hJ14 () _ h)
            · have h := ipos c23 h
              refine k_aload_n d_Model_join_169 rfl ?_
              refine k_getR d_Model_join_170 fl_9_29 ob_9 rfl ?_
              refine k_iload_n d_Model_join_173 rfl ?_
              refine k_bipush d_Model_join_174 cB_8 ?_
              obtain ⟨p27, h⟩ := h
              refine k_imul d_Model_join_176 p27 ?_
              refine k_iload_n d_Model_join_177 rfl ?_
              refine k_bipush d_Model_join_178 cB_8 ?_
              obtain ⟨p26, h⟩ := h
              refine k_imul d_Model_join_180 p26 ?_
              refine k_bipush d_Model_join_181 cB_8 ?_
              obtain ⟨p25, h⟩ := h
              refine k_iadd d_Model_join_183 p25 ?_
              refine k_iconst d_Model_join_184 cI_0 ?_
              obtain ⟨p24, h⟩ := h
              refine k_fillr d_Model_join_185 ml_9_96 rI_140 p24 rfl ?_
              exact k_sb (sb_s (sb_s (sb_s sb_nil))) (hJ14 () _ h)
        · refine k_ifeq d_Model_join_144 rfl (fun c29 => ?_) (fun c29 => ?_)
          · have h := ipos c29 h
            exact k_sb (sb_s (sb_s (sb_s sb_nil))) (hJ10 () _ h)
          · have h := ineg c29 h
            refine k_aload_n d_Model_join_147 rfl ?_
            refine k_getR d_Model_join_148 fl_9_26 ob_9 rfl ?_
            refine k_iload_n d_Model_join_151 rfl ?_
            refine k_aload_n d_Model_join_152 rfl ?_
            refine k_getR d_Model_join_153 fl_9_26 ob_9 rfl ?_
            refine k_iload_n d_Model_join_156 rfl ?_
            refine k_csv [.inr 139, .inl a1, .inr 139, .inl (a1 + 1)] d_Model_join_157 ml_9_126 (Or.inl rfl) rfl rfl rfl (s_Model_unite hL (by omega) rI_139 rI_139 h) (fun σ30 h => ?_)
            exact k_sb (sb_s (sb_s (sb_s sb_nil))) (hJ10 () _ h)
      · have h := ipos c6 h
        refine k_aload_n d_Model_join_88 rfl ?_
        refine k_getR d_Model_join_89 fl_9_26 ob_9 rfl ?_
        refine k_iload_n d_Model_join_92 rfl ?_
        refine k_aload_n d_Model_join_93 rfl ?_
        refine k_getR d_Model_join_94 fl_9_26 ob_9 rfl ?_
        refine k_iload_n d_Model_join_97 rfl ?_
        refine k_csv [.inr 139, .inl a1, .inr 139, .inl (a1 + 1)] d_Model_join_98 ml_9_126 (Or.inl rfl) rfl rfl rfl (s_Model_unite hL (by omega) rI_139 rI_139 h) (fun σ33 h => ?_)
        refine k_aload_n d_Model_join_101 rfl ?_
        refine k_getR d_Model_join_102 fl_9_29 ob_9 rfl ?_
        refine k_iload_n d_Model_join_105 rfl ?_
        refine k_aload_n d_Model_join_106 rfl ?_
        refine k_getR d_Model_join_107 fl_9_29 ob_9 rfl ?_
        refine k_iload_n d_Model_join_110 rfl ?_
        refine k_csv [.inr 140, .inl a1, .inr 140, .inl (a1 + 1)] d_Model_join_111 ml_9_126 (Or.inl rfl) rfl rfl rfl (s_Model_unite hL (by omega) rI_140 rI_140 h) (fun σ35 h => ?_)
        refine k_aload_n d_Model_join_114 rfl ?_
        refine k_getR d_Model_join_115 fl_9_32 ob_9 rfl ?_
        refine k_iload_n d_Model_join_118 rfl ?_
        refine k_dup2 d_Model_join_119 ?_
        obtain ⟨p40, h⟩ := h
        refine k_bld (x := (σ35.2 141 (Int.toNat a1))) d_Model_join_120 rB_141 p40 rfl ?_
        refine k_aload_n d_Model_join_121 rfl ?_
        refine k_getR d_Model_join_122 fl_9_32 ob_9 rfl ?_
        refine k_iload_n d_Model_join_125 rfl ?_
        obtain ⟨p39, h⟩ := h
        refine k_bld (x := (σ35.2 141 (Int.toNat (a1 + 1)))) d_Model_join_126 rB_141 p39 rfl ?_
        refine k_ior d_Model_join_127 ?_
        obtain ⟨p37, h⟩ := h
        obtain ⟨p38, h⟩ := h
        refine k_zst d_Model_join_128 rz_141 p37 p38 ?_
        refine k_goto d_Model_join_129 rfl ?_
        exact k_sb (sb_n (sb_n (sb_n sb_nil))) (hJ2 () _ h)
    · have h := ipos c5 h
      refine k_aload_n d_Model_join_13 rfl ?_
      refine k_getR d_Model_join_14 fl_9_26 ob_9 rfl ?_
      refine k_iload_n d_Model_join_17 rfl ?_
      refine k_bipush d_Model_join_18 cB_8 ?_
      obtain ⟨p51, h⟩ := h
      refine k_imul d_Model_join_20 p51 ?_
      refine k_aload_n d_Model_join_21 rfl ?_
      refine k_getR d_Model_join_22 fl_9_26 ob_9 rfl ?_
      refine k_iload_n d_Model_join_25 rfl ?_
      refine k_bipush d_Model_join_26 cB_8 ?_
      obtain ⟨p50, h⟩ := h
      refine k_imul d_Model_join_28 p50 ?_
      refine k_bipush d_Model_join_29 cB_8 ?_
      obtain ⟨p49, h⟩ := h
      refine k_cpy d_Model_join_31 ml_9_102 rI_139.1 rI_139.1 (rI_139.2.trans rI_139.2.symm) (Or.inl rI_139.2) p49 rfl ?_
      refine k_aload_n d_Model_join_34 rfl ?_
      refine k_getR d_Model_join_35 fl_9_29 ob_9 rfl ?_
      refine k_iload_n d_Model_join_38 rfl ?_
      refine k_bipush d_Model_join_39 cB_8 ?_
      obtain ⟨p48, h⟩ := h
      refine k_imul d_Model_join_41 p48 ?_
      refine k_aload_n d_Model_join_42 rfl ?_
      refine k_getR d_Model_join_43 fl_9_29 ob_9 rfl ?_
      refine k_iload_n d_Model_join_46 rfl ?_
      refine k_bipush d_Model_join_47 cB_8 ?_
      obtain ⟨p47, h⟩ := h
      refine k_imul d_Model_join_49 p47 ?_
      refine k_bipush d_Model_join_50 cB_8 ?_
      obtain ⟨p46, h⟩ := h
      refine k_cpy d_Model_join_52 ml_9_102 rI_140.1 rI_140.1 (rI_140.2.trans rI_140.2.symm) (Or.inl rI_140.2) p46 rfl ?_
      refine k_aload_n d_Model_join_55 rfl ?_
      refine k_getR d_Model_join_56 fl_9_32 ob_9 rfl ?_
      refine k_iload_n d_Model_join_59 rfl ?_
      refine k_aload_n d_Model_join_60 rfl ?_
      refine k_getR d_Model_join_61 fl_9_32 ob_9 rfl ?_
      refine k_iload_n d_Model_join_64 rfl ?_
      obtain ⟨p45, h⟩ := h
      refine k_bld (x := ((cp (cp σ 139 (Int.toNat ((a1 + 1) * 8)) 139 (Int.toNat (a1 * 8)) (Int.toNat (8 : Int))) 140 (Int.toNat ((a1 + 1) * 8)) 140 (Int.toNat (a1 * 8)) (Int.toNat (8 : Int))).2 141 (Int.toNat (a1 + 1)))) d_Model_join_65 rB_141 p45 rfl ?_
      obtain ⟨p43, h⟩ := h
      obtain ⟨p44, h⟩ := h
      refine k_zst d_Model_join_66 rz_141 p43 p44 ?_
      refine k_aload_n d_Model_join_67 rfl ?_
      refine k_getR d_Model_join_68 fl_9_36 ob_9 rfl ?_
      refine k_iload_n d_Model_join_71 rfl ?_
      refine k_iconst d_Model_join_72 cI_1 ?_
      obtain ⟨p42, h⟩ := h
      refine k_zst d_Model_join_73 rz_142 p42 (Or.inr rfl) ?_
      refine k_goto d_Model_join_74 rfl ?_
      exact k_sb (sb_n (sb_n (sb_n sb_nil))) (hJ2 () _ h)
theorem d_Model_readOccurrence_0 : decode b_Model_readOccurrence 0 = .ok (.aload_n 0, 1) := by decide +kernel
theorem d_Model_readOccurrence_1 : decode b_Model_readOccurrence 1 = .ok (.getfield 15, 3) := by decide +kernel
theorem d_Model_readOccurrence_4 : decode b_Model_readOccurrence 4 = .ok (.invokevirtual 84, 3) := by decide +kernel
theorem d_Model_readOccurrence_7 : decode b_Model_readOccurrence 7 = .ok (.istore_n 2, 1) := by decide +kernel
theorem d_Model_readOccurrence_8 : decode b_Model_readOccurrence 8 = .ok (.aload_n 0, 1) := by decide +kernel
theorem d_Model_readOccurrence_9 : decode b_Model_readOccurrence 9 = .ok (.getfield 62, 3) := by decide +kernel
theorem d_Model_readOccurrence_12 : decode b_Model_readOccurrence 12 = .ok (.sipush 255, 3) := by decide +kernel
theorem d_Model_readOccurrence_15 : decode b_Model_readOccurrence 15 = .ok (.invokestatic 87, 3) := by decide +kernel
theorem d_Model_readOccurrence_18 : decode b_Model_readOccurrence 18 = .ok (.istore_n 3, 1) := by decide +kernel
theorem d_Model_readOccurrence_19 : decode b_Model_readOccurrence 19 = .ok (.aload_n 0, 1) := by decide +kernel
theorem d_Model_readOccurrence_20 : decode b_Model_readOccurrence 20 = .ok (.getfield 19, 3) := by decide +kernel
theorem d_Model_readOccurrence_23 : decode b_Model_readOccurrence 23 = .ok (.iload_n 3, 1) := by decide +kernel
theorem d_Model_readOccurrence_24 : decode b_Model_readOccurrence 24 = .ok (.aload_n 0, 1) := by decide +kernel
theorem d_Model_readOccurrence_25 : decode b_Model_readOccurrence 25 = .ok (.getfield 11, 3) := by decide +kernel
theorem d_Model_readOccurrence_28 : decode b_Model_readOccurrence 28 = .ok (.iload_n 2, 1) := by decide +kernel
theorem d_Model_readOccurrence_29 : decode b_Model_readOccurrence 29 = .ok (.aload_n 0, 1) := by decide +kernel
theorem d_Model_readOccurrence_30 : decode b_Model_readOccurrence 30 = .ok (.getfield 15, 3) := by decide +kernel
theorem d_Model_readOccurrence_33 : decode b_Model_readOccurrence 33 = .ok (.getfield 48, 3) := by decide +kernel
theorem d_Model_readOccurrence_36 : decode b_Model_readOccurrence 36 = .ok (.iload_n 2, 1) := by decide +kernel
theorem d_Model_readOccurrence_37 : decode b_Model_readOccurrence 37 = .ok (.isub, 1) := by decide +kernel
theorem d_Model_readOccurrence_38 : decode b_Model_readOccurrence 38 = .ok (.invokevirtual 93, 3) := by decide +kernel
theorem d_Model_readOccurrence_41 : decode b_Model_readOccurrence 41 = .ok (.iastore, 1) := by decide +kernel
theorem d_Model_readOccurrence_42 : decode b_Model_readOccurrence 42 = .ok (.aload_n 0, 1) := by decide +kernel
theorem d_Model_readOccurrence_43 : decode b_Model_readOccurrence 43 = .ok (.iload_n 3, 1) := by decide +kernel
theorem d_Model_readOccurrence_44 : decode b_Model_readOccurrence 44 = .ok (.iconst 1, 1) := by decide +kernel
theorem d_Model_readOccurrence_45 : decode b_Model_readOccurrence 45 = .ok (.iadd, 1) := by decide +kernel
theorem d_Model_readOccurrence_46 : decode b_Model_readOccurrence 46 = .ok (.putfield 62, 3) := by decide +kernel
theorem d_Model_readOccurrence_49 : decode b_Model_readOccurrence 49 = .ok (.aload_n 0, 1) := by decide +kernel
theorem d_Model_readOccurrence_50 : decode b_Model_readOccurrence 50 = .ok (.getfield 23, 3) := by decide +kernel
theorem d_Model_readOccurrence_53 : decode b_Model_readOccurrence 53 = .ok (.iload_n 3, 1) := by decide +kernel
theorem d_Model_readOccurrence_54 : decode b_Model_readOccurrence 54 = .ok (.bipush 8, 2) := by decide +kernel
theorem d_Model_readOccurrence_56 : decode b_Model_readOccurrence 56 = .ok (.imul, 1) := by decide +kernel
theorem d_Model_readOccurrence_57 : decode b_Model_readOccurrence 57 = .ok (.iload_n 3, 1) := by decide +kernel
theorem d_Model_readOccurrence_58 : decode b_Model_readOccurrence 58 = .ok (.bipush 8, 2) := by decide +kernel
theorem d_Model_readOccurrence_60 : decode b_Model_readOccurrence 60 = .ok (.imul, 1) := by decide +kernel
theorem d_Model_readOccurrence_61 : decode b_Model_readOccurrence 61 = .ok (.bipush 8, 2) := by decide +kernel
theorem d_Model_readOccurrence_63 : decode b_Model_readOccurrence 63 = .ok (.iadd, 1) := by decide +kernel
theorem d_Model_readOccurrence_64 : decode b_Model_readOccurrence 64 = .ok (.iconst 0, 1) := by decide +kernel
theorem d_Model_readOccurrence_65 : decode b_Model_readOccurrence 65 = .ok (.invokestatic 96, 3) := by decide +kernel
theorem d_Model_readOccurrence_68 : decode b_Model_readOccurrence 68 = .ok (.aload_n 0, 1) := by decide +kernel
theorem d_Model_readOccurrence_69 : decode b_Model_readOccurrence 69 = .ok (.getfield 26, 3) := by decide +kernel
theorem d_Model_readOccurrence_72 : decode b_Model_readOccurrence 72 = .ok (.iload_n 1, 1) := by decide +kernel
theorem d_Model_readOccurrence_73 : decode b_Model_readOccurrence 73 = .ok (.bipush 8, 2) := by decide +kernel
theorem d_Model_readOccurrence_75 : decode b_Model_readOccurrence 75 = .ok (.imul, 1) := by decide +kernel
theorem d_Model_readOccurrence_76 : decode b_Model_readOccurrence 76 = .ok (.iload_n 1, 1) := by decide +kernel
theorem d_Model_readOccurrence_77 : decode b_Model_readOccurrence 77 = .ok (.bipush 8, 2) := by decide +kernel
theorem d_Model_readOccurrence_79 : decode b_Model_readOccurrence 79 = .ok (.imul, 1) := by decide +kernel
theorem d_Model_readOccurrence_80 : decode b_Model_readOccurrence 80 = .ok (.bipush 8, 2) := by decide +kernel
theorem d_Model_readOccurrence_82 : decode b_Model_readOccurrence 82 = .ok (.iadd, 1) := by decide +kernel
theorem d_Model_readOccurrence_83 : decode b_Model_readOccurrence 83 = .ok (.iconst 0, 1) := by decide +kernel
theorem d_Model_readOccurrence_84 : decode b_Model_readOccurrence 84 = .ok (.invokestatic 96, 3) := by decide +kernel
theorem d_Model_readOccurrence_87 : decode b_Model_readOccurrence 87 = .ok (.aload_n 0, 1) := by decide +kernel
theorem d_Model_readOccurrence_88 : decode b_Model_readOccurrence 88 = .ok (.getfield 26, 3) := by decide +kernel
theorem d_Model_readOccurrence_91 : decode b_Model_readOccurrence 91 = .ok (.iload_n 1, 1) := by decide +kernel
theorem d_Model_readOccurrence_92 : decode b_Model_readOccurrence 92 = .ok (.bipush 8, 2) := by decide +kernel
theorem d_Model_readOccurrence_94 : decode b_Model_readOccurrence 94 = .ok (.imul, 1) := by decide +kernel
theorem d_Model_readOccurrence_95 : decode b_Model_readOccurrence 95 = .ok (.iload_n 3, 1) := by decide +kernel
theorem d_Model_readOccurrence_96 : decode b_Model_readOccurrence 96 = .ok (.iconst 5, 1) := by decide +kernel
theorem d_Model_readOccurrence_97 : decode b_Model_readOccurrence 97 = .ok (.ishr, 1) := by decide +kernel
theorem d_Model_readOccurrence_98 : decode b_Model_readOccurrence 98 = .ok (.iadd, 1) := by decide +kernel
theorem d_Model_readOccurrence_99 : decode b_Model_readOccurrence 99 = .ok (.iconst 1, 1) := by decide +kernel
theorem d_Model_readOccurrence_100 : decode b_Model_readOccurrence 100 = .ok (.iload_n 3, 1) := by decide +kernel
theorem d_Model_readOccurrence_101 : decode b_Model_readOccurrence 101 = .ok (.bipush 31, 2) := by decide +kernel
theorem d_Model_readOccurrence_103 : decode b_Model_readOccurrence 103 = .ok (.iand, 1) := by decide +kernel
theorem d_Model_readOccurrence_104 : decode b_Model_readOccurrence 104 = .ok (.ishl, 1) := by decide +kernel
theorem d_Model_readOccurrence_105 : decode b_Model_readOccurrence 105 = .ok (.iastore, 1) := by decide +kernel
theorem d_Model_readOccurrence_106 : decode b_Model_readOccurrence 106 = .ok (.aload_n 0, 1) := by decide +kernel
theorem d_Model_readOccurrence_107 : decode b_Model_readOccurrence 107 = .ok (.getfield 26, 3) := by decide +kernel
theorem d_Model_readOccurrence_110 : decode b_Model_readOccurrence 110 = .ok (.iload_n 1, 1) := by decide +kernel
theorem d_Model_readOccurrence_111 : decode b_Model_readOccurrence 111 = .ok (.bipush 8, 2) := by decide +kernel
theorem d_Model_readOccurrence_113 : decode b_Model_readOccurrence 113 = .ok (.imul, 1) := by decide +kernel
theorem d_Model_readOccurrence_114 : decode b_Model_readOccurrence 114 = .ok (.aload_n 0, 1) := by decide +kernel
theorem d_Model_readOccurrence_115 : decode b_Model_readOccurrence 115 = .ok (.getfield 29, 3) := by decide +kernel
theorem d_Model_readOccurrence_118 : decode b_Model_readOccurrence 118 = .ok (.iload_n 1, 1) := by decide +kernel
theorem d_Model_readOccurrence_119 : decode b_Model_readOccurrence 119 = .ok (.bipush 8, 2) := by decide +kernel
theorem d_Model_readOccurrence_121 : decode b_Model_readOccurrence 121 = .ok (.imul, 1) := by decide +kernel
theorem d_Model_readOccurrence_122 : decode b_Model_readOccurrence 122 = .ok (.bipush 8, 2) := by decide +kernel
theorem d_Model_readOccurrence_124 : decode b_Model_readOccurrence 124 = .ok (.invokestatic 102, 3) := by decide +kernel
theorem d_Model_readOccurrence_127 : decode b_Model_readOccurrence 127 = .ok (.aload_n 0, 1) := by decide +kernel
theorem d_Model_readOccurrence_128 : decode b_Model_readOccurrence 128 = .ok (.getfield 32, 3) := by decide +kernel
theorem d_Model_readOccurrence_131 : decode b_Model_readOccurrence 131 = .ok (.iload_n 1, 1) := by decide +kernel
theorem d_Model_readOccurrence_132 : decode b_Model_readOccurrence 132 = .ok (.iconst 0, 1) := by decide +kernel
theorem d_Model_readOccurrence_133 : decode b_Model_readOccurrence 133 = .ok (.bastore, 1) := by decide +kernel
theorem d_Model_readOccurrence_134 : decode b_Model_readOccurrence 134 = .ok (.aload_n 0, 1) := by decide +kernel
theorem d_Model_readOccurrence_135 : decode b_Model_readOccurrence 135 = .ok (.iload_n 1, 1) := by decide +kernel
theorem d_Model_readOccurrence_136 : decode b_Model_readOccurrence 136 = .ok (.invokevirtual 70, 3) := by decide +kernel
theorem d_Model_readOccurrence_139 : decode b_Model_readOccurrence 139 = .ok (.return_, 1) := by decide +kernel
/-- Model_readOccurrence -/
def w_Model_readOccurrence (L : Nat → Nat) (a1 : Int) (Q : IS → Prop) (σ : IS) : Prop := w_Reader_readName L  (fun v2 σ1 => inR ((σ1.1 2 2) - v2) ∧ w_Store_intern L v2 ((σ1.1 2 2) - v2) (fun v4 σ3 => inL L 137 (if 255 < (σ1.1 9 3) then 255 else (σ1.1 9 3)) ∧ inR ((if 255 < (σ1.1 9 3) then 255 else (σ1.1 9 3)) + 1) ∧ inR ((if 255 < (σ1.1 9 3) then 255 else (σ1.1 9 3)) * 8) ∧ inR ((if 255 < (σ1.1 9 3) then 255 else (σ1.1 9 3)) * 8) ∧ inR (((if 255 < (σ1.1 9 3) then 255 else (σ1.1 9 3)) * 8) + 8) ∧ ((0 : Int) ≤ ((if 255 < (σ1.1 9 3) then 255 else (σ1.1 9 3)) * 8) ∧ ((if 255 < (σ1.1 9 3) then 255 else (σ1.1 9 3)) * 8) ≤ (((if 255 < (σ1.1 9 3) then 255 else (σ1.1 9 3)) * 8) + 8) ∧ (((if 255 < (σ1.1 9 3) then 255 else (σ1.1 9 3)) * 8) + 8) ≤ ((L 138 : Nat) : Int)) ∧ inR (a1 * 8) ∧ inR (a1 * 8) ∧ inR ((a1 * 8) + 8) ∧ ((0 : Int) ≤ (a1 * 8) ∧ (a1 * 8) ≤ ((a1 * 8) + 8) ∧ ((a1 * 8) + 8) ≤ ((L 139 : Nat) : Int)) ∧ inR (a1 * 8) ∧ inR ((a1 * 8) + (isr (if 255 < (σ1.1 9 3) then 255 else (σ1.1 9 3)) 5)) ∧ inL L 139 ((a1 * 8) + (isr (if 255 < (σ1.1 9 3) then 255 else (σ1.1 9 3)) 5)) ∧ inR (a1 * 8) ∧ inR (a1 * 8) ∧ ((0 : Int) ≤ (8 : Int) ∧ (0 : Int) ≤ (a1 * 8) ∧ (0 : Int) ≤ (a1 * 8) ∧ (a1 * 8) + (8 : Int) ≤ ((L 139 : Nat) : Int) ∧ (a1 * 8) + (8 : Int) ≤ ((L 140 : Nat) : Int)) ∧ inL L 141 a1 ∧ w_Model_readHowOften L a1 (fun σ5 => Q σ5) (pr (cp (pr (fl (fl (pf (pr σ3 137 (Int.toNat (if 255 < (σ1.1 9 3) then 255 else (σ1.1 9 3))) v4) 9 3 ((if 255 < (σ1.1 9 3) then 255 else (σ1.1 9 3)) + 1)) 138 (Int.toNat ((if 255 < (σ1.1 9 3) then 255 else (σ1.1 9 3)) * 8)) (Int.toNat (((if 255 < (σ1.1 9 3) then 255 else (σ1.1 9 3)) * 8) + 8)) 0) 139 (Int.toNat (a1 * 8)) (Int.toNat ((a1 * 8) + 8)) 0) 139 (Int.toNat ((a1 * 8) + (isr (if 255 < (σ1.1 9 3) then 255 else (σ1.1 9 3)) 5))) (isl 1 (ia (if 255 < (σ1.1 9 3) then 255 else (σ1.1 9 3)) 31))) 139 (Int.toNat (a1 * 8)) 140 (Int.toNat (a1 * 8)) (Int.toNat (8 : Int))) 141 (Int.toNat a1) 0)) σ1) σ
set_option maxHeartbeats 4000000 in
set_option maxRecDepth 20000 in
theorem s_Model_readOccurrence {L : Nat → Nat} (hL : ∀ r, L r < 2147483648) {d : Nat} (hd : 3 ≤ d) {a1 : Int} {Q : IS → Prop} {σ : IS}  (h : w_Model_readOccurrence L a1 Q σ) : OkI BF L d 9 b_Model_readOccurrence 4 0 0 [] [some (.inr 9), some (.inl a1)] σ (qv Q) := by
  unfold w_Model_readOccurrence at h
  obtain ⟨d, rfl⟩ : ∃ e, d = e + 1 := ⟨d - 1, by omega⟩
  refine k_sb (lv' := [some (.inr 9), some (.inl a1), none, none]) (sb_s (sb_s (sb_e (sb_e sb_nil)))) ?_
  refine k_aload_n d_Model_readOccurrence_0 rfl ?_
  refine k_getR d_Model_readOccurrence_1 fl_9_15 ob_9 rfl ?_
  refine k_cvi [] d_Model_readOccurrence_4 ml_9_84 rfl rfl ob_2 rfl (s_Reader_readName hL (by omega)  h) (fun v2 σ1 h => ?_)
  refine k_istore_n (lv' := [some (.inr 9), some (.inl a1), some (.inl v2), none]) d_Model_readOccurrence_7 rfl rfl ?_
  refine k_aload_n d_Model_readOccurrence_8 rfl ?_
  refine k_getI (x := (σ1.1 9 3)) d_Model_readOccurrence_9 fl_9_62 ob_9 rfl rfl ?_
  refine k_sipush d_Model_readOccurrence_12 cS_255 ?_
  refine k_min d_Model_readOccurrence_15 ml_9_87 rfl ?_
  refine k_istore_n (lv' := [some (.inr 9), some (.inl a1), some (.inl v2), some (.inl (if 255 < (σ1.1 9 3) then 255 else (σ1.1 9 3)))]) d_Model_readOccurrence_18 rfl rfl ?_
  refine k_aload_n d_Model_readOccurrence_19 rfl ?_
  refine k_getR d_Model_readOccurrence_20 fl_9_19 ob_9 rfl ?_
  refine k_iload_n d_Model_readOccurrence_23 rfl ?_
  refine k_aload_n d_Model_readOccurrence_24 rfl ?_
  refine k_getR d_Model_readOccurrence_25 fl_9_11 ob_9 rfl ?_
  refine k_iload_n d_Model_readOccurrence_28 rfl ?_
  refine k_aload_n d_Model_readOccurrence_29 rfl ?_
  refine k_getR d_Model_readOccurrence_30 fl_9_15 ob_9 rfl ?_
  refine k_getI (x := (σ1.1 2 2)) d_Model_readOccurrence_33 fl_9_48 ob_2 rfl rfl ?_
  refine k_iload_n d_Model_readOccurrence_36 rfl ?_
  obtain ⟨p24, h⟩ := h
  refine k_isub d_Model_readOccurrence_37 p24 ?_
  refine k_cvi [.inl v2, .inl ((σ1.1 2 2) - v2)] d_Model_readOccurrence_38 ml_9_93 rfl rfl ob_1 rfl (s_Store_intern hL (by omega) stB_BF h) (fun v4 σ3 h => ?_)
  obtain ⟨p23, h⟩ := h
  refine k_ist d_Model_readOccurrence_41 rI_137 p23 ?_
  refine k_aload_n d_Model_readOccurrence_42 rfl ?_
  refine k_iload_n d_Model_readOccurrence_43 rfl ?_
  refine k_iconst d_Model_readOccurrence_44 cI_1 ?_
  obtain ⟨p22, h⟩ := h
  refine k_iadd d_Model_readOccurrence_45 p22 ?_
  refine k_putI d_Model_readOccurrence_46 fl_9_62 ob_9 rfl ?_
  refine k_aload_n d_Model_readOccurrence_49 rfl ?_
  refine k_getR d_Model_readOccurrence_50 fl_9_23 ob_9 rfl ?_
  refine k_iload_n d_Model_readOccurrence_53 rfl ?_
  refine k_bipush d_Model_readOccurrence_54 cB_8 ?_
  obtain ⟨p21, h⟩ := h
  refine k_imul d_Model_readOccurrence_56 p21 ?_
  refine k_iload_n d_Model_readOccurrence_57 rfl ?_
  refine k_bipush d_Model_readOccurrence_58 cB_8 ?_
  obtain ⟨p20, h⟩ := h
  refine k_imul d_Model_readOccurrence_60 p20 ?_
  refine k_bipush d_Model_readOccurrence_61 cB_8 ?_
  obtain ⟨p19, h⟩ := h
  refine k_iadd d_Model_readOccurrence_63 p19 ?_
  refine k_iconst d_Model_readOccurrence_64 cI_0 ?_
  obtain ⟨p18, h⟩ := h
  refine k_fillr d_Model_readOccurrence_65 ml_9_96 rI_138 p18 rfl ?_
  refine k_aload_n d_Model_readOccurrence_68 rfl ?_
  refine k_getR d_Model_readOccurrence_69 fl_9_26 ob_9 rfl ?_
  refine k_iload_n d_Model_readOccurrence_72 rfl ?_
  refine k_bipush d_Model_readOccurrence_73 cB_8 ?_
  obtain ⟨p17, h⟩ := h
  refine k_imul d_Model_readOccurrence_75 p17 ?_
  refine k_iload_n d_Model_readOccurrence_76 rfl ?_
  refine k_bipush d_Model_readOccurrence_77 cB_8 ?_
  obtain ⟨p16, h⟩ := h
  refine k_imul d_Model_readOccurrence_79 p16 ?_
  refine k_bipush d_Model_readOccurrence_80 cB_8 ?_
  obtain ⟨p15, h⟩ := h
  refine k_iadd d_Model_readOccurrence_82 p15 ?_
  refine k_iconst d_Model_readOccurrence_83 cI_0 ?_
  obtain ⟨p14, h⟩ := h
  refine k_fillr d_Model_readOccurrence_84 ml_9_96 rI_139 p14 rfl ?_
  refine k_aload_n d_Model_readOccurrence_87 rfl ?_
  refine k_getR d_Model_readOccurrence_88 fl_9_26 ob_9 rfl ?_
  refine k_iload_n d_Model_readOccurrence_91 rfl ?_
  refine k_bipush d_Model_readOccurrence_92 cB_8 ?_
  obtain ⟨p13, h⟩ := h
  refine k_imul d_Model_readOccurrence_94 p13 ?_
  refine k_iload_n d_Model_readOccurrence_95 rfl ?_
  refine k_iconst d_Model_readOccurrence_96 cI_5 ?_
  refine k_ishr d_Model_readOccurrence_97 ?_
  obtain ⟨p12, h⟩ := h
  refine k_iadd d_Model_readOccurrence_98 p12 ?_
  refine k_iconst d_Model_readOccurrence_99 cI_1 ?_
  refine k_iload_n d_Model_readOccurrence_100 rfl ?_
  refine k_bipush d_Model_readOccurrence_101 cB_31 ?_
  refine k_iand d_Model_readOccurrence_103 ?_
  refine k_ishl d_Model_readOccurrence_104 ?_
  obtain ⟨p11, h⟩ := h
  refine k_ist d_Model_readOccurrence_105 rI_139 p11 ?_
  refine k_aload_n d_Model_readOccurrence_106 rfl ?_
  refine k_getR d_Model_readOccurrence_107 fl_9_26 ob_9 rfl ?_
  refine k_iload_n d_Model_readOccurrence_110 rfl ?_
  refine k_bipush d_Model_readOccurrence_111 cB_8 ?_
  obtain ⟨p10, h⟩ := h
  refine k_imul d_Model_readOccurrence_113 p10 ?_
  refine k_aload_n d_Model_readOccurrence_114 rfl ?_
  refine k_getR d_Model_readOccurrence_115 fl_9_29 ob_9 rfl ?_
  refine k_iload_n d_Model_readOccurrence_118 rfl ?_
  refine k_bipush d_Model_readOccurrence_119 cB_8 ?_
  obtain ⟨p9, h⟩ := h
  refine k_imul d_Model_readOccurrence_121 p9 ?_
  refine k_bipush d_Model_readOccurrence_122 cB_8 ?_
  obtain ⟨p8, h⟩ := h
  refine k_cpy d_Model_readOccurrence_124 ml_9_102 rI_139.1 rI_140.1 (rI_139.2.trans rI_140.2.symm) (Or.inl rI_139.2) p8 rfl ?_
  refine k_aload_n d_Model_readOccurrence_127 rfl ?_
  refine k_getR d_Model_readOccurrence_128 fl_9_32 ob_9 rfl ?_
  refine k_iload_n d_Model_readOccurrence_131 rfl ?_
  refine k_iconst d_Model_readOccurrence_132 cI_0 ?_
  obtain ⟨p7, h⟩ := h
  refine k_zst d_Model_readOccurrence_133 rz_141 p7 (Or.inl rfl) ?_
  refine k_aload_n d_Model_readOccurrence_134 rfl ?_
  refine k_iload_n d_Model_readOccurrence_135 rfl ?_
  refine k_cvv [.inl a1] d_Model_readOccurrence_136 ml_9_70 rfl rfl ob_9 rfl (s_Model_readHowOften hL (by omega)  h) (fun σ5 h => ?_)
  exact k_ret d_Model_readOccurrence_139 h
