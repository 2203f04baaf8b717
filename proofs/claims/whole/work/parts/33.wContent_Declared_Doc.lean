theorem d_Content_readHead_0 : decode b_Content_readHead 0 = .ok (.aload_n 0, 1) := by decide +kernel
theorem d_Content_readHead_1 : decode b_Content_readHead 1 = .ok (.getfield 15, 3) := by decide +kernel
theorem d_Content_readHead_4 : decode b_Content_readHead 4 = .ok (.ldc 35, 2) := by decide +kernel
theorem d_Content_readHead_6 : decode b_Content_readHead 6 = .ok (.invokevirtual 119, 3) := by decide +kernel
theorem d_Content_readHead_9 : decode b_Content_readHead 9 = .ok (.aload_n 0, 1) := by decide +kernel
theorem d_Content_readHead_10 : decode b_Content_readHead 10 = .ok (.getfield 15, 3) := by decide +kernel
theorem d_Content_readHead_13 : decode b_Content_readHead 13 = .ok (.invokevirtual 123, 3) := by decide +kernel
theorem d_Content_readHead_16 : decode b_Content_readHead 16 = .ok (.aload_n 0, 1) := by decide +kernel
theorem d_Content_readHead_17 : decode b_Content_readHead 17 = .ok (.ldc 126, 2) := by decide +kernel
theorem d_Content_readHead_19 : decode b_Content_readHead 19 = .ok (.invokevirtual 128, 3) := by decide +kernel
theorem d_Content_readHead_22 : decode b_Content_readHead 22 = .ok (.istore_n 1, 1) := by decide +kernel
theorem d_Content_readHead_23 : decode b_Content_readHead 23 = .ok (.aload_n 0, 1) := by decide +kernel
theorem d_Content_readHead_24 : decode b_Content_readHead 24 = .ok (.getfield 15, 3) := by decide +kernel
theorem d_Content_readHead_27 : decode b_Content_readHead 27 = .ok (.ldc 132, 2) := by decide +kernel
theorem d_Content_readHead_29 : decode b_Content_readHead 29 = .ok (.invokevirtual 119, 3) := by decide +kernel
theorem d_Content_readHead_32 : decode b_Content_readHead 32 = .ok (.aload_n 0, 1) := by decide +kernel
theorem d_Content_readHead_33 : decode b_Content_readHead 33 = .ok (.iconst 0, 1) := by decide +kernel
theorem d_Content_readHead_34 : decode b_Content_readHead 34 = .ok (.invokevirtual 134, 3) := by decide +kernel
theorem d_Content_readHead_37 : decode b_Content_readHead 37 = .ok (.aload_n 0, 1) := by decide +kernel
theorem d_Content_readHead_38 : decode b_Content_readHead 38 = .ok (.iload_n 1, 1) := by decide +kernel
theorem d_Content_readHead_39 : decode b_Content_readHead 39 = .ok (.invokevirtual 137, 3) := by decide +kernel
theorem d_Content_readHead_42 : decode b_Content_readHead 42 = .ok (.aload_n 0, 1) := by decide +kernel
theorem d_Content_readHead_43 : decode b_Content_readHead 43 = .ok (.getfield 15, 3) := by decide +kernel
theorem d_Content_readHead_46 : decode b_Content_readHead 46 = .ok (.invokevirtual 140, 3) := by decide +kernel
theorem d_Content_readHead_49 : decode b_Content_readHead 49 = .ok (.istore_n 2, 1) := by decide +kernel
theorem d_Content_readHead_50 : decode b_Content_readHead 50 = .ok (.iconst (-1), 1) := by decide +kernel
theorem d_Content_readHead_51 : decode b_Content_readHead 51 = .ok (.istore_n 3, 1) := by decide +kernel
theorem d_Content_readHead_52 : decode b_Content_readHead 52 = .ok (.iconst 0, 1) := by decide +kernel
theorem d_Content_readHead_53 : decode b_Content_readHead 53 = .ok (.istore 4, 2) := by decide +kernel
theorem d_Content_readHead_55 : decode b_Content_readHead 55 = .ok (.iload_n 2, 1) := by decide +kernel
theorem d_Content_readHead_56 : decode b_Content_readHead 56 = .ok (.ifCond .eq 80, 3) := by decide +kernel
theorem d_Content_readHead_59 : decode b_Content_readHead 59 = .ok (.aload_n 0, 1) := by decide +kernel
theorem d_Content_readHead_60 : decode b_Content_readHead 60 = .ok (.getfield 15, 3) := by decide +kernel
theorem d_Content_readHead_63 : decode b_Content_readHead 63 = .ok (.ldc 143, 2) := by decide +kernel
theorem d_Content_readHead_65 : decode b_Content_readHead 65 = .ok (.invokevirtual 37, 3) := by decide +kernel
theorem d_Content_readHead_68 : decode b_Content_readHead 68 = .ok (.ifCond .eq 68, 3) := by decide +kernel
theorem d_Content_readHead_71 : decode b_Content_readHead 71 = .ok (.aload_n 0, 1) := by decide +kernel
theorem d_Content_readHead_72 : decode b_Content_readHead 72 = .ok (.ldc 143, 2) := by decide +kernel
theorem d_Content_readHead_74 : decode b_Content_readHead 74 = .ok (.invokevirtual 128, 3) := by decide +kernel
theorem d_Content_readHead_77 : decode b_Content_readHead 77 = .ok (.istore_n 1, 1) := by decide +kernel
theorem d_Content_readHead_78 : decode b_Content_readHead 78 = .ok (.aload_n 0, 1) := by decide +kernel
theorem d_Content_readHead_79 : decode b_Content_readHead 79 = .ok (.getfield 15, 3) := by decide +kernel
theorem d_Content_readHead_82 : decode b_Content_readHead 82 = .ok (.getfield 47, 3) := by decide +kernel
theorem d_Content_readHead_85 : decode b_Content_readHead 85 = .ok (.istore_n 3, 1) := by decide +kernel
theorem d_Content_readHead_86 : decode b_Content_readHead 86 = .ok (.aload_n 0, 1) := by decide +kernel
theorem d_Content_readHead_87 : decode b_Content_readHead 87 = .ok (.getfield 15, 3) := by decide +kernel
theorem d_Content_readHead_90 : decode b_Content_readHead 90 = .ok (.invokevirtual 145, 3) := by decide +kernel
theorem d_Content_readHead_93 : decode b_Content_readHead 93 = .ok (.invokestatic 148, 3) := by decide +kernel
theorem d_Content_readHead_96 : decode b_Content_readHead 96 = .ok (.ifCond .ne 11, 3) := by decide +kernel
theorem d_Content_readHead_99 : decode b_Content_readHead 99 = .ok (.aload_n 0, 1) := by decide +kernel
theorem d_Content_readHead_100 : decode b_Content_readHead 100 = .ok (.getfield 15, 3) := by decide +kernel
theorem d_Content_readHead_103 : decode b_Content_readHead 103 = .ok (.iconst 5, 1) := by decide +kernel
theorem d_Content_readHead_104 : decode b_Content_readHead 104 = .ok (.invokevirtual 108, 3) := by decide +kernel
theorem d_Content_readHead_107 : decode b_Content_readHead 107 = .ok (.aload_n 0, 1) := by decide +kernel
theorem d_Content_readHead_108 : decode b_Content_readHead 108 = .ok (.iconst 1, 1) := by decide +kernel
theorem d_Content_readHead_109 : decode b_Content_readHead 109 = .ok (.invokevirtual 134, 3) := by decide +kernel
theorem d_Content_readHead_112 : decode b_Content_readHead 112 = .ok (.aload_n 0, 1) := by decide +kernel
theorem d_Content_readHead_113 : decode b_Content_readHead 113 = .ok (.getfield 15, 3) := by decide +kernel
theorem d_Content_readHead_116 : decode b_Content_readHead 116 = .ok (.getfield 47, 3) := by decide +kernel
theorem d_Content_readHead_119 : decode b_Content_readHead 119 = .ok (.iload_n 3, 1) := by decide +kernel
theorem d_Content_readHead_120 : decode b_Content_readHead 120 = .ok (.isub, 1) := by decide +kernel
theorem d_Content_readHead_121 : decode b_Content_readHead 121 = .ok (.istore 4, 2) := by decide +kernel
theorem d_Content_readHead_123 : decode b_Content_readHead 123 = .ok (.aload_n 0, 1) := by decide +kernel
theorem d_Content_readHead_124 : decode b_Content_readHead 124 = .ok (.iload_n 1, 1) := by decide +kernel
theorem d_Content_readHead_125 : decode b_Content_readHead 125 = .ok (.invokevirtual 137, 3) := by decide +kernel
theorem d_Content_readHead_128 : decode b_Content_readHead 128 = .ok (.aload_n 0, 1) := by decide +kernel
theorem d_Content_readHead_129 : decode b_Content_readHead 129 = .ok (.getfield 15, 3) := by decide +kernel
theorem d_Content_readHead_132 : decode b_Content_readHead 132 = .ok (.invokevirtual 140, 3) := by decide +kernel
theorem d_Content_readHead_135 : decode b_Content_readHead 135 = .ok (.istore_n 2, 1) := by decide +kernel
theorem d_Content_readHead_136 : decode b_Content_readHead 136 = .ok (.iload_n 2, 1) := by decide +kernel
theorem d_Content_readHead_137 : decode b_Content_readHead 137 = .ok (.ifCond .eq 70, 3) := by decide +kernel
theorem d_Content_readHead_140 : decode b_Content_readHead 140 = .ok (.aload_n 0, 1) := by decide +kernel
theorem d_Content_readHead_141 : decode b_Content_readHead 141 = .ok (.getfield 15, 3) := by decide +kernel
theorem d_Content_readHead_144 : decode b_Content_readHead 144 = .ok (.ldc 151, 2) := by decide +kernel
theorem d_Content_readHead_146 : decode b_Content_readHead 146 = .ok (.invokevirtual 37, 3) := by decide +kernel
theorem d_Content_readHead_149 : decode b_Content_readHead 149 = .ok (.ifCond .eq 58, 3) := by decide +kernel
theorem d_Content_readHead_152 : decode b_Content_readHead 152 = .ok (.aload_n 0, 1) := by decide +kernel
theorem d_Content_readHead_153 : decode b_Content_readHead 153 = .ok (.ldc 151, 2) := by decide +kernel
theorem d_Content_readHead_155 : decode b_Content_readHead 155 = .ok (.invokevirtual 128, 3) := by decide +kernel
theorem d_Content_readHead_158 : decode b_Content_readHead 158 = .ok (.istore_n 1, 1) := by decide +kernel
theorem d_Content_readHead_159 : decode b_Content_readHead 159 = .ok (.aload_n 0, 1) := by decide +kernel
theorem d_Content_readHead_160 : decode b_Content_readHead 160 = .ok (.getfield 19, 3) := by decide +kernel
theorem d_Content_readHead_163 : decode b_Content_readHead 163 = .ok (.aload_n 0, 1) := by decide +kernel
theorem d_Content_readHead_164 : decode b_Content_readHead 164 = .ok (.getfield 15, 3) := by decide +kernel
theorem d_Content_readHead_167 : decode b_Content_readHead 167 = .ok (.ldc 153, 2) := by decide +kernel
theorem d_Content_readHead_169 : decode b_Content_readHead 169 = .ok (.invokevirtual 155, 3) := by decide +kernel
theorem d_Content_readHead_172 : decode b_Content_readHead 172 = .ok (.putfield 158, 3) := by decide +kernel
theorem d_Content_readHead_175 : decode b_Content_readHead 175 = .ok (.aload_n 0, 1) := by decide +kernel
theorem d_Content_readHead_176 : decode b_Content_readHead 176 = .ok (.getfield 19, 3) := by decide +kernel
theorem d_Content_readHead_179 : decode b_Content_readHead 179 = .ok (.getfield 158, 3) := by decide +kernel
theorem d_Content_readHead_182 : decode b_Content_readHead 182 = .ok (.ifCond .ne 12, 3) := by decide +kernel
theorem d_Content_readHead_185 : decode b_Content_readHead 185 = .ok (.aload_n 0, 1) := by decide +kernel
theorem d_Content_readHead_186 : decode b_Content_readHead 186 = .ok (.getfield 15, 3) := by decide +kernel
theorem d_Content_readHead_189 : decode b_Content_readHead 189 = .ok (.ldc 160, 2) := by decide +kernel
theorem d_Content_readHead_191 : decode b_Content_readHead 191 = .ok (.invokevirtual 119, 3) := by decide +kernel
theorem d_Content_readHead_194 : decode b_Content_readHead 194 = .ok (.aload_n 0, 1) := by decide +kernel
theorem d_Content_readHead_195 : decode b_Content_readHead 195 = .ok (.iload_n 1, 1) := by decide +kernel
theorem d_Content_readHead_196 : decode b_Content_readHead 196 = .ok (.invokevirtual 137, 3) := by decide +kernel
theorem d_Content_readHead_199 : decode b_Content_readHead 199 = .ok (.aload_n 0, 1) := by decide +kernel
theorem d_Content_readHead_200 : decode b_Content_readHead 200 = .ok (.getfield 15, 3) := by decide +kernel
theorem d_Content_readHead_203 : decode b_Content_readHead 203 = .ok (.invokevirtual 140, 3) := by decide +kernel
theorem d_Content_readHead_206 : decode b_Content_readHead 206 = .ok (.pop, 1) := by decide +kernel
theorem d_Content_readHead_207 : decode b_Content_readHead 207 = .ok (.aload_n 0, 1) := by decide +kernel
theorem d_Content_readHead_208 : decode b_Content_readHead 208 = .ok (.getfield 15, 3) := by decide +kernel
theorem d_Content_readHead_211 : decode b_Content_readHead 211 = .ok (.ldc 162, 2) := by decide +kernel
theorem d_Content_readHead_213 : decode b_Content_readHead 213 = .ok (.invokevirtual 119, 3) := by decide +kernel
theorem d_Content_readHead_216 : decode b_Content_readHead 216 = .ok (.iload_n 3, 1) := by decide +kernel
theorem d_Content_readHead_217 : decode b_Content_readHead 217 = .ok (.iconst (-1), 1) := by decide +kernel
theorem d_Content_readHead_218 : decode b_Content_readHead 218 = .ok (.if_icmp .eq 41, 3) := by decide +kernel
theorem d_Content_readHead_221 : decode b_Content_readHead 221 = .ok (.aload_n 0, 1) := by decide +kernel
theorem d_Content_readHead_222 : decode b_Content_readHead 222 = .ok (.getfield 15, 3) := by decide +kernel
theorem d_Content_readHead_225 : decode b_Content_readHead 225 = .ok (.iload_n 3, 1) := by decide +kernel
theorem d_Content_readHead_226 : decode b_Content_readHead 226 = .ok (.iload 4, 2) := by decide +kernel
theorem d_Content_readHead_228 : decode b_Content_readHead 228 = .ok (.aload_n 0, 1) := by decide +kernel
theorem d_Content_readHead_229 : decode b_Content_readHead 229 = .ok (.getfield 9, 3) := by decide +kernel
theorem d_Content_readHead_232 : decode b_Content_readHead 232 = .ok (.getfield 164, 3) := by decide +kernel
theorem d_Content_readHead_235 : decode b_Content_readHead 235 = .ok (.ifCond .eq 8, 3) := by decide +kernel
theorem d_Content_readHead_238 : decode b_Content_readHead 238 = .ok (.ldc 167, 2) := by decide +kernel
theorem d_Content_readHead_240 : decode b_Content_readHead 240 = .ok (.goto 5, 3) := by decide +kernel
theorem d_Content_readHead_243 : decode b_Content_readHead 243 = .ok (.ldc 169, 2) := by decide +kernel
theorem d_Content_readHead_245 : decode b_Content_readHead 245 = .ok (.invokevirtual 171, 3) := by decide +kernel
theorem d_Content_readHead_248 : decode b_Content_readHead 248 = .ok (.ifCond .ne 11, 3) := by decide +kernel
theorem d_Content_readHead_251 : decode b_Content_readHead 251 = .ok (.aload_n 0, 1) := by decide +kernel
theorem d_Content_readHead_252 : decode b_Content_readHead 252 = .ok (.getfield 15, 3) := by decide +kernel
theorem d_Content_readHead_255 : decode b_Content_readHead 255 = .ok (.iconst 2, 1) := by decide +kernel
theorem d_Content_readHead_256 : decode b_Content_readHead 256 = .ok (.invokevirtual 108, 3) := by decide +kernel
theorem d_Content_readHead_259 : decode b_Content_readHead 259 = .ok (.return_, 1) := by decide +kernel
/-- Content_readHead -/
def w_Content_readHead (L : Nat → Nat)  (Q : IS → Prop) (σ : IS) : Prop := w_Reader_need L 1002 (fun σ1 => w_Reader_needSpace L  (fun σ3 => w_Content_readQuoteOf L 1003 (fun v6 σ5 => w_Reader_need L 1004 (fun σ7 => w_Content_readLetters L 0 (fun σ9 => w_Content_readQuote L v6 (fun σ11 => w_Reader_skipSpace L  (fun v14 σ13 => WJ (fun (s17 : Int × Int × Int) (σ18 : IS) => WJ (fun (s21 : Unit) (σ22 : IS) => w_Reader_need L 1009 (fun σ23 => WJ (fun (s27 : Unit) (σ28 : IS) => Q σ28) (fun J25 => if s17.2.1 = (-1) then J25 () σ23 else w_Reader_isWrittenAs L s17.2.1 s17.2.2 (if (σ23.1 1 5) = 0 then 1011 else 1010) (fun v31 σ30 => if v31 = 0 then w_Reader_fail L 2 (fun σ33 => J25 () σ33) σ30 else J25 () σ30) σ23)) σ22) (fun J19 => if s17.1 = 0 then J19 () σ18 else w_Reader_at L 1006 (fun v41 σ40 => if v41 = 0 then J19 () σ40 else w_Content_readQuoteOf L 1006 (fun v44 σ43 => w_Reader_skip L 1007 (fun v46 σ45 => is01 v46 ∧ WJ (fun (s49 : Unit) (σ50 : IS) => w_Content_readQuote L v44 (fun σ51 => w_Reader_skipSpace L  (fun v54 σ53 => J19 () σ53) σ51) σ50) (fun J47 => if v46 = 0 then w_Reader_need L 1008 (fun σ56 => J47 () σ56) (pf σ45 3 15 v46) else J47 () (pf σ45 3 15 v46))) σ43) σ40) σ18)) (fun J15 => if v14 = 0 then J15 (v14, (-1), 0) σ13 else w_Reader_at L 1005 (fun v61 σ60 => if v61 = 0 then J15 (v14, (-1), 0) σ60 else w_Content_readQuoteOf L 1005 (fun v64 σ63 => w_Reader_peek L  (fun v66 σ65 => w_Reader_isLetter L v66 (fun v68 σ67 => WJ (fun (s71 : Unit) (σ72 : IS) => w_Content_readLetters L 1 (fun σ73 => inR ((σ73.1 2 2) - (σ63.1 2 2)) ∧ w_Content_readQuote L v64 (fun σ75 => w_Reader_skipSpace L  (fun v78 σ77 => J15 (v78, (σ63.1 2 2), ((σ73.1 2 2) - (σ63.1 2 2))) σ77) σ75) σ73) σ72) (fun J69 => if v68 = 0 then w_Reader_fail L 5 (fun σ81 => J69 () σ81) σ67 else J69 () σ67)) σ65) σ63) σ60) σ13)) σ11) σ9) σ7) σ5) σ3) σ1) σ
set_option maxHeartbeats 4000000 in
set_option maxRecDepth 20000 in
theorem s_Content_readHead {L : Nat → Nat} (hL : ∀ r, L r < 2147483648) {d : Nat} (hd : 3 ≤ d)  {Q : IS → Prop} {σ : IS}  (h : w_Content_readHead L  Q σ) : OkI BF L d 7 b_Content_readHead 5 0 0 [] [some (.inr 7)] σ (qv Q) := by
  unfold w_Content_readHead at h
  obtain ⟨d, rfl⟩ : ∃ e, d = e + 1 := ⟨d - 1, by omega⟩
  refine k_sb (lv' := [some (.inr 7), none, none, none, none]) (sb_s (sb_e (sb_e (sb_e (sb_e sb_nil))))) ?_
  refine k_aload_n d_Content_readHead_0 rfl ?_
  refine k_getR d_Content_readHead_1 fl_7_15 ob_7 rfl ?_
  refine k_ldc d_Content_readHead_4 ks_7_35 rfl ?_
  refine k_cvv [.inr 1002] d_Content_readHead_6 ml_7_119 rfl rfl ob_2 rfl (s_Reader_need hL (by omega) it_1002 h) (fun σ1 h => ?_)
  refine k_aload_n d_Content_readHead_9 rfl ?_
  refine k_getR d_Content_readHead_10 fl_7_15 ob_7 rfl ?_
  refine k_cvv [] d_Content_readHead_13 ml_7_123 rfl rfl ob_2 rfl (s_Reader_needSpace hL (by omega)  h) (fun σ3 h => ?_)
  refine k_aload_n d_Content_readHead_16 rfl ?_
  refine k_ldc d_Content_readHead_17 ks_7_126 rfl ?_
  refine k_cvi [.inr 1003] d_Content_readHead_19 ml_7_128 rfl rfl ob_7 rfl (s_Content_readQuoteOf hL (by omega) it_1003 h) (fun v6 σ5 h => ?_)
  refine k_istore_n (lv' := [some (.inr 7), some (.inl v6), none, none, none]) d_Content_readHead_22 rfl rfl ?_
  refine k_aload_n d_Content_readHead_23 rfl ?_
  refine k_getR d_Content_readHead_24 fl_7_15 ob_7 rfl ?_
  refine k_ldc d_Content_readHead_27 ks_7_132 rfl ?_
  refine k_cvv [.inr 1004] d_Content_readHead_29 ml_7_119 rfl rfl ob_2 rfl (s_Reader_need hL (by omega) it_1004 h) (fun σ7 h => ?_)
  refine k_aload_n d_Content_readHead_32 rfl ?_
  refine k_iconst d_Content_readHead_33 cI_0 ?_
  refine k_cvv [.inl 0] d_Content_readHead_34 ml_7_134 rfl rfl ob_7 rfl (s_Content_readLetters hL (by omega)  h) (fun σ9 h => ?_)
  refine k_aload_n d_Content_readHead_37 rfl ?_
  refine k_iload_n d_Content_readHead_38 rfl ?_
  refine k_cvv [.inl v6] d_Content_readHead_39 ml_7_137 rfl rfl ob_7 rfl (s_Content_readQuote hL (by omega)  h) (fun σ11 h => ?_)
  refine k_aload_n d_Content_readHead_42 rfl ?_
  refine k_getR d_Content_readHead_43 fl_7_15 ob_7 rfl ?_
  refine k_cvi [] d_Content_readHead_46 ml_7_140 rfl rfl ob_2 rfl (s_Reader_skipSpace hL (by omega)  h) (fun v14 σ13 h => ?_)
  refine k_istore_n (lv' := [some (.inr 7), some (.inl v6), some (.inl v14), none, none]) d_Content_readHead_49 rfl rfl ?_
  refine k_iconst d_Content_readHead_50 cI_m1 ?_
  refine k_istore_n (lv' := [some (.inr 7), some (.inl v6), some (.inl v14), some (.inl (-1)), none]) d_Content_readHead_51 rfl rfl ?_
  refine k_iconst d_Content_readHead_52 cI_0 ?_
  refine k_istore (lv' := [some (.inr 7), some (.inl v6), some (.inl v14), some (.inl (-1)), some (.inl 0)]) d_Content_readHead_53 rfl rfl ?_
  refine k_iload_n d_Content_readHead_55 rfl ?_
  refine k_join (S := Int × Int × Int) (pc' := 136) (st' := fun s17 => []) (lv' := fun s17 => [some (.inr 7), none, some (.inl s17.1), some (.inl s17.2.1), some (.inl s17.2.2)]) (fun s17 σ18 h => ?_) (fun J15 hJ16 h => ?_) h
  · refine k_iload_n d_Content_readHead_136 rfl ?_
    refine k_join (S := Unit) (pc' := 207) (st' := fun s21 => []) (lv' := fun s21 => [some (.inr 7), none, none, some (.inl s17.2.1), some (.inl s17.2.2)]) (fun s21 σ22 h => ?_) (fun J19 hJ20 h => ?_) h
    · refine k_aload_n d_Content_readHead_207 rfl ?_
      refine k_getR d_Content_readHead_208 fl_7_15 ob_7 rfl ?_
      refine k_ldc d_Content_readHead_211 ks_7_162 rfl ?_
      refine k_cvv [.inr 1009] d_Content_readHead_213 ml_7_119 rfl rfl ob_2 rfl (s_Reader_need hL (by omega) it_1009 h) (fun σ23 h => ?_)
      refine k_iload_n d_Content_readHead_216 rfl ?_
      refine k_iconst d_Content_readHead_217 cI_m1 ?_
      refine k_join (S := Unit) (pc' := 259) (st' := fun s27 => []) (lv' := fun s27 => [none, none, none, none, none]) (fun s27 σ28 h => ?_) (fun J25 hJ26 h => ?_) h
      · exact k_ret d_Content_readHead_259 h
      · refine k_iceq d_Content_readHead_218 rfl (fun c29 => ?_) (fun c29 => ?_)
        · have h := ipos c29 h
          exact k_sb (sb_n (sb_s (sb_s (sb_n (sb_n sb_nil))))) (hJ26 () _ h)
        · have h := ineg c29 h
          refine k_aload_n d_Content_readHead_221 rfl ?_
          refine k_getR d_Content_readHead_222 fl_7_15 ob_7 rfl ?_
          refine k_iload_n d_Content_readHead_225 rfl ?_
          refine k_iload d_Content_readHead_226 rfl ?_
          refine k_aload_n d_Content_readHead_228 rfl ?_
          refine k_getR d_Content_readHead_229 fl_7_9 ob_7 rfl ?_
          refine k_getI (x := (σ23.1 1 5)) d_Content_readHead_232 fl_7_164 ob_1 rfl rfl ?_
          have hV35 : OkI BF L (d + 1) 7 b_Content_readHead 5 0 245 [.inr (if (σ23.1 1 5) = 0 then 1011 else 1010), .inl s17.2.2, .inl s17.2.1, .inr 2] [some (.inr 7), none, none, some (.inl s17.2.1), some (.inl s17.2.2)] σ23 (qv Q) := by
            refine k_cvi [.inl s17.2.1, .inl s17.2.2, .inr (if (σ23.1 1 5) = 0 then 1011 else 1010)] d_Content_readHead_245 ml_7_171 rfl rfl ob_2 rfl (s_Reader_isWrittenAs hL (by omega) (it_if it_1011 it_1010) h) (fun v31 σ30 h => ?_)
            refine k_ifne d_Content_readHead_248 rfl (fun c32 => ?_) (fun c32 => ?_)
            · have h := ineg c32 h
              exact k_sb (sb_n (sb_s (sb_s (sb_n (sb_n sb_nil))))) (hJ26 () _ h)
            · have h := ipos c32 h
              refine k_aload_n d_Content_readHead_251 rfl ?_
              refine k_getR d_Content_readHead_252 fl_7_15 ob_7 rfl ?_
              refine k_iconst d_Content_readHead_255 cI_2 ?_
              refine k_cvv [.inl 2] d_Content_readHead_256 ml_7_108 rfl rfl ob_2 rfl (s_Reader_fail hL (by omega)  h) (fun σ33 h => ?_)
              exact k_sb (sb_n (sb_s (sb_s (sb_n (sb_n sb_nil))))) (hJ26 () _ h)
          refine k_ifeq d_Content_readHead_235 rfl (fun c36 => ?_) (fun c36 => ?_)
          · have hV37 := k_eqR (if_pos c36) hV35
            refine k_ldc d_Content_readHead_243 ks_7_169 rfl ?_
            exact hV37
          · have hV38 := k_eqR (if_neg c36) hV35
            refine k_ldc d_Content_readHead_238 ks_7_167 rfl ?_
            refine k_goto d_Content_readHead_240 rfl ?_
            exact hV38
    · refine k_ifeq d_Content_readHead_137 rfl (fun c39 => ?_) (fun c39 => ?_)
      · have h := ipos c39 h
        exact k_sb (sb_s (sb_s (sb_n (sb_s (sb_s sb_nil))))) (hJ20 () _ h)
      · have h := ineg c39 h
        refine k_aload_n d_Content_readHead_140 rfl ?_
        refine k_getR d_Content_readHead_141 fl_7_15 ob_7 rfl ?_
        refine k_ldc d_Content_readHead_144 ks_7_151 rfl ?_
        refine k_cvi [.inr 1006] d_Content_readHead_146 ml_7_37 rfl rfl ob_2 rfl (s_Reader_at hL (by omega) it_1006 h) (fun v41 σ40 h => ?_)
        refine k_ifeq d_Content_readHead_149 rfl (fun c42 => ?_) (fun c42 => ?_)
        · have h := ipos c42 h
          exact k_sb (sb_s (sb_s (sb_n (sb_s (sb_s sb_nil))))) (hJ20 () _ h)
        · have h := ineg c42 h
          refine k_aload_n d_Content_readHead_152 rfl ?_
          refine k_ldc d_Content_readHead_153 ks_7_151 rfl ?_
          refine k_cvi [.inr 1006] d_Content_readHead_155 ml_7_128 rfl rfl ob_7 rfl (s_Content_readQuoteOf hL (by omega) it_1006 h) (fun v44 σ43 h => ?_)
          refine k_istore_n (lv' := [some (.inr 7), some (.inl v44), some (.inl s17.1), some (.inl s17.2.1), some (.inl s17.2.2)]) d_Content_readHead_158 rfl rfl ?_
          refine k_aload_n d_Content_readHead_159 rfl ?_
          refine k_getR d_Content_readHead_160 fl_7_19 ob_7 rfl ?_
          refine k_aload_n d_Content_readHead_163 rfl ?_
          refine k_getR d_Content_readHead_164 fl_7_15 ob_7 rfl ?_
          refine k_ldc d_Content_readHead_167 ks_7_153 rfl ?_
          refine k_cvi [.inr 1007] d_Content_readHead_169 ml_7_155 rfl rfl ob_2 rfl (s_Reader_skip hL (by omega) it_1007 h) (fun v46 σ45 h => ?_)
          obtain ⟨p58, h⟩ := h
          refine k_putZ d_Content_readHead_172 fl_7_158 ob_3 rfl p58 ?_
          refine k_aload_n d_Content_readHead_175 rfl ?_
          refine k_getR d_Content_readHead_176 fl_7_19 ob_7 rfl ?_
          refine k_getI (x := v46) d_Content_readHead_179 fl_7_158 ob_3 rfl rfl ?_
          refine k_join (S := Unit) (pc' := 194) (st' := fun s49 => []) (lv' := fun s49 => [some (.inr 7), some (.inl v44), none, some (.inl s17.2.1), some (.inl s17.2.2)]) (fun s49 σ50 h => ?_) (fun J47 hJ48 h => ?_) h
          · refine k_aload_n d_Content_readHead_194 rfl ?_
            refine k_iload_n d_Content_readHead_195 rfl ?_
            refine k_cvv [.inl v44] d_Content_readHead_196 ml_7_137 rfl rfl ob_7 rfl (s_Content_readQuote hL (by omega)  h) (fun σ51 h => ?_)
            refine k_aload_n d_Content_readHead_199 rfl ?_
            refine k_getR d_Content_readHead_200 fl_7_15 ob_7 rfl ?_
            refine k_cvi [] d_Content_readHead_203 ml_7_140 rfl rfl ob_2 rfl (s_Reader_skipSpace hL (by omega)  h) (fun v54 σ53 h => ?_)
            refine k_pop d_Content_readHead_206 ?_
            exact k_sb (sb_s (sb_n (sb_s (sb_s (sb_s sb_nil))))) (hJ20 () _ h)
          · refine k_ifne d_Content_readHead_182 rfl (fun c55 => ?_) (fun c55 => ?_)
            · have h := ineg c55 h
              exact k_sb (sb_s (sb_s (sb_n (sb_s (sb_s sb_nil))))) (hJ48 () _ h)
            · have h := ipos c55 h
              refine k_aload_n d_Content_readHead_185 rfl ?_
              refine k_getR d_Content_readHead_186 fl_7_15 ob_7 rfl ?_
              refine k_ldc d_Content_readHead_189 ks_7_160 rfl ?_
              refine k_cvv [.inr 1008] d_Content_readHead_191 ml_7_119 rfl rfl ob_2 rfl (s_Reader_need hL (by omega) it_1008 h) (fun σ56 h => ?_)
              exact k_sb (sb_s (sb_s (sb_n (sb_s (sb_s sb_nil))))) (hJ48 () _ h)
  · refine k_ifeq d_Content_readHead_56 rfl (fun c59 => ?_) (fun c59 => ?_)
    · have h := ipos c59 h
      exact k_sb (sb_s (sb_n (sb_s (sb_s (sb_s sb_nil))))) (hJ16 (v14, (-1), 0) _ h)
    · have h := ineg c59 h
      refine k_aload_n d_Content_readHead_59 rfl ?_
      refine k_getR d_Content_readHead_60 fl_7_15 ob_7 rfl ?_
      refine k_ldc d_Content_readHead_63 ks_7_143 rfl ?_
      refine k_cvi [.inr 1005] d_Content_readHead_65 ml_7_37 rfl rfl ob_2 rfl (s_Reader_at hL (by omega) it_1005 h) (fun v61 σ60 h => ?_)
      refine k_ifeq d_Content_readHead_68 rfl (fun c62 => ?_) (fun c62 => ?_)
      · have h := ipos c62 h
        exact k_sb (sb_s (sb_n (sb_s (sb_s (sb_s sb_nil))))) (hJ16 (v14, (-1), 0) _ h)
      · have h := ineg c62 h
        refine k_aload_n d_Content_readHead_71 rfl ?_
        refine k_ldc d_Content_readHead_72 ks_7_143 rfl ?_
        refine k_cvi [.inr 1005] d_Content_readHead_74 ml_7_128 rfl rfl ob_7 rfl (s_Content_readQuoteOf hL (by omega) it_1005 h) (fun v64 σ63 h => ?_)
        refine k_istore_n (lv' := [some (.inr 7), some (.inl v64), some (.inl v14), some (.inl (-1)), some (.inl 0)]) d_Content_readHead_77 rfl rfl ?_
        refine k_aload_n d_Content_readHead_78 rfl ?_
        refine k_getR d_Content_readHead_79 fl_7_15 ob_7 rfl ?_
        refine k_getI (x := (σ63.1 2 2)) d_Content_readHead_82 fl_7_47 ob_2 rfl rfl ?_
        refine k_istore_n (lv' := [some (.inr 7), some (.inl v64), some (.inl v14), some (.inl (σ63.1 2 2)), some (.inl 0)]) d_Content_readHead_85 rfl rfl ?_
        refine k_aload_n d_Content_readHead_86 rfl ?_
        refine k_getR d_Content_readHead_87 fl_7_15 ob_7 rfl ?_
        refine k_cvi [] d_Content_readHead_90 ml_7_145 rfl rfl ob_2 rfl (s_Reader_peek hL (by omega)  h) (fun v66 σ65 h => ?_)
        refine k_csi [.inl v66] d_Content_readHead_93 ml_7_148 (Or.inl rfl) rfl rfl rfl (s_Reader_isLetter hL (by omega)  h) (fun v68 σ67 h => ?_)
        refine k_join (S := Unit) (pc' := 107) (st' := fun s71 => []) (lv' := fun s71 => [some (.inr 7), some (.inl v64), none, some (.inl (σ63.1 2 2)), none]) (fun s71 σ72 h => ?_) (fun J69 hJ70 h => ?_) h
        · refine k_aload_n d_Content_readHead_107 rfl ?_
          refine k_iconst d_Content_readHead_108 cI_1 ?_
          refine k_cvv [.inl 1] d_Content_readHead_109 ml_7_134 rfl rfl ob_7 rfl (s_Content_readLetters hL (by omega)  h) (fun σ73 h => ?_)
          refine k_aload_n d_Content_readHead_112 rfl ?_
          refine k_getR d_Content_readHead_113 fl_7_15 ob_7 rfl ?_
          refine k_getI (x := (σ73.1 2 2)) d_Content_readHead_116 fl_7_47 ob_2 rfl rfl ?_
          refine k_iload_n d_Content_readHead_119 rfl ?_
          obtain ⟨p79, h⟩ := h
          refine k_isub d_Content_readHead_120 p79 ?_
          refine k_istore (lv' := [some (.inr 7), some (.inl v64), none, some (.inl (σ63.1 2 2)), some (.inl ((σ73.1 2 2) - (σ63.1 2 2)))]) d_Content_readHead_121 rfl rfl ?_
          refine k_aload_n d_Content_readHead_123 rfl ?_
          refine k_iload_n d_Content_readHead_124 rfl ?_
          refine k_cvv [.inl v64] d_Content_readHead_125 ml_7_137 rfl rfl ob_7 rfl (s_Content_readQuote hL (by omega)  h) (fun σ75 h => ?_)
          refine k_aload_n d_Content_readHead_128 rfl ?_
          refine k_getR d_Content_readHead_129 fl_7_15 ob_7 rfl ?_
          refine k_cvi [] d_Content_readHead_132 ml_7_140 rfl rfl ob_2 rfl (s_Reader_skipSpace hL (by omega)  h) (fun v78 σ77 h => ?_)
          refine k_istore_n (lv' := [some (.inr 7), some (.inl v64), some (.inl v78), some (.inl (σ63.1 2 2)), some (.inl ((σ73.1 2 2) - (σ63.1 2 2)))]) d_Content_readHead_135 rfl rfl ?_
          exact k_sb (sb_s (sb_n (sb_s (sb_s (sb_s sb_nil))))) (hJ16 (v78, (σ63.1 2 2), ((σ73.1 2 2) - (σ63.1 2 2))) _ h)
        · refine k_ifne d_Content_readHead_96 rfl (fun c80 => ?_) (fun c80 => ?_)
          · have h := ineg c80 h
            exact k_sb (sb_s (sb_s (sb_n (sb_s (sb_n sb_nil))))) (hJ70 () _ h)
          · have h := ipos c80 h
            refine k_aload_n d_Content_readHead_99 rfl ?_
            refine k_getR d_Content_readHead_100 fl_7_15 ob_7 rfl ?_
            refine k_iconst d_Content_readHead_103 cI_5 ?_
            refine k_cvv [.inl 5] d_Content_readHead_104 ml_7_108 rfl rfl ob_2 rfl (s_Reader_fail hL (by omega)  h) (fun σ81 h => ?_)
            exact k_sb (sb_s (sb_s (sb_n (sb_s (sb_n sb_nil))))) (hJ70 () _ h)
theorem d_Entities_elementBefore_0 : decode b_Entities_elementBefore 0 = .ok (.aload_n 0, 1) := by decide +kernel
theorem d_Entities_elementBefore_1 : decode b_Entities_elementBefore 1 = .ok (.getfield 66, 3) := by decide +kernel
theorem d_Entities_elementBefore_4 : decode b_Entities_elementBefore 4 = .ok (.ifCond .le 17, 3) := by decide +kernel
theorem d_Entities_elementBefore_7 : decode b_Entities_elementBefore 7 = .ok (.aload_n 0, 1) := by decide +kernel
theorem d_Entities_elementBefore_8 : decode b_Entities_elementBefore 8 = .ok (.getfield 45, 3) := by decide +kernel
theorem d_Entities_elementBefore_11 : decode b_Entities_elementBefore 11 = .ok (.aload_n 0, 1) := by decide +kernel
theorem d_Entities_elementBefore_12 : decode b_Entities_elementBefore 12 = .ok (.getfield 66, 3) := by decide +kernel
theorem d_Entities_elementBefore_15 : decode b_Entities_elementBefore 15 = .ok (.iconst 1, 1) := by decide +kernel
theorem d_Entities_elementBefore_16 : decode b_Entities_elementBefore 16 = .ok (.isub, 1) := by decide +kernel
theorem d_Entities_elementBefore_17 : decode b_Entities_elementBefore 17 = .ok (.iaload, 1) := by decide +kernel
theorem d_Entities_elementBefore_18 : decode b_Entities_elementBefore 18 = .ok (.goto 4, 3) := by decide +kernel
theorem d_Entities_elementBefore_21 : decode b_Entities_elementBefore 21 = .ok (.iconst (-1), 1) := by decide +kernel
theorem d_Entities_elementBefore_22 : decode b_Entities_elementBefore 22 = .ok (.ireturn, 1) := by decide +kernel
/-- Entities_elementBefore -/
def w_Entities_elementBefore (L : Nat → Nat)  (Q : Int → IS → Prop) (σ : IS) : Prop := ((0 < (σ.1 3 12) → (inR ((σ.1 3 12) - 1) ∧ inL L 113 ((σ.1 3 12) - 1)))) ∧ Q (if 0 < (σ.1 3 12) then (σ.2 113 (Int.toNat ((σ.1 3 12) - 1))) else ((-1) : Int)) σ
set_option maxHeartbeats 4000000 in
set_option maxRecDepth 20000 in
theorem s_Entities_elementBefore {L : Nat → Nat} (hL : ∀ r, L r < 2147483648) {d : Nat} (hd : 0 ≤ d)  {Q : Int → IS → Prop} {σ : IS}  (h : w_Entities_elementBefore L  Q σ) : OkI BF L d 3 b_Entities_elementBefore 1 1 0 [] [some (.inr 3)] σ (qi Q) := by
  unfold w_Entities_elementBefore at h
  refine k_sb (lv' := [some (.inr 3)]) (sb_s sb_nil) ?_
  refine k_aload_n d_Entities_elementBefore_0 rfl ?_
  refine k_getI (x := (σ.1 3 12)) d_Entities_elementBefore_1 fl_3_66 ob_3 rfl rfl ?_
  obtain ⟨pt4, h⟩ := h
  have hV3 : OkI BF L d 3 b_Entities_elementBefore 1 1 22 [.inl (if 0 < (σ.1 3 12) then (σ.2 113 (Int.toNat ((σ.1 3 12) - 1))) else ((-1) : Int))] [some (.inr 3)] σ (qi Q) := by
    exact k_iret d_Entities_elementBefore_22 (Or.inl rfl) h
  have pa5 := pt4
  refine k_ifle d_Entities_elementBefore_4 rfl (fun c6 => ?_) (fun c6 => ?_)
  · have hV8 := k_eqI (if_neg c6) hV3
    refine k_iconst d_Entities_elementBefore_21 cI_m1 ?_
    exact hV8
  · have pa5 := pa5 c6
    have hV7 := k_eqI (if_pos c6) hV3
    obtain ⟨p1, p2⟩ := pa5
    refine k_aload_n d_Entities_elementBefore_7 rfl ?_
    refine k_getR d_Entities_elementBefore_8 fl_3_45 ob_3 rfl ?_
    refine k_aload_n d_Entities_elementBefore_11 rfl ?_
    refine k_getI (x := (σ.1 3 12)) d_Entities_elementBefore_12 fl_3_66 ob_3 rfl rfl ?_
    refine k_iconst d_Entities_elementBefore_15 cI_1 ?_
    refine k_isub d_Entities_elementBefore_16 p1 ?_
    refine k_ild (x := (σ.2 113 (Int.toNat ((σ.1 3 12) - 1)))) d_Entities_elementBefore_17 rI_113 p2 rfl ?_
    refine k_goto d_Entities_elementBefore_18 rfl ?_
    exact hV7
theorem d_Entities_leave_0 : decode b_Entities_leave 0 = .ok (.aload_n 0, 1) := by decide +kernel
theorem d_Entities_leave_1 : decode b_Entities_leave 1 = .ok (.getfield 66, 3) := by decide +kernel
theorem d_Entities_leave_4 : decode b_Entities_leave 4 = .ok (.ifCond .le 60, 3) := by decide +kernel
theorem d_Entities_leave_7 : decode b_Entities_leave 7 = .ok (.aload_n 0, 1) := by decide +kernel
theorem d_Entities_leave_8 : decode b_Entities_leave 8 = .ok (.dup, 1) := by decide +kernel
theorem d_Entities_leave_9 : decode b_Entities_leave 9 = .ok (.getfield 66, 3) := by decide +kernel
theorem d_Entities_leave_12 : decode b_Entities_leave 12 = .ok (.iconst 1, 1) := by decide +kernel
theorem d_Entities_leave_13 : decode b_Entities_leave 13 = .ok (.isub, 1) := by decide +kernel
theorem d_Entities_leave_14 : decode b_Entities_leave 14 = .ok (.putfield 66, 3) := by decide +kernel
theorem d_Entities_leave_17 : decode b_Entities_leave 17 = .ok (.aload_n 0, 1) := by decide +kernel
theorem d_Entities_leave_18 : decode b_Entities_leave 18 = .ok (.getfield 32, 3) := by decide +kernel
theorem d_Entities_leave_21 : decode b_Entities_leave 21 = .ok (.aload_n 0, 1) := by decide +kernel
theorem d_Entities_leave_22 : decode b_Entities_leave 22 = .ok (.getfield 42, 3) := by decide +kernel
theorem d_Entities_leave_25 : decode b_Entities_leave 25 = .ok (.aload_n 0, 1) := by decide +kernel
theorem d_Entities_leave_26 : decode b_Entities_leave 26 = .ok (.getfield 66, 3) := by decide +kernel
theorem d_Entities_leave_29 : decode b_Entities_leave 29 = .ok (.iaload, 1) := by decide +kernel
theorem d_Entities_leave_30 : decode b_Entities_leave 30 = .ok (.iconst 0, 1) := by decide +kernel
theorem d_Entities_leave_31 : decode b_Entities_leave 31 = .ok (.bastore, 1) := by decide +kernel
theorem d_Entities_leave_32 : decode b_Entities_leave 32 = .ok (.aload_n 0, 1) := by decide +kernel
theorem d_Entities_leave_33 : decode b_Entities_leave 33 = .ok (.getfield 15, 3) := by decide +kernel
theorem d_Entities_leave_36 : decode b_Entities_leave 36 = .ok (.aload_n 0, 1) := by decide +kernel
theorem d_Entities_leave_37 : decode b_Entities_leave 37 = .ok (.getfield 36, 3) := by decide +kernel
theorem d_Entities_leave_40 : decode b_Entities_leave 40 = .ok (.aload_n 0, 1) := by decide +kernel
theorem d_Entities_leave_41 : decode b_Entities_leave 41 = .ok (.getfield 66, 3) := by decide +kernel
theorem d_Entities_leave_44 : decode b_Entities_leave 44 = .ok (.iaload, 1) := by decide +kernel
theorem d_Entities_leave_45 : decode b_Entities_leave 45 = .ok (.putfield 88, 3) := by decide +kernel
theorem d_Entities_leave_48 : decode b_Entities_leave 48 = .ok (.aload_n 0, 1) := by decide +kernel
theorem d_Entities_leave_49 : decode b_Entities_leave 49 = .ok (.getfield 15, 3) := by decide +kernel
theorem d_Entities_leave_52 : decode b_Entities_leave 52 = .ok (.aload_n 0, 1) := by decide +kernel
theorem d_Entities_leave_53 : decode b_Entities_leave 53 = .ok (.getfield 39, 3) := by decide +kernel
theorem d_Entities_leave_56 : decode b_Entities_leave 56 = .ok (.aload_n 0, 1) := by decide +kernel
theorem d_Entities_leave_57 : decode b_Entities_leave 57 = .ok (.getfield 66, 3) := by decide +kernel
theorem d_Entities_leave_60 : decode b_Entities_leave 60 = .ok (.iaload, 1) := by decide +kernel
theorem d_Entities_leave_61 : decode b_Entities_leave 61 = .ok (.putfield 145, 3) := by decide +kernel
theorem d_Entities_leave_64 : decode b_Entities_leave 64 = .ok (.return_, 1) := by decide +kernel
/-- Entities_leave -/
def w_Entities_leave (L : Nat → Nat)  (Q : IS → Prop) (σ : IS) : Prop := WJ (fun (s3 : Unit) (σ4 : IS) => Q σ4) (fun J1 => if 0 < (σ.1 3 12) then inR ((σ.1 3 12) - 1) ∧ inL L 112 ((σ.1 3 12) - 1) ∧ inL L 109 (σ.2 112 (Int.toNat ((σ.1 3 12) - 1))) ∧ inL L 110 ((σ.1 3 12) - 1) ∧ inL L 111 ((σ.1 3 12) - 1) ∧ J1 () (pf (pf (pr (pf σ 3 12 ((σ.1 3 12) - 1)) 109 (Int.toNat (σ.2 112 (Int.toNat ((σ.1 3 12) - 1)))) 0) 2 2 (σ.2 110 (Int.toNat ((σ.1 3 12) - 1)))) 2 3 (σ.2 111 (Int.toNat ((σ.1 3 12) - 1)))) else J1 () σ)
set_option maxHeartbeats 4000000 in
set_option maxRecDepth 20000 in
theorem s_Entities_leave {L : Nat → Nat} (hL : ∀ r, L r < 2147483648) {d : Nat} (hd : 0 ≤ d)  {Q : IS → Prop} {σ : IS}  (h : w_Entities_leave L  Q σ) : OkI BF L d 3 b_Entities_leave 1 0 0 [] [some (.inr 3)] σ (qv Q) := by
  unfold w_Entities_leave at h
  refine k_sb (lv' := [some (.inr 3)]) (sb_s sb_nil) ?_
  refine k_aload_n d_Entities_leave_0 rfl ?_
  refine k_getI (x := (σ.1 3 12)) d_Entities_leave_1 fl_3_66 ob_3 rfl rfl ?_
  refine k_join (S := Unit) (pc' := 64) (st' := fun s3 => []) (lv' := fun s3 => [none]) (fun s3 σ4 h => ?_) (fun J1 hJ2 h => ?_) h
  · exact k_ret d_Entities_leave_64 h
  · refine k_ifle d_Entities_leave_4 rfl (fun c5 => ?_) (fun c5 => ?_)
    · have h := ineg c5 h
      exact k_sb (sb_n sb_nil) (hJ2 () _ h)
    · have h := ipos c5 h
      refine k_aload_n d_Entities_leave_7 rfl ?_
      refine k_dup d_Entities_leave_8 ?_
      refine k_getI (x := (σ.1 3 12)) d_Entities_leave_9 fl_3_66 ob_3 rfl rfl ?_
      refine k_iconst d_Entities_leave_12 cI_1 ?_
      obtain ⟨p10, h⟩ := h
      refine k_isub d_Entities_leave_13 p10 ?_
      refine k_putI d_Entities_leave_14 fl_3_66 ob_3 rfl ?_
      refine k_aload_n d_Entities_leave_17 rfl ?_
      refine k_getR d_Entities_leave_18 fl_3_32 ob_3 rfl ?_
      refine k_aload_n d_Entities_leave_21 rfl ?_
      refine k_getR d_Entities_leave_22 fl_3_42 ob_3 rfl ?_
      refine k_aload_n d_Entities_leave_25 rfl ?_
      refine k_getI (x := ((σ.1 3 12) - 1)) d_Entities_leave_26 fl_3_66 ob_3 rfl rfl ?_
      obtain ⟨p9, h⟩ := h
      refine k_ild (x := (σ.2 112 (Int.toNat ((σ.1 3 12) - 1)))) d_Entities_leave_29 rI_112 p9 rfl ?_
      refine k_iconst d_Entities_leave_30 cI_0 ?_
      obtain ⟨p8, h⟩ := h
      refine k_zst d_Entities_leave_31 rz_109 p8 (Or.inl rfl) ?_
      refine k_aload_n d_Entities_leave_32 rfl ?_
      refine k_getR d_Entities_leave_33 fl_3_15 ob_3 rfl ?_
      refine k_aload_n d_Entities_leave_36 rfl ?_
      refine k_getR d_Entities_leave_37 fl_3_36 ob_3 rfl ?_
      refine k_aload_n d_Entities_leave_40 rfl ?_
      refine k_getI (x := ((σ.1 3 12) - 1)) d_Entities_leave_41 fl_3_66 ob_3 rfl rfl ?_
      obtain ⟨p7, h⟩ := h
      refine k_ild (x := (σ.2 110 (Int.toNat ((σ.1 3 12) - 1)))) d_Entities_leave_44 rI_110 p7 rfl ?_
      refine k_putI d_Entities_leave_45 fl_3_88 ob_2 rfl ?_
      refine k_aload_n d_Entities_leave_48 rfl ?_
      refine k_getR d_Entities_leave_49 fl_3_15 ob_3 rfl ?_
      refine k_aload_n d_Entities_leave_52 rfl ?_
      refine k_getR d_Entities_leave_53 fl_3_39 ob_3 rfl ?_
      refine k_aload_n d_Entities_leave_56 rfl ?_
      refine k_getI (x := ((σ.1 3 12) - 1)) d_Entities_leave_57 fl_3_66 ob_3 rfl rfl ?_
      obtain ⟨p6, h⟩ := h
      refine k_ild (x := (σ.2 111 (Int.toNat ((σ.1 3 12) - 1)))) d_Entities_leave_60 rI_111 p6 rfl ?_
      refine k_putI d_Entities_leave_61 fl_3_145 ob_2 rfl ?_
      exact k_sb (sb_n sb_nil) (hJ2 () _ h)
theorem d_Content_finish_52 : decode b_Content_finish 52 = .ok (.aload_n 0, 1) := by decide +kernel
theorem d_Content_finish_53 : decode b_Content_finish 53 = .ok (.getfield 31, 3) := by decide +kernel
theorem d_Content_finish_56 : decode b_Content_finish 56 = .ok (.getfield 91, 3) := by decide +kernel
theorem d_Content_finish_59 : decode b_Content_finish 59 = .ok (.aload_n 0, 1) := by decide +kernel
theorem d_Content_finish_60 : decode b_Content_finish 60 = .ok (.getfield 19, 3) := by decide +kernel
theorem d_Content_finish_63 : decode b_Content_finish 63 = .ok (.invokevirtual 112, 3) := by decide +kernel
theorem d_Content_finish_66 : decode b_Content_finish 66 = .ok (.if_icmp .eq 12, 3) := by decide +kernel
theorem d_Content_finish_69 : decode b_Content_finish 69 = .ok (.aload_n 0, 1) := by decide +kernel
theorem d_Content_finish_70 : decode b_Content_finish 70 = .ok (.getfield 15, 3) := by decide +kernel
theorem d_Content_finish_73 : decode b_Content_finish 73 = .ok (.bipush 14, 2) := by decide +kernel
theorem d_Content_finish_75 : decode b_Content_finish 75 = .ok (.invokevirtual 108, 3) := by decide +kernel
theorem d_Content_finish_78 : decode b_Content_finish 78 = .ok (.aload_n 0, 1) := by decide +kernel
theorem d_Content_finish_79 : decode b_Content_finish 79 = .ok (.getfield 19, 3) := by decide +kernel
theorem d_Content_finish_82 : decode b_Content_finish 82 = .ok (.invokevirtual 116, 3) := by decide +kernel
theorem d_Content_finish_85 : decode b_Content_finish 85 = .ok (.iconst 1, 1) := by decide +kernel
theorem d_Content_finish_86 : decode b_Content_finish 86 = .ok (.ireturn, 1) := by decide +kernel
/-- Content_finish -/
def w_Content_finish (L : Nat → Nat)  (Q : Int → IS → Prop) (σ : IS) : Prop := if (σ.1 3 12) = 0 then WJ (fun (s15 : Unit) (σ16 : IS) => Q 0 σ16) (fun J13 => if ¬ (σ.1 5 6) = 0 ∨ (¬ (σ.1 6 3) = (-1) ∨ ((σ.1 6 2) = 0)) then w_Reader_fail L 6 (fun σ17 => J13 () σ17) σ else J13 () σ) else w_Entities_elementBefore L  (fun v3 σ2 => WJ (fun (s6 : Unit) (σ7 : IS) => w_Entities_leave L  (fun σ8 => Q 1 σ8) σ7) (fun J4 => if (σ.1 6 3) = v3 then J4 () σ2 else w_Reader_fail L 14 (fun σ11 => J4 () σ11) σ2)) σ
set_option maxHeartbeats 4000000 in
set_option maxRecDepth 20000 in
theorem s_Content_finish {L : Nat → Nat} (hL : ∀ r, L r < 2147483648) {d : Nat} (hd : 1 ≤ d)  {Q : Int → IS → Prop} {σ : IS}  (h : w_Content_finish L  Q σ) : OkI BF L d 7 b_Content_finish 1 2 0 [] [some (.inr 7)] σ (qi Q) := by
  unfold w_Content_finish at h
  obtain ⟨d, rfl⟩ : ∃ e, d = e + 1 := ⟨d - 1, by omega⟩
  refine k_sb (lv' := [some (.inr 7)]) (sb_s sb_nil) ?_
  refine k_aload_n d_Content_finish_0 rfl ?_
  refine k_getR d_Content_finish_1 fl_7_19 ob_7 rfl ?_
  refine k_getI (x := (σ.1 3 12)) d_Content_finish_4 fl_7_67 ob_3 rfl rfl ?_
  refine k_ifne d_Content_finish_7 rfl (fun c1 => ?_) (fun c1 => ?_)
  · have h := ineg c1 h
    refine k_aload_n d_Content_finish_52 rfl ?_
    refine k_getR d_Content_finish_53 fl_7_31 ob_7 rfl ?_
    refine k_getI (x := (σ.1 6 3)) d_Content_finish_56 fl_7_91 ob_6 rfl rfl ?_
    refine k_aload_n d_Content_finish_59 rfl ?_
    refine k_getR d_Content_finish_60 fl_7_19 ob_7 rfl ?_
    refine k_cvi [] d_Content_finish_63 ml_7_112 rfl rfl ob_3 rfl (s_Entities_elementBefore hL (by omega)  h) (fun v3 σ2 h => ?_)
    refine k_join (S := Unit) (pc' := 78) (st' := fun s6 => []) (lv' := fun s6 => [some (.inr 7)]) (fun s6 σ7 h => ?_) (fun J4 hJ5 h => ?_) h
    · refine k_aload_n d_Content_finish_78 rfl ?_
      refine k_getR d_Content_finish_79 fl_7_19 ob_7 rfl ?_
      refine k_cvv [] d_Content_finish_82 ml_7_116 rfl rfl ob_3 rfl (s_Entities_leave hL (by omega)  h) (fun σ8 h => ?_)
      refine k_iconst d_Content_finish_85 cI_1 ?_
      exact k_iret d_Content_finish_86 (Or.inr ⟨rfl, Or.inr rfl⟩) h
    · refine k_iceq d_Content_finish_66 rfl (fun c10 => ?_) (fun c10 => ?_)
      · have h := ipos c10 h
        exact k_sb (sb_s sb_nil) (hJ5 () _ h)
      · have h := ineg c10 h
        refine k_aload_n d_Content_finish_69 rfl ?_
        refine k_getR d_Content_finish_70 fl_7_15 ob_7 rfl ?_
        refine k_bipush d_Content_finish_73 cB_14 ?_
        refine k_cvv [.inl 14] d_Content_finish_75 ml_7_108 rfl rfl ob_2 rfl (s_Reader_fail hL (by omega)  h) (fun σ11 h => ?_)
        exact k_sb (sb_s sb_nil) (hJ5 () _ h)
  · have h := ipos c1 h
    refine k_aload_n d_Content_finish_10 rfl ?_
    refine k_getR d_Content_finish_11 fl_7_27 ob_7 rfl ?_
    refine k_getI (x := (σ.1 5 6)) d_Content_finish_14 fl_7_82 ob_5 rfl rfl ?_
    refine k_join (S := Unit) (pc' := 50) (st' := fun s15 => []) (lv' := fun s15 => [none]) (fun s15 σ16 h => ?_) (fun J13 hJ14 h => ?_) h
    · refine k_iconst d_Content_finish_50 cI_0 ?_
      exact k_iret d_Content_finish_51 (Or.inr ⟨rfl, Or.inl rfl⟩) h
    · have hX19 : (¬ (σ.1 5 6) = 0 ∨ (¬ (σ.1 6 3) = (-1) ∨ ((σ.1 6 2) = 0))) → OkI BF L (d + 1) 7 b_Content_finish 1 2 41 [] [some (.inr 7)] σ (qi Q) := fun e21 => by
        have h := ipos e21 h
        refine k_aload_n d_Content_finish_41 rfl ?_
        refine k_getR d_Content_finish_42 fl_7_15 ob_7 rfl ?_
        refine k_bipush d_Content_finish_45 cB_6 ?_
        refine k_cvv [.inl 6] d_Content_finish_47 ml_7_108 rfl rfl ob_2 rfl (s_Reader_fail hL (by omega)  h) (fun σ17 h => ?_)
        exact k_sb (sb_n sb_nil) (hJ14 () _ h)
      have hY20 : ¬ (¬ (σ.1 5 6) = 0 ∨ (¬ (σ.1 6 3) = (-1) ∨ ((σ.1 6 2) = 0))) → OkI BF L (d + 1) 7 b_Content_finish 1 2 50 [] [some (.inr 7)] σ (qi Q) := fun e21 => by
        have h := ineg e21 h
        exact k_sb (sb_n sb_nil) (hJ14 () _ h)
      refine k_ifne d_Content_finish_17 rfl (fun c22 => ?_) (fun c22 => ?_)
      · exact hX19 (Or.inl c22)
      · refine k_aload_n d_Content_finish_20 rfl ?_
        refine k_getR d_Content_finish_21 fl_7_31 ob_7 rfl ?_
        refine k_getI (x := (σ.1 6 3)) d_Content_finish_24 fl_7_91 ob_6 rfl rfl ?_
        refine k_iconst d_Content_finish_27 cI_m1 ?_
        refine k_icne d_Content_finish_28 rfl (fun c23 => ?_) (fun c23 => ?_)
        · exact hX19 (Or.inr (Or.inl c23))
        · refine k_aload_n d_Content_finish_31 rfl ?_
          refine k_getR d_Content_finish_32 fl_7_31 ob_7 rfl ?_
          refine k_getI (x := (σ.1 6 2)) d_Content_finish_35 fl_7_105 ob_6 rfl rfl ?_
          refine k_ifne d_Content_finish_38 rfl (fun c24 => ?_) (fun c24 => ?_)
          · exact hY20 (fun z => z.elim (fun y => y c22) (fun z => z.elim (fun y => y c23) (c24)))
          · exact hX19 (Or.inr (Or.inr (c24)))
theorem d_Reader_isNoStart_0 : decode b_Reader_isNoStart 0 = .ok (.iload_n 0, 1) := by decide +kernel
theorem d_Reader_isNoStart_1 : decode b_Reader_isNoStart 1 = .ok (.bipush 45, 2) := by decide +kernel
theorem d_Reader_isNoStart_3 : decode b_Reader_isNoStart 3 = .ok (.if_icmp .eq 56, 3) := by decide +kernel
theorem d_Reader_isNoStart_6 : decode b_Reader_isNoStart 6 = .ok (.iload_n 0, 1) := by decide +kernel
theorem d_Reader_isNoStart_7 : decode b_Reader_isNoStart 7 = .ok (.bipush 46, 2) := by decide +kernel
theorem d_Reader_isNoStart_9 : decode b_Reader_isNoStart 9 = .ok (.if_icmp .eq 50, 3) := by decide +kernel
theorem d_Reader_isNoStart_12 : decode b_Reader_isNoStart 12 = .ok (.iload_n 0, 1) := by decide +kernel
theorem d_Reader_isNoStart_13 : decode b_Reader_isNoStart 13 = .ok (.bipush 48, 2) := by decide +kernel
theorem d_Reader_isNoStart_15 : decode b_Reader_isNoStart 15 = .ok (.if_icmp .lt 9, 3) := by decide +kernel
theorem d_Reader_isNoStart_18 : decode b_Reader_isNoStart 18 = .ok (.iload_n 0, 1) := by decide +kernel
theorem d_Reader_isNoStart_19 : decode b_Reader_isNoStart 19 = .ok (.bipush 57, 2) := by decide +kernel
theorem d_Reader_isNoStart_21 : decode b_Reader_isNoStart 21 = .ok (.if_icmp .le 38, 3) := by decide +kernel
theorem d_Reader_isNoStart_24 : decode b_Reader_isNoStart 24 = .ok (.iload_n 0, 1) := by decide +kernel
theorem d_Reader_isNoStart_25 : decode b_Reader_isNoStart 25 = .ok (.sipush 183, 3) := by decide +kernel
theorem d_Reader_isNoStart_28 : decode b_Reader_isNoStart 28 = .ok (.if_icmp .eq 31, 3) := by decide +kernel
theorem d_Reader_isNoStart_31 : decode b_Reader_isNoStart 31 = .ok (.iload_n 0, 1) := by decide +kernel
theorem d_Reader_isNoStart_32 : decode b_Reader_isNoStart 32 = .ok (.sipush 768, 3) := by decide +kernel
theorem d_Reader_isNoStart_35 : decode b_Reader_isNoStart 35 = .ok (.if_icmp .lt 10, 3) := by decide +kernel
theorem d_Reader_isNoStart_38 : decode b_Reader_isNoStart 38 = .ok (.iload_n 0, 1) := by decide +kernel
theorem d_Reader_isNoStart_39 : decode b_Reader_isNoStart 39 = .ok (.sipush 879, 3) := by decide +kernel
theorem d_Reader_isNoStart_42 : decode b_Reader_isNoStart 42 = .ok (.if_icmp .le 17, 3) := by decide +kernel
theorem d_Reader_isNoStart_45 : decode b_Reader_isNoStart 45 = .ok (.iload_n 0, 1) := by decide +kernel
theorem d_Reader_isNoStart_46 : decode b_Reader_isNoStart 46 = .ok (.sipush 8255, 3) := by decide +kernel
theorem d_Reader_isNoStart_49 : decode b_Reader_isNoStart 49 = .ok (.if_icmp .eq 10, 3) := by decide +kernel
theorem d_Reader_isNoStart_52 : decode b_Reader_isNoStart 52 = .ok (.iload_n 0, 1) := by decide +kernel
theorem d_Reader_isNoStart_53 : decode b_Reader_isNoStart 53 = .ok (.sipush 8256, 3) := by decide +kernel
theorem d_Reader_isNoStart_56 : decode b_Reader_isNoStart 56 = .ok (.if_icmp .ne 7, 3) := by decide +kernel
theorem d_Reader_isNoStart_59 : decode b_Reader_isNoStart 59 = .ok (.iconst 1, 1) := by decide +kernel
theorem d_Reader_isNoStart_60 : decode b_Reader_isNoStart 60 = .ok (.goto 4, 3) := by decide +kernel
theorem d_Reader_isNoStart_63 : decode b_Reader_isNoStart 63 = .ok (.iconst 0, 1) := by decide +kernel
theorem d_Reader_isNoStart_64 : decode b_Reader_isNoStart 64 = .ok (.ireturn, 1) := by decide +kernel
/-- Reader_isNoStart -/
def w_Reader_isNoStart (L : Nat → Nat) (a0 : Int) (Q : Int → IS → Prop) (σ : IS) : Prop := Q (if a0 = 45 then (1 : Int) else (if a0 = 46 then (1 : Int) else (if a0 < 48 then (if a0 = 183 then (1 : Int) else (if a0 < 768 then (if a0 = 8255 then (1 : Int) else (if a0 = 8256 then (1 : Int) else (0 : Int))) else (if 879 < a0 then (if a0 = 8255 then (1 : Int) else (if a0 = 8256 then (1 : Int) else (0 : Int))) else (1 : Int)))) else (if 57 < a0 then (if a0 = 183 then (1 : Int) else (if a0 < 768 then (if a0 = 8255 then (1 : Int) else (if a0 = 8256 then (1 : Int) else (0 : Int))) else (if 879 < a0 then (if a0 = 8255 then (1 : Int) else (if a0 = 8256 then (1 : Int) else (0 : Int))) else (1 : Int)))) else (1 : Int))))) σ
set_option maxHeartbeats 4000000 in
set_option maxRecDepth 20000 in
theorem s_Reader_isNoStart {L : Nat → Nat} (hL : ∀ r, L r < 2147483648) {d : Nat} (hd : 0 ≤ d) {a0 : Int} {Q : Int → IS → Prop} {σ : IS}  (h : w_Reader_isNoStart L a0 Q σ) : OkI BF L d 2 b_Reader_isNoStart 1 2 0 [] [some (.inl a0)] σ (qi Q) := by
  unfold w_Reader_isNoStart at h
  refine k_sb (lv' := [some (.inl a0)]) (sb_s sb_nil) ?_
  refine k_iload_n d_Reader_isNoStart_0 rfl ?_
  refine k_bipush d_Reader_isNoStart_1 cB_45 ?_
  have hV1 : OkI BF L d 2 b_Reader_isNoStart 1 2 64 [.inl (if a0 = 45 then (1 : Int) else (if a0 = 46 then (1 : Int) else (if a0 < 48 then (if a0 = 183 then (1 : Int) else (if a0 < 768 then (if a0 = 8255 then (1 : Int) else (if a0 = 8256 then (1 : Int) else (0 : Int))) else (if 879 < a0 then (if a0 = 8255 then (1 : Int) else (if a0 = 8256 then (1 : Int) else (0 : Int))) else (1 : Int)))) else (if 57 < a0 then (if a0 = 183 then (1 : Int) else (if a0 < 768 then (if a0 = 8255 then (1 : Int) else (if a0 = 8256 then (1 : Int) else (0 : Int))) else (if 879 < a0 then (if a0 = 8255 then (1 : Int) else (if a0 = 8256 then (1 : Int) else (0 : Int))) else (1 : Int)))) else (1 : Int)))))] [some (.inl a0)] σ (qi Q) := by
    exact k_iret d_Reader_isNoStart_64 (Or.inr ⟨rfl, it01 (Or.inr rfl) (it01 (Or.inr rfl) (it01 (it01 (Or.inr rfl) (it01 (it01 (Or.inr rfl) (it01 (Or.inr rfl) (Or.inl rfl))) (it01 (it01 (Or.inr rfl) (it01 (Or.inr rfl) (Or.inl rfl))) (Or.inr rfl)))) (it01 (it01 (Or.inr rfl) (it01 (it01 (Or.inr rfl) (it01 (Or.inr rfl) (Or.inl rfl))) (it01 (it01 (Or.inr rfl) (it01 (Or.inr rfl) (Or.inl rfl))) (Or.inr rfl)))) (Or.inr rfl))))⟩) h
  refine k_iceq d_Reader_isNoStart_3 rfl (fun c2 => ?_) (fun c2 => ?_)
  · have hV3 := k_eqI (if_pos c2) hV1
    refine k_iconst d_Reader_isNoStart_59 cI_1 ?_
    refine k_goto d_Reader_isNoStart_60 rfl ?_
    exact hV3
  · have hV4 := k_eqI (if_neg c2) hV1
    refine k_iload_n d_Reader_isNoStart_6 rfl ?_
    refine k_bipush d_Reader_isNoStart_7 cB_46 ?_
    refine k_iceq d_Reader_isNoStart_9 rfl (fun c5 => ?_) (fun c5 => ?_)
    · have hV6 := k_eqI (if_pos c5) hV4
      refine k_iconst d_Reader_isNoStart_59 cI_1 ?_
      refine k_goto d_Reader_isNoStart_60 rfl ?_
      exact hV6
    · have hV7 := k_eqI (if_neg c5) hV4
      refine k_iload_n d_Reader_isNoStart_12 rfl ?_
      refine k_bipush d_Reader_isNoStart_13 cB_48 ?_
      refine k_iclt d_Reader_isNoStart_15 rfl (fun c8 => ?_) (fun c8 => ?_)
      · have hV9 := k_eqI (if_pos c8) hV7
        refine k_iload_n d_Reader_isNoStart_24 rfl ?_
        refine k_sipush d_Reader_isNoStart_25 cS_183 ?_
        refine k_iceq d_Reader_isNoStart_28 rfl (fun c10 => ?_) (fun c10 => ?_)
        · have hV11 := k_eqI (if_pos c10) hV9
          refine k_iconst d_Reader_isNoStart_59 cI_1 ?_
          refine k_goto d_Reader_isNoStart_60 rfl ?_
          exact hV11
        · have hV12 := k_eqI (if_neg c10) hV9
          refine k_iload_n d_Reader_isNoStart_31 rfl ?_
          refine k_sipush d_Reader_isNoStart_32 cS_768 ?_
          refine k_iclt d_Reader_isNoStart_35 rfl (fun c13 => ?_) (fun c13 => ?_)
          · have hV14 := k_eqI (if_pos c13) hV12
            refine k_iload_n d_Reader_isNoStart_45 rfl ?_
            refine k_sipush d_Reader_isNoStart_46 cS_8255 ?_
            refine k_iceq d_Reader_isNoStart_49 rfl (fun c15 => ?_) (fun c15 => ?_)
            · have hV16 := k_eqI (if_pos c15) hV14
              refine k_iconst d_Reader_isNoStart_59 cI_1 ?_
              refine k_goto d_Reader_isNoStart_60 rfl ?_
              exact hV16
            · have hV17 := k_eqI (if_neg c15) hV14
              refine k_iload_n d_Reader_isNoStart_52 rfl ?_
              refine k_sipush d_Reader_isNoStart_53 cS_8256 ?_
              refine k_icne d_Reader_isNoStart_56 rfl (fun c18 => ?_) (fun c18 => ?_)
              · have hV20 := k_eqI (if_neg c18) hV17
                refine k_iconst d_Reader_isNoStart_63 cI_0 ?_
                exact hV20
              · have hV19 := k_eqI (if_pos c18) hV17
                refine k_iconst d_Reader_isNoStart_59 cI_1 ?_
                refine k_goto d_Reader_isNoStart_60 rfl ?_
                exact hV19
          · have hV21 := k_eqI (if_neg c13) hV12
            refine k_iload_n d_Reader_isNoStart_38 rfl ?_
            refine k_sipush d_Reader_isNoStart_39 cS_879 ?_
            refine k_icle d_Reader_isNoStart_42 rfl (fun c22 => ?_) (fun c22 => ?_)
            · have hV30 := k_eqI (if_neg c22) hV21
              refine k_iconst d_Reader_isNoStart_59 cI_1 ?_
              refine k_goto d_Reader_isNoStart_60 rfl ?_
              exact hV30
            · have hV23 := k_eqI (if_pos c22) hV21
              refine k_iload_n d_Reader_isNoStart_45 rfl ?_
              refine k_sipush d_Reader_isNoStart_46 cS_8255 ?_
              refine k_iceq d_Reader_isNoStart_49 rfl (fun c24 => ?_) (fun c24 => ?_)
              · have hV25 := k_eqI (if_pos c24) hV23
                refine k_iconst d_Reader_isNoStart_59 cI_1 ?_
                refine k_goto d_Reader_isNoStart_60 rfl ?_
                exact hV25
              · have hV26 := k_eqI (if_neg c24) hV23
                refine k_iload_n d_Reader_isNoStart_52 rfl ?_
                refine k_sipush d_Reader_isNoStart_53 cS_8256 ?_
                refine k_icne d_Reader_isNoStart_56 rfl (fun c27 => ?_) (fun c27 => ?_)
                · have hV29 := k_eqI (if_neg c27) hV26
                  refine k_iconst d_Reader_isNoStart_63 cI_0 ?_
                  exact hV29
                · have hV28 := k_eqI (if_pos c27) hV26
                  refine k_iconst d_Reader_isNoStart_59 cI_1 ?_
                  refine k_goto d_Reader_isNoStart_60 rfl ?_
                  exact hV28
      · have hV31 := k_eqI (if_neg c8) hV7
        refine k_iload_n d_Reader_isNoStart_18 rfl ?_
        refine k_bipush d_Reader_isNoStart_19 cB_57 ?_
        refine k_icle d_Reader_isNoStart_21 rfl (fun c32 => ?_) (fun c32 => ?_)
        · have hV55 := k_eqI (if_neg c32) hV31
          refine k_iconst d_Reader_isNoStart_59 cI_1 ?_
          refine k_goto d_Reader_isNoStart_60 rfl ?_
          exact hV55
        · have hV33 := k_eqI (if_pos c32) hV31
          refine k_iload_n d_Reader_isNoStart_24 rfl ?_
          refine k_sipush d_Reader_isNoStart_25 cS_183 ?_
          refine k_iceq d_Reader_isNoStart_28 rfl (fun c34 => ?_) (fun c34 => ?_)
          · have hV35 := k_eqI (if_pos c34) hV33
            refine k_iconst d_Reader_isNoStart_59 cI_1 ?_
            refine k_goto d_Reader_isNoStart_60 rfl ?_
            exact hV35
          · have hV36 := k_eqI (if_neg c34) hV33
            refine k_iload_n d_Reader_isNoStart_31 rfl ?_
            refine k_sipush d_Reader_isNoStart_32 cS_768 ?_
            refine k_iclt d_Reader_isNoStart_35 rfl (fun c37 => ?_) (fun c37 => ?_)
            · have hV38 := k_eqI (if_pos c37) hV36
              refine k_iload_n d_Reader_isNoStart_45 rfl ?_
              refine k_sipush d_Reader_isNoStart_46 cS_8255 ?_
              refine k_iceq d_Reader_isNoStart_49 rfl (fun c39 => ?_) (fun c39 => ?_)
              · have hV40 := k_eqI (if_pos c39) hV38
                refine k_iconst d_Reader_isNoStart_59 cI_1 ?_
                refine k_goto d_Reader_isNoStart_60 rfl ?_
                exact hV40
              · have hV41 := k_eqI (if_neg c39) hV38
                refine k_iload_n d_Reader_isNoStart_52 rfl ?_
                refine k_sipush d_Reader_isNoStart_53 cS_8256 ?_
                refine k_icne d_Reader_isNoStart_56 rfl (fun c42 => ?_) (fun c42 => ?_)
                · have hV44 := k_eqI (if_neg c42) hV41
                  refine k_iconst d_Reader_isNoStart_63 cI_0 ?_
                  exact hV44
                · have hV43 := k_eqI (if_pos c42) hV41
                  refine k_iconst d_Reader_isNoStart_59 cI_1 ?_
                  refine k_goto d_Reader_isNoStart_60 rfl ?_
                  exact hV43
            · have hV45 := k_eqI (if_neg c37) hV36
              refine k_iload_n d_Reader_isNoStart_38 rfl ?_
              refine k_sipush d_Reader_isNoStart_39 cS_879 ?_
              refine k_icle d_Reader_isNoStart_42 rfl (fun c46 => ?_) (fun c46 => ?_)
              · have hV54 := k_eqI (if_neg c46) hV45
                refine k_iconst d_Reader_isNoStart_59 cI_1 ?_
                refine k_goto d_Reader_isNoStart_60 rfl ?_
                exact hV54
              · have hV47 := k_eqI (if_pos c46) hV45
                refine k_iload_n d_Reader_isNoStart_45 rfl ?_
                refine k_sipush d_Reader_isNoStart_46 cS_8255 ?_
                refine k_iceq d_Reader_isNoStart_49 rfl (fun c48 => ?_) (fun c48 => ?_)
                · have hV49 := k_eqI (if_pos c48) hV47
                  refine k_iconst d_Reader_isNoStart_59 cI_1 ?_
                  refine k_goto d_Reader_isNoStart_60 rfl ?_
                  exact hV49
                · have hV50 := k_eqI (if_neg c48) hV47
                  refine k_iload_n d_Reader_isNoStart_52 rfl ?_
                  refine k_sipush d_Reader_isNoStart_53 cS_8256 ?_
                  refine k_icne d_Reader_isNoStart_56 rfl (fun c51 => ?_) (fun c51 => ?_)
                  · have hV53 := k_eqI (if_neg c51) hV50
                    refine k_iconst d_Reader_isNoStart_63 cI_0 ?_
                    exact hV53
                  · have hV52 := k_eqI (if_pos c51) hV50
                    refine k_iconst d_Reader_isNoStart_59 cI_1 ?_
                    refine k_goto d_Reader_isNoStart_60 rfl ?_
                    exact hV52
theorem d_Reader_isNameCharacter_0 : decode b_Reader_isNameCharacter 0 = .ok (.iload_n 0, 1) := by decide +kernel
theorem d_Reader_isNameCharacter_1 : decode b_Reader_isNameCharacter 1 = .ok (.sipush 128, 3) := by decide +kernel
theorem d_Reader_isNameCharacter_4 : decode b_Reader_isNameCharacter 4 = .ok (.if_icmp .ge 69, 3) := by decide +kernel
theorem d_Reader_isNameCharacter_7 : decode b_Reader_isNameCharacter 7 = .ok (.iload_n 0, 1) := by decide +kernel
theorem d_Reader_isNameCharacter_8 : decode b_Reader_isNameCharacter 8 = .ok (.bipush 97, 2) := by decide +kernel
theorem d_Reader_isNameCharacter_10 : decode b_Reader_isNameCharacter 10 = .ok (.if_icmp .lt 9, 3) := by decide +kernel
theorem d_Reader_isNameCharacter_13 : decode b_Reader_isNameCharacter 13 = .ok (.iload_n 0, 1) := by decide +kernel
theorem d_Reader_isNameCharacter_14 : decode b_Reader_isNameCharacter 14 = .ok (.bipush 122, 2) := by decide +kernel
theorem d_Reader_isNameCharacter_16 : decode b_Reader_isNameCharacter 16 = .ok (.if_icmp .le 51, 3) := by decide +kernel
theorem d_Reader_isNameCharacter_19 : decode b_Reader_isNameCharacter 19 = .ok (.iload_n 0, 1) := by decide +kernel
theorem d_Reader_isNameCharacter_20 : decode b_Reader_isNameCharacter 20 = .ok (.bipush 65, 2) := by decide +kernel
theorem d_Reader_isNameCharacter_22 : decode b_Reader_isNameCharacter 22 = .ok (.if_icmp .lt 9, 3) := by decide +kernel
theorem d_Reader_isNameCharacter_25 : decode b_Reader_isNameCharacter 25 = .ok (.iload_n 0, 1) := by decide +kernel
theorem d_Reader_isNameCharacter_26 : decode b_Reader_isNameCharacter 26 = .ok (.bipush 90, 2) := by decide +kernel
theorem d_Reader_isNameCharacter_28 : decode b_Reader_isNameCharacter 28 = .ok (.if_icmp .le 39, 3) := by decide +kernel
theorem d_Reader_isNameCharacter_31 : decode b_Reader_isNameCharacter 31 = .ok (.iload_n 0, 1) := by decide +kernel
theorem d_Reader_isNameCharacter_32 : decode b_Reader_isNameCharacter 32 = .ok (.bipush 48, 2) := by decide +kernel
theorem d_Reader_isNameCharacter_34 : decode b_Reader_isNameCharacter 34 = .ok (.if_icmp .lt 9, 3) := by decide +kernel
theorem d_Reader_isNameCharacter_37 : decode b_Reader_isNameCharacter 37 = .ok (.iload_n 0, 1) := by decide +kernel
theorem d_Reader_isNameCharacter_38 : decode b_Reader_isNameCharacter 38 = .ok (.bipush 57, 2) := by decide +kernel
theorem d_Reader_isNameCharacter_40 : decode b_Reader_isNameCharacter 40 = .ok (.if_icmp .le 27, 3) := by decide +kernel
theorem d_Reader_isNameCharacter_43 : decode b_Reader_isNameCharacter 43 = .ok (.iload_n 0, 1) := by decide +kernel
theorem d_Reader_isNameCharacter_44 : decode b_Reader_isNameCharacter 44 = .ok (.bipush 58, 2) := by decide +kernel
theorem d_Reader_isNameCharacter_46 : decode b_Reader_isNameCharacter 46 = .ok (.if_icmp .eq 21, 3) := by decide +kernel
theorem d_Reader_isNameCharacter_49 : decode b_Reader_isNameCharacter 49 = .ok (.iload_n 0, 1) := by decide +kernel
theorem d_Reader_isNameCharacter_50 : decode b_Reader_isNameCharacter 50 = .ok (.bipush 95, 2) := by decide +kernel
theorem d_Reader_isNameCharacter_52 : decode b_Reader_isNameCharacter 52 = .ok (.if_icmp .eq 15, 3) := by decide +kernel
theorem d_Reader_isNameCharacter_55 : decode b_Reader_isNameCharacter 55 = .ok (.iload_n 0, 1) := by decide +kernel
theorem d_Reader_isNameCharacter_56 : decode b_Reader_isNameCharacter 56 = .ok (.bipush 45, 2) := by decide +kernel
theorem d_Reader_isNameCharacter_58 : decode b_Reader_isNameCharacter 58 = .ok (.if_icmp .eq 9, 3) := by decide +kernel
theorem d_Reader_isNameCharacter_61 : decode b_Reader_isNameCharacter 61 = .ok (.iload_n 0, 1) := by decide +kernel
theorem d_Reader_isNameCharacter_62 : decode b_Reader_isNameCharacter 62 = .ok (.bipush 46, 2) := by decide +kernel
theorem d_Reader_isNameCharacter_64 : decode b_Reader_isNameCharacter 64 = .ok (.if_icmp .ne 7, 3) := by decide +kernel
theorem d_Reader_isNameCharacter_67 : decode b_Reader_isNameCharacter 67 = .ok (.iconst 1, 1) := by decide +kernel
theorem d_Reader_isNameCharacter_68 : decode b_Reader_isNameCharacter 68 = .ok (.goto 4, 3) := by decide +kernel
theorem d_Reader_isNameCharacter_71 : decode b_Reader_isNameCharacter 71 = .ok (.iconst 0, 1) := by decide +kernel
theorem d_Reader_isNameCharacter_72 : decode b_Reader_isNameCharacter 72 = .ok (.ireturn, 1) := by decide +kernel
theorem d_Reader_isNameCharacter_73 : decode b_Reader_isNameCharacter 73 = .ok (.iload_n 0, 1) := by decide +kernel
theorem d_Reader_isNameCharacter_74 : decode b_Reader_isNameCharacter 74 = .ok (.sipush 183, 3) := by decide +kernel
theorem d_Reader_isNameCharacter_77 : decode b_Reader_isNameCharacter 77 = .ok (.if_icmp .eq 31, 3) := by decide +kernel
theorem d_Reader_isNameCharacter_80 : decode b_Reader_isNameCharacter 80 = .ok (.iload_n 0, 1) := by decide +kernel
theorem d_Reader_isNameCharacter_81 : decode b_Reader_isNameCharacter 81 = .ok (.sipush 768, 3) := by decide +kernel
theorem d_Reader_isNameCharacter_84 : decode b_Reader_isNameCharacter 84 = .ok (.if_icmp .lt 10, 3) := by decide +kernel
theorem d_Reader_isNameCharacter_87 : decode b_Reader_isNameCharacter 87 = .ok (.iload_n 0, 1) := by decide +kernel
theorem d_Reader_isNameCharacter_88 : decode b_Reader_isNameCharacter 88 = .ok (.sipush 879, 3) := by decide +kernel
theorem d_Reader_isNameCharacter_91 : decode b_Reader_isNameCharacter 91 = .ok (.if_icmp .le 17, 3) := by decide +kernel
theorem d_Reader_isNameCharacter_94 : decode b_Reader_isNameCharacter 94 = .ok (.iload_n 0, 1) := by decide +kernel
theorem d_Reader_isNameCharacter_95 : decode b_Reader_isNameCharacter 95 = .ok (.sipush 8255, 3) := by decide +kernel
theorem d_Reader_isNameCharacter_98 : decode b_Reader_isNameCharacter 98 = .ok (.if_icmp .eq 10, 3) := by decide +kernel
theorem d_Reader_isNameCharacter_101 : decode b_Reader_isNameCharacter 101 = .ok (.iload_n 0, 1) := by decide +kernel
theorem d_Reader_isNameCharacter_102 : decode b_Reader_isNameCharacter 102 = .ok (.sipush 8256, 3) := by decide +kernel
theorem d_Reader_isNameCharacter_105 : decode b_Reader_isNameCharacter 105 = .ok (.if_icmp .ne 5, 3) := by decide +kernel
theorem d_Reader_isNameCharacter_108 : decode b_Reader_isNameCharacter 108 = .ok (.iconst 1, 1) := by decide +kernel
theorem d_Reader_isNameCharacter_109 : decode b_Reader_isNameCharacter 109 = .ok (.ireturn, 1) := by decide +kernel
theorem d_Reader_isNameCharacter_110 : decode b_Reader_isNameCharacter 110 = .ok (.iconst 0, 1) := by decide +kernel
theorem d_Reader_isNameCharacter_111 : decode b_Reader_isNameCharacter 111 = .ok (.istore_n 1, 1) := by decide +kernel
theorem d_Reader_isNameCharacter_112 : decode b_Reader_isNameCharacter 112 = .ok (.iload_n 1, 1) := by decide +kernel
theorem d_Reader_isNameCharacter_113 : decode b_Reader_isNameCharacter 113 = .ok (.iconst 1, 1) := by decide +kernel
theorem d_Reader_isNameCharacter_114 : decode b_Reader_isNameCharacter 114 = .ok (.iadd, 1) := by decide +kernel
theorem d_Reader_isNameCharacter_115 : decode b_Reader_isNameCharacter 115 = .ok (.getstatic 49, 3) := by decide +kernel
theorem d_Reader_isNameCharacter_118 : decode b_Reader_isNameCharacter 118 = .ok (.arraylength, 1) := by decide +kernel
theorem d_Reader_isNameCharacter_119 : decode b_Reader_isNameCharacter 119 = .ok (.if_icmp .ge 31, 3) := by decide +kernel
theorem d_Reader_isNameCharacter_122 : decode b_Reader_isNameCharacter 122 = .ok (.iload_n 0, 1) := by decide +kernel
theorem d_Reader_isNameCharacter_123 : decode b_Reader_isNameCharacter 123 = .ok (.getstatic 49, 3) := by decide +kernel
theorem d_Reader_isNameCharacter_126 : decode b_Reader_isNameCharacter 126 = .ok (.iload_n 1, 1) := by decide +kernel
theorem d_Reader_isNameCharacter_127 : decode b_Reader_isNameCharacter 127 = .ok (.iaload, 1) := by decide +kernel
theorem d_Reader_isNameCharacter_128 : decode b_Reader_isNameCharacter 128 = .ok (.if_icmp .lt 16, 3) := by decide +kernel
theorem d_Reader_isNameCharacter_131 : decode b_Reader_isNameCharacter 131 = .ok (.iload_n 0, 1) := by decide +kernel
theorem d_Reader_isNameCharacter_132 : decode b_Reader_isNameCharacter 132 = .ok (.getstatic 49, 3) := by decide +kernel
theorem d_Reader_isNameCharacter_135 : decode b_Reader_isNameCharacter 135 = .ok (.iload_n 1, 1) := by decide +kernel
theorem d_Reader_isNameCharacter_136 : decode b_Reader_isNameCharacter 136 = .ok (.iconst 1, 1) := by decide +kernel
theorem d_Reader_isNameCharacter_137 : decode b_Reader_isNameCharacter 137 = .ok (.iadd, 1) := by decide +kernel
theorem d_Reader_isNameCharacter_138 : decode b_Reader_isNameCharacter 138 = .ok (.iaload, 1) := by decide +kernel
theorem d_Reader_isNameCharacter_139 : decode b_Reader_isNameCharacter 139 = .ok (.if_icmp .gt 5, 3) := by decide +kernel
theorem d_Reader_isNameCharacter_142 : decode b_Reader_isNameCharacter 142 = .ok (.iconst 1, 1) := by decide +kernel
theorem d_Reader_isNameCharacter_143 : decode b_Reader_isNameCharacter 143 = .ok (.ireturn, 1) := by decide +kernel
theorem d_Reader_isNameCharacter_144 : decode b_Reader_isNameCharacter 144 = .ok (.iinc 1 2, 3) := by decide +kernel
theorem d_Reader_isNameCharacter_147 : decode b_Reader_isNameCharacter 147 = .ok (.goto (-35), 3) := by decide +kernel
theorem d_Reader_isNameCharacter_150 : decode b_Reader_isNameCharacter 150 = .ok (.iconst 0, 1) := by decide +kernel
theorem d_Reader_isNameCharacter_151 : decode b_Reader_isNameCharacter 151 = .ok (.ireturn, 1) := by decide +kernel
/-- Reader_isNameCharacter -/
def w_Reader_isNameCharacter (L : Nat → Nat) (a0 : Int) (Q : Int → IS → Prop) (σ : IS) : Prop := if a0 < 128 then Q (if a0 < 97 then (if a0 < 65 then (if a0 < 48 then (if a0 = 58 then (1 : Int) else (if a0 = 95 then (1 : Int) else (if a0 = 45 then (1 : Int) else (if a0 = 46 then (1 : Int) else (0 : Int))))) else (if 57 < a0 then (if a0 = 58 then (1 : Int) else (if a0 = 95 then (1 : Int) else (if a0 = 45 then (1 : Int) else (if a0 = 46 then (1 : Int) else (0 : Int))))) else (1 : Int))) else (if 90 < a0 then (if a0 < 48 then (if a0 = 58 then (1 : Int) else (if a0 = 95 then (1 : Int) else (if a0 = 45 then (1 : Int) else (if a0 = 46 then (1 : Int) else (0 : Int))))) else (if 57 < a0 then (if a0 = 58 then (1 : Int) else (if a0 = 95 then (1 : Int) else (if a0 = 45 then (1 : Int) else (if a0 = 46 then (1 : Int) else (0 : Int))))) else (1 : Int))) else (1 : Int))) else (if 122 < a0 then (if a0 < 65 then (if a0 < 48 then (if a0 = 58 then (1 : Int) else (if a0 = 95 then (1 : Int) else (if a0 = 45 then (1 : Int) else (if a0 = 46 then (1 : Int) else (0 : Int))))) else (if 57 < a0 then (if a0 = 58 then (1 : Int) else (if a0 = 95 then (1 : Int) else (if a0 = 45 then (1 : Int) else (if a0 = 46 then (1 : Int) else (0 : Int))))) else (1 : Int))) else (if 90 < a0 then (if a0 < 48 then (if a0 = 58 then (1 : Int) else (if a0 = 95 then (1 : Int) else (if a0 = 45 then (1 : Int) else (if a0 = 46 then (1 : Int) else (0 : Int))))) else (if 57 < a0 then (if a0 = 58 then (1 : Int) else (if a0 = 95 then (1 : Int) else (if a0 = 45 then (1 : Int) else (if a0 = 46 then (1 : Int) else (0 : Int))))) else (1 : Int))) else (1 : Int))) else (1 : Int))) σ else WJ (fun (s4 : Unit) (σ5 : IS) => Q 1 σ5) (fun J2 => if a0 = 183 then J2 () σ else if (a0 < 768 ∧ (¬ a0 = 8255 ∧ (¬ a0 = 8256))) ∨ (¬ a0 < 768 ∧ (879 < a0 ∧ (¬ a0 = 8255 ∧ (¬ a0 = 8256)))) then WL (fun (K7 : Int → IS → Prop) (s9 : Int) (σ10 : IS) => inR (s9 + 1) ∧ if (s9 + 1) < (srN 2001) then ((0 : Int) ≤ s9 ∧ s9 < srN 2001) ∧ ((¬ a0 < (srI 2001 s9) → (inR (s9 + 1) ∧ ((0 : Int) ≤ (s9 + 1) ∧ (s9 + 1) < srN 2001)))) ∧ if ¬ a0 < (srI 2001 s9) ∧ (¬ (srI 2001 (s9 + 1)) < a0) then Q 1 σ10 else inR (s9 + 2) ∧ K7 (s9 + 2) σ10 else Q 0 σ10) 0 σ else J2 () σ)
set_option maxHeartbeats 4000000 in
set_option maxRecDepth 20000 in
theorem s_Reader_isNameCharacter {L : Nat → Nat} (hL : ∀ r, L r < 2147483648) {d : Nat} (hd : 0 ≤ d) {a0 : Int} {Q : Int → IS → Prop} {σ : IS}  (h : w_Reader_isNameCharacter L a0 Q σ) : OkI BF L d 2 b_Reader_isNameCharacter 2 2 0 [] [some (.inl a0)] σ (qi Q) := by
  unfold w_Reader_isNameCharacter at h
  refine k_sb (lv' := [some (.inl a0), none]) (sb_s (sb_e sb_nil)) ?_
  refine k_iload_n d_Reader_isNameCharacter_0 rfl ?_
  refine k_sipush d_Reader_isNameCharacter_1 cS_128 ?_
  refine k_icge d_Reader_isNameCharacter_4 rfl (fun c1 => ?_) (fun c1 => ?_)
  · have h := ineg c1 h
    refine k_iload_n d_Reader_isNameCharacter_73 rfl ?_
    refine k_sipush d_Reader_isNameCharacter_74 cS_183 ?_
    refine k_join (S := Unit) (pc' := 108) (st' := fun s4 => []) (lv' := fun s4 => [none, none]) (fun s4 σ5 h => ?_) (fun J2 hJ3 h => ?_) h
    · refine k_iconst d_Reader_isNameCharacter_108 cI_1 ?_
      exact k_iret d_Reader_isNameCharacter_109 (Or.inr ⟨rfl, Or.inr rfl⟩) h
    · refine k_iceq d_Reader_isNameCharacter_77 rfl (fun c6 => ?_) (fun c6 => ?_)
      · have h := ipos c6 h
        exact k_sb (sb_n (sb_s sb_nil)) (hJ3 () _ h)
      · have h := ineg c6 h
        refine k_iload_n d_Reader_isNameCharacter_80 rfl ?_
        refine k_sipush d_Reader_isNameCharacter_81 cS_768 ?_
        have hX24 : ((a0 < 768 ∧ (¬ a0 = 8255 ∧ (¬ a0 = 8256))) ∨ (¬ a0 < 768 ∧ (879 < a0 ∧ (¬ a0 = 8255 ∧ (¬ a0 = 8256))))) → OkI BF L d 2 b_Reader_isNameCharacter 2 2 110 [] [some (.inl a0), none] σ (qi Q) := fun e26 => by
          have h := ipos e26 h
          refine k_iconst d_Reader_isNameCharacter_110 cI_0 ?_
          refine k_istore_n (lv' := [some (.inl a0), some (.inl 0)]) d_Reader_isNameCharacter_111 rfl rfl ?_
          refine k_sb (lv' := [some (.inl a0), some (.inl 0)]) (sb_s (sb_s sb_nil)) ?_
          refine k_loop (S := Int) (st := fun _ => []) (lv := fun s9 => [some (.inl a0), some (.inl s9)]) (fun K7 hK8 s9 σ10 h => ?_) 0 _ h
          refine k_iload_n d_Reader_isNameCharacter_112 rfl ?_
          refine k_iconst d_Reader_isNameCharacter_113 cI_1 ?_
          obtain ⟨p23, h⟩ := h
          refine k_iadd d_Reader_isNameCharacter_114 p23 ?_
          refine k_getS d_Reader_isNameCharacter_115 rfl ?_
          refine k_lenS d_Reader_isNameCharacter_118 (by decide) rfl (by decide) ?_
          refine k_icge d_Reader_isNameCharacter_119 rfl (fun c11 => ?_) (fun c11 => ?_)
          · have h := ineg c11 h
            refine k_iconst d_Reader_isNameCharacter_150 cI_0 ?_
            exact k_iret d_Reader_isNameCharacter_151 (Or.inr ⟨rfl, Or.inl rfl⟩) h
          · have h := ipos c11 h
            refine k_iload_n d_Reader_isNameCharacter_122 rfl ?_
            refine k_getS d_Reader_isNameCharacter_123 rfl ?_
            refine k_iload_n d_Reader_isNameCharacter_126 rfl ?_
            obtain ⟨p22, h⟩ := h
            refine k_ldS d_Reader_isNameCharacter_127 ⟨by decide, rfl⟩ p22 ?_
            obtain ⟨pt18, h⟩ := h
            have hX15 : (¬ a0 < (srI 2001 s9) ∧ (¬ (srI 2001 (s9 + 1)) < a0)) → OkI BF L d 2 b_Reader_isNameCharacter 2 2 142 [] [some (.inl a0), some (.inl s9)] σ10 (qi Q) := fun e17 => by
              have h := ipos e17 h
              refine k_iconst d_Reader_isNameCharacter_142 cI_1 ?_
              exact k_iret d_Reader_isNameCharacter_143 (Or.inr ⟨rfl, Or.inr rfl⟩) h
            have hY16 : ¬ (¬ a0 < (srI 2001 s9) ∧ (¬ (srI 2001 (s9 + 1)) < a0)) → OkI BF L d 2 b_Reader_isNameCharacter 2 2 144 [] [some (.inl a0), some (.inl s9)] σ10 (qi Q) := fun e17 => by
              have h := ineg e17 h
              obtain ⟨p14, h⟩ := h
              refine k_iinc (lv' := [some (.inl a0), some (.inl (s9 + 2))]) d_Reader_isNameCharacter_144 cI_2 rfl rfl p14 rfl ?_
              refine k_goto d_Reader_isNameCharacter_147 rfl ?_
              exact k_sb (sb_s (sb_s sb_nil)) (hK8 (s9 + 2) _ h)
            have pb19 := pt18
            refine k_iclt d_Reader_isNameCharacter_128 rfl (fun c20 => ?_) (fun c20 => ?_)
            · exact hY16 (fun z => z.1 c20)
            · have pb19 := pb19 c20
              obtain ⟨p12, p13⟩ := pb19
              refine k_iload_n d_Reader_isNameCharacter_131 rfl ?_
              refine k_getS d_Reader_isNameCharacter_132 rfl ?_
              refine k_iload_n d_Reader_isNameCharacter_135 rfl ?_
              refine k_iconst d_Reader_isNameCharacter_136 cI_1 ?_
              refine k_iadd d_Reader_isNameCharacter_137 p12 ?_
              refine k_ldS d_Reader_isNameCharacter_138 ⟨by decide, rfl⟩ p13 ?_
              refine k_icgt d_Reader_isNameCharacter_139 rfl (fun c21 => ?_) (fun c21 => ?_)
              · exact hY16 (fun z => (fun z => z c21) z.2)
              · exact hX15 (⟨c20, c21⟩)
        have hY25 : ¬ ((a0 < 768 ∧ (¬ a0 = 8255 ∧ (¬ a0 = 8256))) ∨ (¬ a0 < 768 ∧ (879 < a0 ∧ (¬ a0 = 8255 ∧ (¬ a0 = 8256))))) → OkI BF L d 2 b_Reader_isNameCharacter 2 2 108 [] [some (.inl a0), none] σ (qi Q) := fun e26 => by
          have h := ineg e26 h
          exact k_sb (sb_n (sb_s sb_nil)) (hJ3 () _ h)
        refine k_iclt d_Reader_isNameCharacter_84 rfl (fun c27 => ?_) (fun c27 => ?_)
        · refine k_iload_n d_Reader_isNameCharacter_94 rfl ?_
          refine k_sipush d_Reader_isNameCharacter_95 cS_8255 ?_
          refine k_iceq d_Reader_isNameCharacter_98 rfl (fun c28 => ?_) (fun c28 => ?_)
          · exact hY25 (fun z => z.elim (fun y => (fun z => z.1 c28) y.2) (fun y => y.1 c27))
          · refine k_iload_n d_Reader_isNameCharacter_101 rfl ?_
            refine k_sipush d_Reader_isNameCharacter_102 cS_8256 ?_
            refine k_icne d_Reader_isNameCharacter_105 rfl (fun c29 => ?_) (fun c29 => ?_)
            · exact hX24 (Or.inl ⟨c27, ⟨c28, c29⟩⟩)
            · exact hY25 (fun z => z.elim (fun y => (fun z => (fun z => z c29) z.2) y.2) (fun y => y.1 c27))
        · refine k_iload_n d_Reader_isNameCharacter_87 rfl ?_
          refine k_sipush d_Reader_isNameCharacter_88 cS_879 ?_
          refine k_icle d_Reader_isNameCharacter_91 rfl (fun c30 => ?_) (fun c30 => ?_)
          · exact hY25 (fun z => z.elim (fun y => c27 y.1) (fun y => (fun z => c30 z.1) y.2))
          · refine k_iload_n d_Reader_isNameCharacter_94 rfl ?_
            refine k_sipush d_Reader_isNameCharacter_95 cS_8255 ?_
            refine k_iceq d_Reader_isNameCharacter_98 rfl (fun c31 => ?_) (fun c31 => ?_)
            · exact hY25 (fun z => z.elim (fun y => c27 y.1) (fun y => (fun z => (fun z => z.1 c31) z.2) y.2))
            · refine k_iload_n d_Reader_isNameCharacter_101 rfl ?_
              refine k_sipush d_Reader_isNameCharacter_102 cS_8256 ?_
              refine k_icne d_Reader_isNameCharacter_105 rfl (fun c32 => ?_) (fun c32 => ?_)
              · exact hX24 (Or.inr ⟨c27, ⟨c30, ⟨c31, c32⟩⟩⟩)
              · exact hY25 (fun z => z.elim (fun y => c27 y.1) (fun y => (fun z => (fun z => (fun z => z c32) z.2) z.2) y.2))
  · have h := ipos c1 h
    refine k_iload_n d_Reader_isNameCharacter_7 rfl ?_
    refine k_bipush d_Reader_isNameCharacter_8 cB_97 ?_
    have hV33 : OkI BF L d 2 b_Reader_isNameCharacter 2 2 72 [.inl (if a0 < 97 then (if a0 < 65 then (if a0 < 48 then (if a0 = 58 then (1 : Int) else (if a0 = 95 then (1 : Int) else (if a0 = 45 then (1 : Int) else (if a0 = 46 then (1 : Int) else (0 : Int))))) else (if 57 < a0 then (if a0 = 58 then (1 : Int) else (if a0 = 95 then (1 : Int) else (if a0 = 45 then (1 : Int) else (if a0 = 46 then (1 : Int) else (0 : Int))))) else (1 : Int))) else (if 90 < a0 then (if a0 < 48 then (if a0 = 58 then (1 : Int) else (if a0 = 95 then (1 : Int) else (if a0 = 45 then (1 : Int) else (if a0 = 46 then (1 : Int) else (0 : Int))))) else (if 57 < a0 then (if a0 = 58 then (1 : Int) else (if a0 = 95 then (1 : Int) else (if a0 = 45 then (1 : Int) else (if a0 = 46 then (1 : Int) else (0 : Int))))) else (1 : Int))) else (1 : Int))) else (if 122 < a0 then (if a0 < 65 then (if a0 < 48 then (if a0 = 58 then (1 : Int) else (if a0 = 95 then (1 : Int) else (if a0 = 45 then (1 : Int) else (if a0 = 46 then (1 : Int) else (0 : Int))))) else (if 57 < a0 then (if a0 = 58 then (1 : Int) else (if a0 = 95 then (1 : Int) else (if a0 = 45 then (1 : Int) else (if a0 = 46 then (1 : Int) else (0 : Int))))) else (1 : Int))) else (if 90 < a0 then (if a0 < 48 then (if a0 = 58 then (1 : Int) else (if a0 = 95 then (1 : Int) else (if a0 = 45 then (1 : Int) else (if a0 = 46 then (1 : Int) else (0 : Int))))) else (if 57 < a0 then (if a0 = 58 then (1 : Int) else (if a0 = 95 then (1 : Int) else (if a0 = 45 then (1 : Int) else (if a0 = 46 then (1 : Int) else (0 : Int))))) else (1 : Int))) else (1 : Int))) else (1 : Int)))] [some (.inl a0), none] σ (qi Q) := by
      exact k_iret d_Reader_isNameCharacter_72 (Or.inr ⟨rfl, it01 (it01 (it01 (it01 (Or.inr rfl) (it01 (Or.inr rfl) (it01 (Or.inr rfl) (it01 (Or.inr rfl) (Or.inl rfl))))) (it01 (it01 (Or.inr rfl) (it01 (Or.inr rfl) (it01 (Or.inr rfl) (it01 (Or.inr rfl) (Or.inl rfl))))) (Or.inr rfl))) (it01 (it01 (it01 (Or.inr rfl) (it01 (Or.inr rfl) (it01 (Or.inr rfl) (it01 (Or.inr rfl) (Or.inl rfl))))) (it01 (it01 (Or.inr rfl) (it01 (Or.inr rfl) (it01 (Or.inr rfl) (it01 (Or.inr rfl) (Or.inl rfl))))) (Or.inr rfl))) (Or.inr rfl))) (it01 (it01 (it01 (it01 (Or.inr rfl) (it01 (Or.inr rfl) (it01 (Or.inr rfl) (it01 (Or.inr rfl) (Or.inl rfl))))) (it01 (it01 (Or.inr rfl) (it01 (Or.inr rfl) (it01 (Or.inr rfl) (it01 (Or.inr rfl) (Or.inl rfl))))) (Or.inr rfl))) (it01 (it01 (it01 (Or.inr rfl) (it01 (Or.inr rfl) (it01 (Or.inr rfl) (it01 (Or.inr rfl) (Or.inl rfl))))) (it01 (it01 (Or.inr rfl) (it01 (Or.inr rfl) (it01 (Or.inr rfl) (it01 (Or.inr rfl) (Or.inl rfl))))) (Or.inr rfl))) (Or.inr rfl))) (Or.inr rfl))⟩) h
    refine k_iclt d_Reader_isNameCharacter_10 rfl (fun c34 => ?_) (fun c34 => ?_)
    · have hV35 := k_eqI (if_pos c34) hV33
      refine k_iload_n d_Reader_isNameCharacter_19 rfl ?_
      refine k_bipush d_Reader_isNameCharacter_20 cB_65 ?_
      refine k_iclt d_Reader_isNameCharacter_22 rfl (fun c36 => ?_) (fun c36 => ?_)
      · have hV37 := k_eqI (if_pos c36) hV35
        refine k_iload_n d_Reader_isNameCharacter_31 rfl ?_
        refine k_bipush d_Reader_isNameCharacter_32 cB_48 ?_
        refine k_iclt d_Reader_isNameCharacter_34 rfl (fun c38 => ?_) (fun c38 => ?_)
        · have hV39 := k_eqI (if_pos c38) hV37
          refine k_iload_n d_Reader_isNameCharacter_43 rfl ?_
          refine k_bipush d_Reader_isNameCharacter_44 cB_58 ?_
          refine k_iceq d_Reader_isNameCharacter_46 rfl (fun c40 => ?_) (fun c40 => ?_)
          · have hV41 := k_eqI (if_pos c40) hV39
            refine k_iconst d_Reader_isNameCharacter_67 cI_1 ?_
            refine k_goto d_Reader_isNameCharacter_68 rfl ?_
            exact hV41
          · have hV42 := k_eqI (if_neg c40) hV39
            refine k_iload_n d_Reader_isNameCharacter_49 rfl ?_
            refine k_bipush d_Reader_isNameCharacter_50 cB_95 ?_
            refine k_iceq d_Reader_isNameCharacter_52 rfl (fun c43 => ?_) (fun c43 => ?_)
            · have hV44 := k_eqI (if_pos c43) hV42
              refine k_iconst d_Reader_isNameCharacter_67 cI_1 ?_
              refine k_goto d_Reader_isNameCharacter_68 rfl ?_
              exact hV44
            · have hV45 := k_eqI (if_neg c43) hV42
              refine k_iload_n d_Reader_isNameCharacter_55 rfl ?_
              refine k_bipush d_Reader_isNameCharacter_56 cB_45 ?_
              refine k_iceq d_Reader_isNameCharacter_58 rfl (fun c46 => ?_) (fun c46 => ?_)
              · have hV47 := k_eqI (if_pos c46) hV45
                refine k_iconst d_Reader_isNameCharacter_67 cI_1 ?_
                refine k_goto d_Reader_isNameCharacter_68 rfl ?_
                exact hV47
              · have hV48 := k_eqI (if_neg c46) hV45
                refine k_iload_n d_Reader_isNameCharacter_61 rfl ?_
                refine k_bipush d_Reader_isNameCharacter_62 cB_46 ?_
                refine k_icne d_Reader_isNameCharacter_64 rfl (fun c49 => ?_) (fun c49 => ?_)
                · have hV51 := k_eqI (if_neg c49) hV48
                  refine k_iconst d_Reader_isNameCharacter_71 cI_0 ?_
                  exact hV51
                · have hV50 := k_eqI (if_pos c49) hV48
                  refine k_iconst d_Reader_isNameCharacter_67 cI_1 ?_
                  refine k_goto d_Reader_isNameCharacter_68 rfl ?_
                  exact hV50
        · have hV52 := k_eqI (if_neg c38) hV37
          refine k_iload_n d_Reader_isNameCharacter_37 rfl ?_
          refine k_bipush d_Reader_isNameCharacter_38 cB_57 ?_
          refine k_icle d_Reader_isNameCharacter_40 rfl (fun c53 => ?_) (fun c53 => ?_)
          · have hV67 := k_eqI (if_neg c53) hV52
            refine k_iconst d_Reader_isNameCharacter_67 cI_1 ?_
            refine k_goto d_Reader_isNameCharacter_68 rfl ?_
            exact hV67
          · have hV54 := k_eqI (if_pos c53) hV52
            refine k_iload_n d_Reader_isNameCharacter_43 rfl ?_
            refine k_bipush d_Reader_isNameCharacter_44 cB_58 ?_
            refine k_iceq d_Reader_isNameCharacter_46 rfl (fun c55 => ?_) (fun c55 => ?_)
            · have hV56 := k_eqI (if_pos c55) hV54
              refine k_iconst d_Reader_isNameCharacter_67 cI_1 ?_
              refine k_goto d_Reader_isNameCharacter_68 rfl ?_
              exact hV56
            · have hV57 := k_eqI (if_neg c55) hV54
              refine k_iload_n d_Reader_isNameCharacter_49 rfl ?_
              refine k_bipush d_Reader_isNameCharacter_50 cB_95 ?_
              refine k_iceq d_Reader_isNameCharacter_52 rfl (fun c58 => ?_) (fun c58 => ?_)
              · have hV59 := k_eqI (if_pos c58) hV57
                refine k_iconst d_Reader_isNameCharacter_67 cI_1 ?_
                refine k_goto d_Reader_isNameCharacter_68 rfl ?_
                exact hV59
              · have hV60 := k_eqI (if_neg c58) hV57
                refine k_iload_n d_Reader_isNameCharacter_55 rfl ?_
                refine k_bipush d_Reader_isNameCharacter_56 cB_45 ?_
                refine k_iceq d_Reader_isNameCharacter_58 rfl (fun c61 => ?_) (fun c61 => ?_)
                · have hV62 := k_eqI (if_pos c61) hV60
                  refine k_iconst d_Reader_isNameCharacter_67 cI_1 ?_
                  refine k_goto d_Reader_isNameCharacter_68 rfl ?_
                  exact hV62
                · have hV63 := k_eqI (if_neg c61) hV60
                  refine k_iload_n d_Reader_isNameCharacter_61 rfl ?_
                  refine k_bipush d_Reader_isNameCharacter_62 cB_46 ?_
                  refine k_icne d_Reader_isNameCharacter_64 rfl (fun c64 => ?_) (fun c64 => ?_)
                  · have hV66 := k_eqI (if_neg c64) hV63
                    refine k_iconst d_Reader_isNameCharacter_71 cI_0 ?_
                    exact hV66
                  · have hV65 := k_eqI (if_pos c64) hV63
                    refine k_iconst d_Reader_isNameCharacter_67 cI_1 ?_
                    refine k_goto d_Reader_isNameCharacter_68 rfl ?_
                    exact hV65
      · have hV68 := k_eqI (if_neg c36) hV35
        refine k_iload_n d_Reader_isNameCharacter_25 rfl ?_
        refine k_bipush d_Reader_isNameCharacter_26 cB_90 ?_
        refine k_icle d_Reader_isNameCharacter_28 rfl (fun c69 => ?_) (fun c69 => ?_)
        · have hV101 := k_eqI (if_neg c69) hV68
          refine k_iconst d_Reader_isNameCharacter_67 cI_1 ?_
          refine k_goto d_Reader_isNameCharacter_68 rfl ?_
          exact hV101
        · have hV70 := k_eqI (if_pos c69) hV68
          refine k_iload_n d_Reader_isNameCharacter_31 rfl ?_
          refine k_bipush d_Reader_isNameCharacter_32 cB_48 ?_
          refine k_iclt d_Reader_isNameCharacter_34 rfl (fun c71 => ?_) (fun c71 => ?_)
          · have hV72 := k_eqI (if_pos c71) hV70
            refine k_iload_n d_Reader_isNameCharacter_43 rfl ?_
            refine k_bipush d_Reader_isNameCharacter_44 cB_58 ?_
            refine k_iceq d_Reader_isNameCharacter_46 rfl (fun c73 => ?_) (fun c73 => ?_)
            · have hV74 := k_eqI (if_pos c73) hV72
              refine k_iconst d_Reader_isNameCharacter_67 cI_1 ?_
              refine k_goto d_Reader_isNameCharacter_68 rfl ?_
              exact hV74
            · have hV75 := k_eqI (if_neg c73) hV72
              refine k_iload_n d_Reader_isNameCharacter_49 rfl ?_
              refine k_bipush d_Reader_isNameCharacter_50 cB_95 ?_
              refine k_iceq d_Reader_isNameCharacter_52 rfl (fun c76 => ?_) (fun c76 => ?_)
              · have hV77 := k_eqI (if_pos c76) hV75
                refine k_iconst d_Reader_isNameCharacter_67 cI_1 ?_
                refine k_goto d_Reader_isNameCharacter_68 rfl ?_
                exact hV77
              · have hV78 := k_eqI (if_neg c76) hV75
                refine k_iload_n d_Reader_isNameCharacter_55 rfl ?_
                refine k_bipush d_Reader_isNameCharacter_56 cB_45 ?_
                refine k_iceq d_Reader_isNameCharacter_58 rfl (fun c79 => ?_) (fun c79 => ?_)
                · have hV80 := k_eqI (if_pos c79) hV78
                  refine k_iconst d_Reader_isNameCharacter_67 cI_1 ?_
                  refine k_goto d_Reader_isNameCharacter_68 rfl ?_
                  exact hV80
                · have hV81 := k_eqI (if_neg c79) hV78
                  refine k_iload_n d_Reader_isNameCharacter_61 rfl ?_
                  refine k_bipush d_Reader_isNameCharacter_62 cB_46 ?_
                  refine k_icne d_Reader_isNameCharacter_64 rfl (fun c82 => ?_) (fun c82 => ?_)
                  · have hV84 := k_eqI (if_neg c82) hV81
                    refine k_iconst d_Reader_isNameCharacter_71 cI_0 ?_
                    exact hV84
                  · have hV83 := k_eqI (if_pos c82) hV81
                    refine k_iconst d_Reader_isNameCharacter_67 cI_1 ?_
                    refine k_goto d_Reader_isNameCharacter_68 rfl ?_
                    exact hV83
          · have hV85 := k_eqI (if_neg c71) hV70
            refine k_iload_n d_Reader_isNameCharacter_37 rfl ?_
            refine k_bipush d_Reader_isNameCharacter_38 cB_57 ?_
            refine k_icle d_Reader_isNameCharacter_40 rfl (fun c86 => ?_) (fun c86 => ?_)
            · have hV100 := k_eqI (if_neg c86) hV85
              refine k_iconst d_Reader_isNameCharacter_67 cI_1 ?_
              refine k_goto d_Reader_isNameCharacter_68 rfl ?_
              exact hV100
            · have hV87 := k_eqI (if_pos c86) hV85
              refine k_iload_n d_Reader_isNameCharacter_43 rfl ?_
              refine k_bipush d_Reader_isNameCharacter_44 cB_58 ?_
              refine k_iceq d_Reader_isNameCharacter_46 rfl (fun c88 => ?_) (fun c88 => ?_)
              · have hV89 := k_eqI (if_pos c88) hV87
                refine k_iconst d_Reader_isNameCharacter_67 cI_1 ?_
                refine k_goto d_Reader_isNameCharacter_68 rfl ?_
                exact hV89
              · have hV90 := k_eqI (if_neg c88) hV87
                refine k_iload_n d_Reader_isNameCharacter_49 rfl ?_
                refine k_bipush d_Reader_isNameCharacter_50 cB_95 ?_
                refine k_iceq d_Reader_isNameCharacter_52 rfl (fun c91 => ?_) (fun c91 => ?_)
                · have hV92 := k_eqI (if_pos c91) hV90
                  refine k_iconst d_Reader_isNameCharacter_67 cI_1 ?_
                  refine k_goto d_Reader_isNameCharacter_68 rfl ?_
                  exact hV92
                · have hV93 := k_eqI (if_neg c91) hV90
                  refine k_iload_n d_Reader_isNameCharacter_55 rfl ?_
                  refine k_bipush d_Reader_isNameCharacter_56 cB_45 ?_
                  refine k_iceq d_Reader_isNameCharacter_58 rfl (fun c94 => ?_) (fun c94 => ?_)
                  · have hV95 := k_eqI (if_pos c94) hV93
                    refine k_iconst d_Reader_isNameCharacter_67 cI_1 ?_
                    refine k_goto d_Reader_isNameCharacter_68 rfl ?_
                    exact hV95
                  · have hV96 := k_eqI (if_neg c94) hV93
                    refine k_iload_n d_Reader_isNameCharacter_61 rfl ?_
                    refine k_bipush d_Reader_isNameCharacter_62 cB_46 ?_
                    refine k_icne d_Reader_isNameCharacter_64 rfl (fun c97 => ?_) (fun c97 => ?_)
                    · have hV99 := k_eqI (if_neg c97) hV96
                      refine k_iconst d_Reader_isNameCharacter_71 cI_0 ?_
                      exact hV99
                    · have hV98 := k_eqI (if_pos c97) hV96
                      refine k_iconst d_Reader_isNameCharacter_67 cI_1 ?_
                      refine k_goto d_Reader_isNameCharacter_68 rfl ?_
                      exact hV98
    · have hV102 := k_eqI (if_neg c34) hV33
      refine k_iload_n d_Reader_isNameCharacter_13 rfl ?_
      refine k_bipush d_Reader_isNameCharacter_14 cB_122 ?_
      refine k_icle d_Reader_isNameCharacter_16 rfl (fun c103 => ?_) (fun c103 => ?_)
      · have hV171 := k_eqI (if_neg c103) hV102
        refine k_iconst d_Reader_isNameCharacter_67 cI_1 ?_
        refine k_goto d_Reader_isNameCharacter_68 rfl ?_
        exact hV171
      · have hV104 := k_eqI (if_pos c103) hV102
        refine k_iload_n d_Reader_isNameCharacter_19 rfl ?_
        refine k_bipush d_Reader_isNameCharacter_20 cB_65 ?_
        refine k_iclt d_Reader_isNameCharacter_22 rfl (fun c105 => ?_) (fun c105 => ?_)
        · have hV106 := k_eqI (if_pos c105) hV104
          refine k_iload_n d_Reader_isNameCharacter_31 rfl ?_
          refine k_bipush d_Reader_isNameCharacter_32 cB_48 ?_
          refine k_iclt d_Reader_isNameCharacter_34 rfl (fun c107 => ?_) (fun c107 => ?_)
          · have hV108 := k_eqI (if_pos c107) hV106
            refine k_iload_n d_Reader_isNameCharacter_43 rfl ?_
            refine k_bipush d_Reader_isNameCharacter_44 cB_58 ?_
            refine k_iceq d_Reader_isNameCharacter_46 rfl (fun c109 => ?_) (fun c109 => ?_)
            · have hV110 := k_eqI (if_pos c109) hV108
              refine k_iconst d_Reader_isNameCharacter_67 cI_1 ?_
              refine k_goto d_Reader_isNameCharacter_68 rfl ?_
              exact hV110
            · have hV111 := k_eqI (if_neg c109) hV108
              refine k_iload_n d_Reader_isNameCharacter_49 rfl ?_
              refine k_bipush d_Reader_isNameCharacter_50 cB_95 ?_
              refine k_iceq d_Reader_isNameCharacter_52 rfl (fun c112 => ?_) (fun c112 => ?_)
              · have hV113 := k_eqI (if_pos c112) hV111
                refine k_iconst d_Reader_isNameCharacter_67 cI_1 ?_
                refine k_goto d_Reader_isNameCharacter_68 rfl ?_
                exact hV113
              · have hV114 := k_eqI (if_neg c112) hV111
                refine k_iload_n d_Reader_isNameCharacter_55 rfl ?_
                refine k_bipush d_Reader_isNameCharacter_56 cB_45 ?_
                refine k_iceq d_Reader_isNameCharacter_58 rfl (fun c115 => ?_) (fun c115 => ?_)
                · have hV116 := k_eqI (if_pos c115) hV114
                  refine k_iconst d_Reader_isNameCharacter_67 cI_1 ?_
                  refine k_goto d_Reader_isNameCharacter_68 rfl ?_
                  exact hV116
                · have hV117 := k_eqI (if_neg c115) hV114
                  refine k_iload_n d_Reader_isNameCharacter_61 rfl ?_
                  refine k_bipush d_Reader_isNameCharacter_62 cB_46 ?_
                  refine k_icne d_Reader_isNameCharacter_64 rfl (fun c118 => ?_) (fun c118 => ?_)
                  · have hV120 := k_eqI (if_neg c118) hV117
                    refine k_iconst d_Reader_isNameCharacter_71 cI_0 ?_
                    exact hV120
                  · have hV119 := k_eqI (if_pos c118) hV117
                    refine k_iconst d_Reader_isNameCharacter_67 cI_1 ?_
                    refine k_goto d_Reader_isNameCharacter_68 rfl ?_
                    exact hV119
          · have hV121 := k_eqI (if_neg c107) hV106
            refine k_iload_n d_Reader_isNameCharacter_37 rfl ?_
            refine k_bipush d_Reader_isNameCharacter_38 cB_57 ?_
            refine k_icle d_Reader_isNameCharacter_40 rfl (fun c122 => ?_) (fun c122 => ?_)
            · have hV136 := k_eqI (if_neg c122) hV121
              refine k_iconst d_Reader_isNameCharacter_67 cI_1 ?_
              refine k_goto d_Reader_isNameCharacter_68 rfl ?_
              exact hV136
            · have hV123 := k_eqI (if_pos c122) hV121
              refine k_iload_n d_Reader_isNameCharacter_43 rfl ?_
              refine k_bipush d_Reader_isNameCharacter_44 cB_58 ?_
              refine k_iceq d_Reader_isNameCharacter_46 rfl (fun c124 => ?_) (fun c124 => ?_)
              · have hV125 := k_eqI (if_pos c124) hV123
                refine k_iconst d_Reader_isNameCharacter_67 cI_1 ?_
                refine k_goto d_Reader_isNameCharacter_68 rfl ?_
                exact hV125
              · have hV126 := k_eqI (if_neg c124) hV123
                refine k_iload_n d_Reader_isNameCharacter_49 rfl ?_
                refine k_bipush d_Reader_isNameCharacter_50 cB_95 ?_
                refine k_iceq d_Reader_isNameCharacter_52 rfl (fun c127 => ?_) (fun c127 => ?_)
                · have hV128 := k_eqI (if_pos c127) hV126
                  refine k_iconst d_Reader_isNameCharacter_67 cI_1 ?_
                  refine k_goto d_Reader_isNameCharacter_68 rfl ?_
                  exact hV128
                · have hV129 := k_eqI (if_neg c127) hV126
                  refine k_iload_n d_Reader_isNameCharacter_55 rfl ?_
                  refine k_bipush d_Reader_isNameCharacter_56 cB_45 ?_
                  refine k_iceq d_Reader_isNameCharacter_58 rfl (fun c130 => ?_) (fun c130 => ?_)
                  · have hV131 := k_eqI (if_pos c130) hV129
                    refine k_iconst d_Reader_isNameCharacter_67 cI_1 ?_
                    refine k_goto d_Reader_isNameCharacter_68 rfl ?_
                    exact hV131
                  · have hV132 := k_eqI (if_neg c130) hV129
                    refine k_iload_n d_Reader_isNameCharacter_61 rfl ?_
                    refine k_bipush d_Reader_isNameCharacter_62 cB_46 ?_
                    refine k_icne d_Reader_isNameCharacter_64 rfl (fun c133 => ?_) (fun c133 => ?_)
                    · have hV135 := k_eqI (if_neg c133) hV132
                      refine k_iconst d_Reader_isNameCharacter_71 cI_0 ?_
                      exact hV135
                    · have hV134 := k_eqI (if_pos c133) hV132
                      refine k_iconst d_Reader_isNameCharacter_67 cI_1 ?_
                      refine k_goto d_Reader_isNameCharacter_68 rfl ?_
                      exact hV134
        · have hV137 := k_eqI (if_neg c105) hV104
          refine k_iload_n d_Reader_isNameCharacter_25 rfl ?_
          refine k_bipush d_Reader_isNameCharacter_26 cB_90 ?_
          refine k_icle d_Reader_isNameCharacter_28 rfl (fun c138 => ?_) (fun c138 => ?_)
          · have hV170 := k_eqI (if_neg c138) hV137
            refine k_iconst d_Reader_isNameCharacter_67 cI_1 ?_
            refine k_goto d_Reader_isNameCharacter_68 rfl ?_
            exact hV170
          · have hV139 := k_eqI (if_pos c138) hV137
            refine k_iload_n d_Reader_isNameCharacter_31 rfl ?_
            refine k_bipush d_Reader_isNameCharacter_32 cB_48 ?_
            refine k_iclt d_Reader_isNameCharacter_34 rfl (fun c140 => ?_) (fun c140 => ?_)
            · have hV141 := k_eqI (if_pos c140) hV139
              refine k_iload_n d_Reader_isNameCharacter_43 rfl ?_
              refine k_bipush d_Reader_isNameCharacter_44 cB_58 ?_
              refine k_iceq d_Reader_isNameCharacter_46 rfl (fun c142 => ?_) (fun c142 => ?_)
              · have hV143 := k_eqI (if_pos c142) hV141
                refine k_iconst d_Reader_isNameCharacter_67 cI_1 ?_
                refine k_goto d_Reader_isNameCharacter_68 rfl ?_
                exact hV143
              · have hV144 := k_eqI (if_neg c142) hV141
                refine k_iload_n d_Reader_isNameCharacter_49 rfl ?_
                refine k_bipush d_Reader_isNameCharacter_50 cB_95 ?_
                refine k_iceq d_Reader_isNameCharacter_52 rfl (fun c145 => ?_) (fun c145 => ?_)
                · have hV146 := k_eqI (if_pos c145) hV144
                  refine k_iconst d_Reader_isNameCharacter_67 cI_1 ?_
                  refine k_goto d_Reader_isNameCharacter_68 rfl ?_
                  exact hV146
                · have hV147 := k_eqI (if_neg c145) hV144
                  refine k_iload_n d_Reader_isNameCharacter_55 rfl ?_
                  refine k_bipush d_Reader_isNameCharacter_56 cB_45 ?_
                  refine k_iceq d_Reader_isNameCharacter_58 rfl (fun c148 => ?_) (fun c148 => ?_)
                  · have hV149 := k_eqI (if_pos c148) hV147
                    refine k_iconst d_Reader_isNameCharacter_67 cI_1 ?_
                    refine k_goto d_Reader_isNameCharacter_68 rfl ?_
                    exact hV149
                  · have hV150 := k_eqI (if_neg c148) hV147
                    refine k_iload_n d_Reader_isNameCharacter_61 rfl ?_
                    refine k_bipush d_Reader_isNameCharacter_62 cB_46 ?_
                    refine k_icne d_Reader_isNameCharacter_64 rfl (fun c151 => ?_) (fun c151 => ?_)
                    · have hV153 := k_eqI (if_neg c151) hV150
                      refine k_iconst d_Reader_isNameCharacter_71 cI_0 ?_
                      exact hV153
                    · have hV152 := k_eqI (if_pos c151) hV150
                      refine k_iconst d_Reader_isNameCharacter_67 cI_1 ?_
                      refine k_goto d_Reader_isNameCharacter_68 rfl ?_
                      exact hV152
            · have hV154 := k_eqI (if_neg c140) hV139
              refine k_iload_n d_Reader_isNameCharacter_37 rfl ?_
              refine k_bipush d_Reader_isNameCharacter_38 cB_57 ?_
              refine k_icle d_Reader_isNameCharacter_40 rfl (fun c155 => ?_) (fun c155 => ?_)
              · have hV169 := k_eqI (if_neg c155) hV154
                refine k_iconst d_Reader_isNameCharacter_67 cI_1 ?_
                refine k_goto d_Reader_isNameCharacter_68 rfl ?_
                exact hV169
              · have hV156 := k_eqI (if_pos c155) hV154
                refine k_iload_n d_Reader_isNameCharacter_43 rfl ?_
                refine k_bipush d_Reader_isNameCharacter_44 cB_58 ?_
                refine k_iceq d_Reader_isNameCharacter_46 rfl (fun c157 => ?_) (fun c157 => ?_)
                · have hV158 := k_eqI (if_pos c157) hV156
                  refine k_iconst d_Reader_isNameCharacter_67 cI_1 ?_
                  refine k_goto d_Reader_isNameCharacter_68 rfl ?_
                  exact hV158
                · have hV159 := k_eqI (if_neg c157) hV156
                  refine k_iload_n d_Reader_isNameCharacter_49 rfl ?_
                  refine k_bipush d_Reader_isNameCharacter_50 cB_95 ?_
                  refine k_iceq d_Reader_isNameCharacter_52 rfl (fun c160 => ?_) (fun c160 => ?_)
                  · have hV161 := k_eqI (if_pos c160) hV159
                    refine k_iconst d_Reader_isNameCharacter_67 cI_1 ?_
                    refine k_goto d_Reader_isNameCharacter_68 rfl ?_
                    exact hV161
                  · have hV162 := k_eqI (if_neg c160) hV159
                    refine k_iload_n d_Reader_isNameCharacter_55 rfl ?_
                    refine k_bipush d_Reader_isNameCharacter_56 cB_45 ?_
                    refine k_iceq d_Reader_isNameCharacter_58 rfl (fun c163 => ?_) (fun c163 => ?_)
                    · have hV164 := k_eqI (if_pos c163) hV162
                      refine k_iconst d_Reader_isNameCharacter_67 cI_1 ?_
                      refine k_goto d_Reader_isNameCharacter_68 rfl ?_
                      exact hV164
                    · have hV165 := k_eqI (if_neg c163) hV162
                      refine k_iload_n d_Reader_isNameCharacter_61 rfl ?_
                      refine k_bipush d_Reader_isNameCharacter_62 cB_46 ?_
                      refine k_icne d_Reader_isNameCharacter_64 rfl (fun c166 => ?_) (fun c166 => ?_)
                      · have hV168 := k_eqI (if_neg c166) hV165
                        refine k_iconst d_Reader_isNameCharacter_71 cI_0 ?_
                        exact hV168
                      · have hV167 := k_eqI (if_pos c166) hV165
                        refine k_iconst d_Reader_isNameCharacter_67 cI_1 ?_
                        refine k_goto d_Reader_isNameCharacter_68 rfl ?_
                        exact hV167
theorem d_Reader_readName_0 : decode b_Reader_readName 0 = .ok (.aload_n 0, 1) := by decide +kernel
theorem d_Reader_readName_1 : decode b_Reader_readName 1 = .ok (.getfield 26, 3) := by decide +kernel
theorem d_Reader_readName_4 : decode b_Reader_readName 4 = .ok (.istore_n 1, 1) := by decide +kernel
theorem d_Reader_readName_5 : decode b_Reader_readName 5 = .ok (.aload_n 0, 1) := by decide +kernel
theorem d_Reader_readName_6 : decode b_Reader_readName 6 = .ok (.getfield 26, 3) := by decide +kernel
theorem d_Reader_readName_9 : decode b_Reader_readName 9 = .ok (.aload_n 0, 1) := by decide +kernel
theorem d_Reader_readName_10 : decode b_Reader_readName 10 = .ok (.getfield 32, 3) := by decide +kernel
theorem d_Reader_readName_13 : decode b_Reader_readName 13 = .ok (.if_icmp .ge 59, 3) := by decide +kernel
theorem d_Reader_readName_16 : decode b_Reader_readName 16 = .ok (.aload_n 0, 1) := by decide +kernel
theorem d_Reader_readName_17 : decode b_Reader_readName 17 = .ok (.getfield 21, 3) := by decide +kernel
theorem d_Reader_readName_20 : decode b_Reader_readName 20 = .ok (.aload_n 0, 1) := by decide +kernel
theorem d_Reader_readName_21 : decode b_Reader_readName 21 = .ok (.getfield 26, 3) := by decide +kernel
theorem d_Reader_readName_24 : decode b_Reader_readName 24 = .ok (.iaload, 1) := by decide +kernel
theorem d_Reader_readName_25 : decode b_Reader_readName 25 = .ok (.invokestatic 78, 3) := by decide +kernel
theorem d_Reader_readName_28 : decode b_Reader_readName 28 = .ok (.ifCond .ne 44, 3) := by decide +kernel
theorem d_Reader_readName_31 : decode b_Reader_readName 31 = .ok (.aload_n 0, 1) := by decide +kernel
theorem d_Reader_readName_32 : decode b_Reader_readName 32 = .ok (.getfield 26, 3) := by decide +kernel
theorem d_Reader_readName_35 : decode b_Reader_readName 35 = .ok (.istore_n 2, 1) := by decide +kernel
theorem d_Reader_readName_36 : decode b_Reader_readName 36 = .ok (.iload_n 2, 1) := by decide +kernel
theorem d_Reader_readName_37 : decode b_Reader_readName 37 = .ok (.aload_n 0, 1) := by decide +kernel
theorem d_Reader_readName_38 : decode b_Reader_readName 38 = .ok (.getfield 32, 3) := by decide +kernel
theorem d_Reader_readName_41 : decode b_Reader_readName 41 = .ok (.if_icmp .ge 31, 3) := by decide +kernel
theorem d_Reader_readName_44 : decode b_Reader_readName 44 = .ok (.aload_n 0, 1) := by decide +kernel
theorem d_Reader_readName_45 : decode b_Reader_readName 45 = .ok (.getfield 21, 3) := by decide +kernel
theorem d_Reader_readName_48 : decode b_Reader_readName 48 = .ok (.iload_n 2, 1) := by decide +kernel
theorem d_Reader_readName_49 : decode b_Reader_readName 49 = .ok (.iaload, 1) := by decide +kernel
theorem d_Reader_readName_50 : decode b_Reader_readName 50 = .ok (.invokestatic 81, 3) := by decide +kernel
theorem d_Reader_readName_53 : decode b_Reader_readName 53 = .ok (.ifCond .eq 19, 3) := by decide +kernel
theorem d_Reader_readName_56 : decode b_Reader_readName 56 = .ok (.aload_n 0, 1) := by decide +kernel
theorem d_Reader_readName_57 : decode b_Reader_readName 57 = .ok (.dup, 1) := by decide +kernel
theorem d_Reader_readName_58 : decode b_Reader_readName 58 = .ok (.getfield 26, 3) := by decide +kernel
theorem d_Reader_readName_61 : decode b_Reader_readName 61 = .ok (.iconst 1, 1) := by decide +kernel
theorem d_Reader_readName_62 : decode b_Reader_readName 62 = .ok (.iadd, 1) := by decide +kernel
theorem d_Reader_readName_63 : decode b_Reader_readName 63 = .ok (.putfield 26, 3) := by decide +kernel
theorem d_Reader_readName_66 : decode b_Reader_readName 66 = .ok (.iinc 2 1, 3) := by decide +kernel
theorem d_Reader_readName_69 : decode b_Reader_readName 69 = .ok (.goto (-33), 3) := by decide +kernel
theorem d_Reader_readName_72 : decode b_Reader_readName 72 = .ok (.aload_n 0, 1) := by decide +kernel
theorem d_Reader_readName_73 : decode b_Reader_readName 73 = .ok (.getfield 26, 3) := by decide +kernel
theorem d_Reader_readName_76 : decode b_Reader_readName 76 = .ok (.iload_n 1, 1) := by decide +kernel
theorem d_Reader_readName_77 : decode b_Reader_readName 77 = .ok (.if_icmp .ne 8, 3) := by decide +kernel
theorem d_Reader_readName_80 : decode b_Reader_readName 80 = .ok (.aload_n 0, 1) := by decide +kernel
theorem d_Reader_readName_81 : decode b_Reader_readName 81 = .ok (.iconst 5, 1) := by decide +kernel
theorem d_Reader_readName_82 : decode b_Reader_readName 82 = .ok (.invokevirtual 66, 3) := by decide +kernel
theorem d_Reader_readName_85 : decode b_Reader_readName 85 = .ok (.iload_n 1, 1) := by decide +kernel
theorem d_Reader_readName_86 : decode b_Reader_readName 86 = .ok (.ireturn, 1) := by decide +kernel
/-- Reader_readName -/
def w_Reader_readName (L : Nat → Nat)  (Q : Int → IS → Prop) (σ : IS) : Prop := WJ (fun (s3 : Unit) (σ4 : IS) => WJ (fun (s7 : Unit) (σ8 : IS) => Q (σ.1 2 2) σ8) (fun J5 => if (σ4.1 2 2) = (σ.1 2 2) then w_Reader_fail L 5 (fun σ10 => J5 () σ10) σ4 else J5 () σ4)) (fun J1 => if (σ.1 2 2) < (σ.1 2 3) then inL L 101 (σ.1 2 2) ∧ w_Reader_isNoStart L (σ.2 101 (Int.toNat (σ.1 2 2))) (fun v14 σ13 => if v14 = 0 then WL (fun (K16 : Int → IS → Prop) (s18 : Int) (σ19 : IS) => if s18 < (σ19.1 2 3) then inL L 101 s18 ∧ w_Reader_isNameCharacter L (σ19.2 101 (Int.toNat s18)) (fun v22 σ21 => if v22 = 0 then J1 () σ21 else inR ((σ21.1 2 2) + 1) ∧ inR (s18 + 1) ∧ K16 (s18 + 1) (pf σ21 2 2 ((σ21.1 2 2) + 1))) σ19 else J1 () σ19) (σ13.1 2 2) σ13 else J1 () σ13) σ else J1 () σ)
set_option maxHeartbeats 4000000 in
set_option maxRecDepth 20000 in
theorem s_Reader_readName {L : Nat → Nat} (hL : ∀ r, L r < 2147483648) {d : Nat} (hd : 1 ≤ d)  {Q : Int → IS → Prop} {σ : IS}  (h : w_Reader_readName L  Q σ) : OkI BF L d 2 b_Reader_readName 3 1 0 [] [some (.inr 2)] σ (qi Q) := by
  unfold w_Reader_readName at h
  obtain ⟨d, rfl⟩ : ∃ e, d = e + 1 := ⟨d - 1, by omega⟩
  refine k_sb (lv' := [some (.inr 2), none, none]) (sb_s (sb_e (sb_e sb_nil))) ?_
  refine k_aload_n d_Reader_readName_0 rfl ?_
  refine k_getI (x := (σ.1 2 2)) d_Reader_readName_1 fl_2_26 ob_2 rfl rfl ?_
  refine k_istore_n (lv' := [some (.inr 2), some (.inl (σ.1 2 2)), none]) d_Reader_readName_4 rfl rfl ?_
  refine k_aload_n d_Reader_readName_5 rfl ?_
  refine k_getI (x := (σ.1 2 2)) d_Reader_readName_6 fl_2_26 ob_2 rfl rfl ?_
  refine k_aload_n d_Reader_readName_9 rfl ?_
  refine k_getI (x := (σ.1 2 3)) d_Reader_readName_10 fl_2_32 ob_2 rfl rfl ?_
  refine k_join (S := Unit) (pc' := 72) (st' := fun s3 => []) (lv' := fun s3 => [some (.inr 2), some (.inl (σ.1 2 2)), none]) (fun s3 σ4 h => ?_) (fun J1 hJ2 h => ?_) h
  · refine k_aload_n d_Reader_readName_72 rfl ?_
    refine k_getI (x := (σ4.1 2 2)) d_Reader_readName_73 fl_2_26 ob_2 rfl rfl ?_
    refine k_iload_n d_Reader_readName_76 rfl ?_
    refine k_join (S := Unit) (pc' := 85) (st' := fun s7 => []) (lv' := fun s7 => [none, some (.inl (σ.1 2 2)), none]) (fun s7 σ8 h => ?_) (fun J5 hJ6 h => ?_) h
    · refine k_iload_n d_Reader_readName_85 rfl ?_
      exact k_iret d_Reader_readName_86 (Or.inl rfl) h
    · refine k_icne d_Reader_readName_77 rfl (fun c9 => ?_) (fun c9 => ?_)
      · have h := ineg c9 h
        exact k_sb (sb_n (sb_s (sb_s sb_nil))) (hJ6 () _ h)
      · have h := ipos c9 h
        refine k_aload_n d_Reader_readName_80 rfl ?_
        refine k_iconst d_Reader_readName_81 cI_5 ?_
        refine k_cvv [.inl 5] d_Reader_readName_82 ml_2_66 rfl rfl ob_2 rfl (s_Reader_fail hL (by omega)  h) (fun σ10 h => ?_)
        exact k_sb (sb_n (sb_s (sb_s sb_nil))) (hJ6 () _ h)
  · refine k_icge d_Reader_readName_13 rfl (fun c12 => ?_) (fun c12 => ?_)
    · have h := ineg c12 h
      exact k_sb (sb_s (sb_s (sb_s sb_nil))) (hJ2 () _ h)
    · have h := ipos c12 h
      refine k_aload_n d_Reader_readName_16 rfl ?_
      refine k_getR d_Reader_readName_17 fl_2_21 ob_2 rfl ?_
      refine k_aload_n d_Reader_readName_20 rfl ?_
      refine k_getI (x := (σ.1 2 2)) d_Reader_readName_21 fl_2_26 ob_2 rfl rfl ?_
      obtain ⟨p27, h⟩ := h
      refine k_ild (x := (σ.2 101 (Int.toNat (σ.1 2 2)))) d_Reader_readName_24 rI_101 p27 rfl ?_
      refine k_csi [.inl (σ.2 101 (Int.toNat (σ.1 2 2)))] d_Reader_readName_25 ml_2_78 (Or.inl rfl) rfl rfl rfl (s_Reader_isNoStart hL (by omega)  h) (fun v14 σ13 h => ?_)
      refine k_ifne d_Reader_readName_28 rfl (fun c15 => ?_) (fun c15 => ?_)
      · have h := ineg c15 h
        exact k_sb (sb_s (sb_s (sb_s sb_nil))) (hJ2 () _ h)
      · have h := ipos c15 h
        refine k_aload_n d_Reader_readName_31 rfl ?_
        refine k_getI (x := (σ13.1 2 2)) d_Reader_readName_32 fl_2_26 ob_2 rfl rfl ?_
        refine k_istore_n (lv' := [some (.inr 2), some (.inl (σ.1 2 2)), some (.inl (σ13.1 2 2))]) d_Reader_readName_35 rfl rfl ?_
        refine k_sb (lv' := [some (.inr 2), some (.inl (σ.1 2 2)), some (.inl (σ13.1 2 2))]) (sb_s (sb_s (sb_s sb_nil))) ?_
        refine k_loop (S := Int) (st := fun _ => []) (lv := fun s18 => [some (.inr 2), some (.inl (σ.1 2 2)), some (.inl s18)]) (fun K16 hK17 s18 σ19 h => ?_) (σ13.1 2 2) _ h
        refine k_iload_n d_Reader_readName_36 rfl ?_
        refine k_aload_n d_Reader_readName_37 rfl ?_
        refine k_getI (x := (σ19.1 2 3)) d_Reader_readName_38 fl_2_32 ob_2 rfl rfl ?_
        refine k_icge d_Reader_readName_41 rfl (fun c20 => ?_) (fun c20 => ?_)
        · have h := ineg c20 h
          exact k_sb (sb_s (sb_s (sb_n sb_nil))) (hJ2 () _ h)
        · have h := ipos c20 h
          refine k_aload_n d_Reader_readName_44 rfl ?_
          refine k_getR d_Reader_readName_45 fl_2_21 ob_2 rfl ?_
          refine k_iload_n d_Reader_readName_48 rfl ?_
          obtain ⟨p26, h⟩ := h
          refine k_ild (x := (σ19.2 101 (Int.toNat s18))) d_Reader_readName_49 rI_101 p26 rfl ?_
          refine k_csi [.inl (σ19.2 101 (Int.toNat s18))] d_Reader_readName_50 ml_2_81 (Or.inl rfl) rfl rfl rfl (s_Reader_isNameCharacter hL (by omega)  h) (fun v22 σ21 h => ?_)
          refine k_ifeq d_Reader_readName_53 rfl (fun c23 => ?_) (fun c23 => ?_)
          · have h := ipos c23 h
            exact k_sb (sb_s (sb_s (sb_n sb_nil))) (hJ2 () _ h)
          · have h := ineg c23 h
            refine k_aload_n d_Reader_readName_56 rfl ?_
            refine k_dup d_Reader_readName_57 ?_
            refine k_getI (x := (σ21.1 2 2)) d_Reader_readName_58 fl_2_26 ob_2 rfl rfl ?_
            refine k_iconst d_Reader_readName_61 cI_1 ?_
            obtain ⟨p25, h⟩ := h
            refine k_iadd d_Reader_readName_62 p25 ?_
            refine k_putI d_Reader_readName_63 fl_2_26 ob_2 rfl ?_
            obtain ⟨p24, h⟩ := h
            refine k_iinc (lv' := [some (.inr 2), some (.inl (σ.1 2 2)), some (.inl (s18 + 1))]) d_Reader_readName_66 cI_1 rfl rfl p24 rfl ?_
            refine k_goto d_Reader_readName_69 rfl ?_
            exact k_sb (sb_s (sb_s (sb_s sb_nil))) (hK17 (s18 + 1) _ h)
/-- Store_find -/
def w_Store_find (L : Nat → Nat) (a1 : Int) (a2 : Int) (Q : Int → IS → Prop) (σ : IS) : Prop := WL (fun (K1 : Int × Int → IS → Prop) (s3 : Int × Int) (σ4 : IS) => inR (a1 + a2) ∧ if s3.2 < (a1 + a2) then inL L 101 s3.2 ∧ inR (s3.2 + 1) ∧ K1 ((wr ((wr (s3.1 * 31)) + (σ4.2 101 (Int.toNat s3.2)))), (s3.2 + 1)) σ4 else inR (((L 106 : Nat) : Int) - 1) ∧ inL L 106 (ia (ix s3.1 (iur s3.1 15)) (((L 106 : Nat) : Int) - 1)) ∧ WL (fun (K6 : Int × Int → IS → Prop) (s8 : Int × Int) (σ9 : IS) => if s8.2 < (σ9.1 1 14) ∧ (¬ s8.1 = (-1)) then inL L 104 s8.1 ∧ (((σ9.2 104 (Int.toNat s8.1)) = (σ9.1 1 13) → inL L 103 s8.1)) ∧ WL (fun (K11 : Int × Int → IS → Prop) (s13 : Int × Int) (σ14 : IS) => ((s13.2 < a2 → (s13.1 = s13.2 → (inL L 102 s8.1 ∧ inR ((σ14.2 102 (Int.toNat s8.1)) + s13.2) ∧ inL L 101 ((σ14.2 102 (Int.toNat s8.1)) + s13.2) ∧ inR (a1 + s13.2) ∧ inL L 101 (a1 + s13.2))))) ∧ if s13.2 < a2 ∧ (s13.1 = s13.2 ∧ ((σ14.2 101 (Int.toNat ((σ14.2 102 (Int.toNat s8.1)) + s13.2))) = (σ14.2 101 (Int.toNat (a1 + s13.2))))) then inR (s13.1 + 1) ∧ inR (s13.2 + 1) ∧ K11 ((s13.1 + 1), (s13.2 + 1)) σ14 else if s13.1 = a2 then Q s8.1 σ14 else inL L 105 s8.1 ∧ inR (s8.2 + 1) ∧ K6 ((σ14.2 105 (Int.toNat s8.1)), (s8.2 + 1)) σ14) ((if (σ9.2 104 (Int.toNat s8.1)) = (σ9.1 1 13) then (if (σ9.2 103 (Int.toNat s8.1)) = a2 then (0 : Int) else ((-1) : Int)) else ((-1) : Int)), 0) σ9 else Q (-1) σ9) ((σ4.2 106 (Int.toNat (ia (ix s3.1 (iur s3.1 15)) (((L 106 : Nat) : Int) - 1)))), 0) (pf σ4 1 13 (ix s3.1 (iur s3.1 15)))) (a2, a1) σ
set_option maxHeartbeats 4000000 in
set_option maxRecDepth 20000 in
theorem s_Store_find {L : Nat → Nat} (hL : ∀ r, L r < 2147483648) {d : Nat} (hd : 0 ≤ d) {B : MB} {a1 : Int} {a2 : Int} {Q : Int → IS → Prop} {σ : IS} (hB : stB B) (h : w_Store_find L a1 a2 Q σ) : OkI B L d 1 b_Store_find 8 1 0 [] [some (.inr 1), some (.inl a1), some (.inl a2)] σ (qi Q) := by
  unfold w_Store_find at h
  refine k_sb (lv' := [some (.inr 1), some (.inl a1), some (.inl a2), none, none, none, none, none]) (sb_s (sb_s (sb_s (sb_e (sb_e (sb_e (sb_e (sb_e sb_nil)))))))) ?_
  refine k_iload_n d_Store_find_0 rfl ?_
  refine k_istore_n (lv' := [some (.inr 1), some (.inl a1), some (.inl a2), some (.inl a2), none, none, none, none]) d_Store_find_1 rfl rfl ?_
  refine k_iload_n d_Store_find_2 rfl ?_
  refine k_istore (lv' := [some (.inr 1), some (.inl a1), some (.inl a2), some (.inl a2), some (.inl a1), none, none, none]) d_Store_find_3 rfl rfl ?_
  refine k_sb (lv' := [some (.inr 1), some (.inl a1), some (.inl a2), some (.inl a2), some (.inl a1), none, none, none]) (sb_s (sb_s (sb_s (sb_s (sb_s (sb_s (sb_s (sb_s sb_nil)))))))) ?_
  refine k_loop (S := Int × Int) (st := fun _ => []) (lv := fun s3 => [some (.inr 1), some (.inl a1), some (.inl a2), some (.inl s3.1), some (.inl s3.2), none, none, none]) (fun K1 hK2 s3 σ4 h => ?_) (a2, a1) _ h
  refine k_iload d_Store_find_5 rfl ?_
  refine k_iload_n d_Store_find_7 rfl ?_
  refine k_iload_n d_Store_find_8 rfl ?_
  obtain ⟨p53, h⟩ := h
  refine k_iadd d_Store_find_9 p53 ?_
  refine k_icge d_Store_find_10 rfl (fun c5 => ?_) (fun c5 => ?_)
  · have h := ineg c5 h
    refine k_aload_n d_Store_find_32 rfl ?_
    refine k_iload_n d_Store_find_33 rfl ?_
    refine k_iload_n d_Store_find_34 rfl ?_
    refine k_bipush d_Store_find_35 cB_15 ?_
    refine k_iushr d_Store_find_37 ?_
    refine k_ixor d_Store_find_38 ?_
    refine k_putI d_Store_find_39 fl_1_153 (stB_ob hB) rfl ?_
    refine k_aload_n d_Store_find_42 rfl ?_
    refine k_getR d_Store_find_43 fl_1_41 (stB_ob hB) rfl ?_
    refine k_aload_n d_Store_find_46 rfl ?_
    refine k_getI (x := (ix s3.1 (iur s3.1 15))) d_Store_find_47 fl_1_153 (stB_ob hB) rfl rfl ?_
    refine k_aload_n d_Store_find_50 rfl ?_
    refine k_getR d_Store_find_51 fl_1_41 (stB_ob hB) rfl ?_
    refine k_len d_Store_find_54 (stB_106 hB).1 (hL _) ?_
    refine k_iconst d_Store_find_55 cI_1 ?_
    obtain ⟨p50, h⟩ := h
    refine k_isub d_Store_find_56 p50 ?_
    refine k_iand d_Store_find_57 ?_
    obtain ⟨p49, h⟩ := h
    refine k_ild (x := (σ4.2 106 (Int.toNat (ia (ix s3.1 (iur s3.1 15)) (((L 106 : Nat) : Int) - 1))))) d_Store_find_58 (stB_106 hB) p49 rfl ?_
    refine k_istore (lv' := [some (.inr 1), some (.inl a1), some (.inl a2), some (.inl s3.1), some (.inl (σ4.2 106 (Int.toNat (ia (ix s3.1 (iur s3.1 15)) (((L 106 : Nat) : Int) - 1))))), none, none, none]) d_Store_find_59 rfl rfl ?_
    refine k_iconst d_Store_find_61 cI_0 ?_
    refine k_istore (lv' := [some (.inr 1), some (.inl a1), some (.inl a2), some (.inl s3.1), some (.inl (σ4.2 106 (Int.toNat (ia (ix s3.1 (iur s3.1 15)) (((L 106 : Nat) : Int) - 1))))), some (.inl 0), none, none]) d_Store_find_62 rfl rfl ?_
    refine k_sb (lv' := [some (.inr 1), some (.inl a1), some (.inl a2), none, some (.inl (σ4.2 106 (Int.toNat (ia (ix s3.1 (iur s3.1 15)) (((L 106 : Nat) : Int) - 1))))), some (.inl 0), none, none]) (sb_s (sb_s (sb_s (sb_n (sb_s (sb_s (sb_s (sb_s sb_nil)))))))) ?_
    refine k_loop (S := Int × Int) (st := fun _ => []) (lv := fun s8 => [some (.inr 1), some (.inl a1), some (.inl a2), none, some (.inl s8.1), some (.inl s8.2), none, none]) (fun K6 hK7 s8 σ9 h => ?_) ((σ4.2 106 (Int.toNat (ia (ix s3.1 (iur s3.1 15)) (((L 106 : Nat) : Int) - 1)))), 0) _ h
    refine k_iload d_Store_find_64 rfl ?_
    refine k_aload_n d_Store_find_66 rfl ?_
    refine k_getI (x := (σ9.1 1 14)) d_Store_find_67 fl_1_92 (stB_ob hB) rfl rfl ?_
    have hX44 : (s8.2 < (σ9.1 1 14) ∧ (¬ s8.1 = (-1))) → OkI B L d 1 b_Store_find 8 1 79 [] [some (.inr 1), some (.inl a1), some (.inl a2), none, some (.inl s8.1), some (.inl s8.2), none, none] σ9 (qi Q) := fun e46 => by
      have h := ipos e46 h
      refine k_aload_n d_Store_find_79 rfl ?_
      refine k_getR d_Store_find_80 fl_1_32 (stB_ob hB) rfl ?_
      refine k_iload d_Store_find_83 rfl ?_
      obtain ⟨p43, h⟩ := h
      refine k_ild (x := (σ9.2 104 (Int.toNat s8.1))) d_Store_find_85 (stB_104 hB) p43 rfl ?_
      refine k_aload_n d_Store_find_86 rfl ?_
      refine k_getI (x := (σ9.1 1 13)) d_Store_find_87 fl_1_153 (stB_ob hB) rfl rfl ?_
      obtain ⟨pt35, h⟩ := h
      have hV34 : OkI B L d 1 b_Store_find 8 1 109 [.inl (if (σ9.2 104 (Int.toNat s8.1)) = (σ9.1 1 13) then (if (σ9.2 103 (Int.toNat s8.1)) = a2 then (0 : Int) else ((-1) : Int)) else ((-1) : Int))] [some (.inr 1), some (.inl a1), some (.inl a2), none, some (.inl s8.1), some (.inl s8.2), none, none] σ9 (qi Q) := by
        refine k_istore (lv' := [some (.inr 1), some (.inl a1), some (.inl a2), none, some (.inl s8.1), some (.inl s8.2), some (.inl (if (σ9.2 104 (Int.toNat s8.1)) = (σ9.1 1 13) then (if (σ9.2 103 (Int.toNat s8.1)) = a2 then (0 : Int) else ((-1) : Int)) else ((-1) : Int))), none]) d_Store_find_109 rfl rfl ?_
        refine k_iconst d_Store_find_111 cI_0 ?_
        refine k_istore (lv' := [some (.inr 1), some (.inl a1), some (.inl a2), none, some (.inl s8.1), some (.inl s8.2), some (.inl (if (σ9.2 104 (Int.toNat s8.1)) = (σ9.1 1 13) then (if (σ9.2 103 (Int.toNat s8.1)) = a2 then (0 : Int) else ((-1) : Int)) else ((-1) : Int))), some (.inl 0)]) d_Store_find_112 rfl rfl ?_
        refine k_sb (lv' := [some (.inr 1), some (.inl a1), some (.inl a2), none, some (.inl s8.1), some (.inl s8.2), some (.inl (if (σ9.2 104 (Int.toNat s8.1)) = (σ9.1 1 13) then (if (σ9.2 103 (Int.toNat s8.1)) = a2 then (0 : Int) else ((-1) : Int)) else ((-1) : Int))), some (.inl 0)]) (sb_s (sb_s (sb_s (sb_s (sb_s (sb_s (sb_s (sb_s sb_nil)))))))) ?_
        refine k_loop (S := Int × Int) (st := fun _ => []) (lv := fun s13 => [some (.inr 1), some (.inl a1), some (.inl a2), none, some (.inl s8.1), some (.inl s8.2), some (.inl s13.1), some (.inl s13.2)]) (fun K11 hK12 s13 σ14 h => ?_) ((if (σ9.2 104 (Int.toNat s8.1)) = (σ9.1 1 13) then (if (σ9.2 103 (Int.toNat s8.1)) = a2 then (0 : Int) else ((-1) : Int)) else ((-1) : Int)), 0) _ h
        refine k_iload d_Store_find_114 rfl ?_
        refine k_iload_n d_Store_find_116 rfl ?_
        obtain ⟨pt28, h⟩ := h
        have hX25 : (s13.2 < a2 ∧ (s13.1 = s13.2 ∧ ((σ14.2 101 (Int.toNat ((σ14.2 102 (Int.toNat s8.1)) + s13.2))) = (σ14.2 101 (Int.toNat (a1 + s13.2)))))) → OkI B L d 1 b_Store_find 8 1 154 [] [some (.inr 1), some (.inl a1), some (.inl a2), none, some (.inl s8.1), some (.inl s8.2), some (.inl s13.1), some (.inl s13.2)] σ14 (qi Q) := fun e27 => by
          have h := ipos e27 h
          obtain ⟨p21, h⟩ := h
          refine k_iinc (lv' := [some (.inr 1), some (.inl a1), some (.inl a2), none, some (.inl s8.1), some (.inl s8.2), some (.inl (s13.1 + 1)), some (.inl s13.2)]) d_Store_find_154 cI_1 rfl rfl p21 rfl ?_
          obtain ⟨p20, h⟩ := h
          refine k_iinc (lv' := [some (.inr 1), some (.inl a1), some (.inl a2), none, some (.inl s8.1), some (.inl s8.2), some (.inl (s13.1 + 1)), some (.inl (s13.2 + 1))]) d_Store_find_157 cI_1 rfl rfl p20 rfl ?_
          refine k_goto d_Store_find_160 rfl ?_
          exact k_sb (sb_s (sb_s (sb_s (sb_s (sb_s (sb_s (sb_s (sb_s sb_nil)))))))) (hK12 ((s13.1 + 1), (s13.2 + 1)) _ h)
        have hY26 : ¬ (s13.2 < a2 ∧ (s13.1 = s13.2 ∧ ((σ14.2 101 (Int.toNat ((σ14.2 102 (Int.toNat s8.1)) + s13.2))) = (σ14.2 101 (Int.toNat (a1 + s13.2)))))) → OkI B L d 1 b_Store_find 8 1 163 [] [some (.inr 1), some (.inl a1), some (.inl a2), none, some (.inl s8.1), some (.inl s8.2), some (.inl s13.1), some (.inl s13.2)] σ14 (qi Q) := fun e27 => by
          have h := ineg e27 h
          refine k_iload d_Store_find_163 rfl ?_
          refine k_iload_n d_Store_find_165 rfl ?_
          refine k_icne d_Store_find_166 rfl (fun c22 => ?_) (fun c22 => ?_)
          · have h := ineg c22 h
            refine k_aload_n d_Store_find_172 rfl ?_
            refine k_getR d_Store_find_173 fl_1_35 (stB_ob hB) rfl ?_
            refine k_iload d_Store_find_176 rfl ?_
            obtain ⟨p24, h⟩ := h
            refine k_ild (x := (σ14.2 105 (Int.toNat s8.1))) d_Store_find_178 (stB_105 hB) p24 rfl ?_
            refine k_istore (lv' := [some (.inr 1), some (.inl a1), some (.inl a2), none, some (.inl (σ14.2 105 (Int.toNat s8.1))), some (.inl s8.2), some (.inl s13.1), some (.inl s13.2)]) d_Store_find_179 rfl rfl ?_
            obtain ⟨p23, h⟩ := h
            refine k_iinc (lv' := [some (.inr 1), some (.inl a1), some (.inl a2), none, some (.inl (σ14.2 105 (Int.toNat s8.1))), some (.inl (s8.2 + 1)), some (.inl s13.1), some (.inl s13.2)]) d_Store_find_181 cI_1 rfl rfl p23 rfl ?_
            refine k_goto d_Store_find_184 rfl ?_
            exact k_sb (sb_s (sb_s (sb_s (sb_s (sb_s (sb_s (sb_n (sb_n sb_nil)))))))) (hK7 ((σ14.2 105 (Int.toNat s8.1)), (s8.2 + 1)) _ h)
          · have h := ipos c22 h
            refine k_iload d_Store_find_169 rfl ?_
            exact k_iret d_Store_find_171 (Or.inl rfl) h
        have pa29 := pt28
        refine k_icge d_Store_find_117 rfl (fun c30 => ?_) (fun c30 => ?_)
        · exact hY26 (fun z => c30 z.1)
        · have pa29 := pa29 c30
          have pa31 := pa29
          refine k_iload d_Store_find_120 rfl ?_
          refine k_iload d_Store_find_122 rfl ?_
          refine k_icne d_Store_find_124 rfl (fun c32 => ?_) (fun c32 => ?_)
          · exact hY26 (fun z => (fun z => c32 z.1) z.2)
          · have pa31 := pa31 c32
            obtain ⟨p15, p16, p17, p18, p19⟩ := pa31
            refine k_aload_n d_Store_find_127 rfl ?_
            refine k_getR d_Store_find_128 fl_1_22 (stB_ob hB) rfl ?_
            refine k_aload_n d_Store_find_131 rfl ?_
            refine k_getR d_Store_find_132 fl_1_26 (stB_ob hB) rfl ?_
            refine k_iload d_Store_find_135 rfl ?_
            refine k_ild (x := (σ14.2 102 (Int.toNat s8.1))) d_Store_find_137 (stB_102 hB) p15 rfl ?_
            refine k_iload d_Store_find_138 rfl ?_
            refine k_iadd d_Store_find_140 p16 ?_
            refine k_ild (x := (σ14.2 101 (Int.toNat ((σ14.2 102 (Int.toNat s8.1)) + s13.2)))) d_Store_find_141 (stB_101 hB) p17 rfl ?_
            refine k_aload_n d_Store_find_142 rfl ?_
            refine k_getR d_Store_find_143 fl_1_22 (stB_ob hB) rfl ?_
            refine k_iload_n d_Store_find_146 rfl ?_
            refine k_iload d_Store_find_147 rfl ?_
            refine k_iadd d_Store_find_149 p18 ?_
            refine k_ild (x := (σ14.2 101 (Int.toNat (a1 + s13.2)))) d_Store_find_150 (stB_101 hB) p19 rfl ?_
            refine k_icne d_Store_find_151 rfl (fun c33 => ?_) (fun c33 => ?_)
            · exact hY26 (fun z => (fun z => (c33) z.2) z.2)
            · exact hX25 (⟨c30, ⟨c32, c33⟩⟩)
      have pa36 := pt35
      refine k_icne d_Store_find_90 rfl (fun c37 => ?_) (fun c37 => ?_)
      · have hV42 := k_eqI (if_neg c37) hV34
        refine k_iconst d_Store_find_108 cI_m1 ?_
        exact hV42
      · have pa36 := pa36 c37
        have hV38 := k_eqI (if_pos c37) hV34
        have p10 := pa36
        refine k_aload_n d_Store_find_93 rfl ?_
        refine k_getR d_Store_find_94 fl_1_29 (stB_ob hB) rfl ?_
        refine k_iload d_Store_find_97 rfl ?_
        refine k_ild (x := (σ9.2 103 (Int.toNat s8.1))) d_Store_find_99 (stB_103 hB) p10 rfl ?_
        refine k_iload_n d_Store_find_100 rfl ?_
        refine k_icne d_Store_find_101 rfl (fun c39 => ?_) (fun c39 => ?_)
        · have hV41 := k_eqI (if_neg c39) hV38
          refine k_iconst d_Store_find_108 cI_m1 ?_
          exact hV41
        · have hV40 := k_eqI (if_pos c39) hV38
          refine k_iconst d_Store_find_104 cI_0 ?_
          refine k_goto d_Store_find_105 rfl ?_
          exact hV40
    have hY45 : ¬ (s8.2 < (σ9.1 1 14) ∧ (¬ s8.1 = (-1))) → OkI B L d 1 b_Store_find 8 1 187 [] [some (.inr 1), some (.inl a1), some (.inl a2), none, some (.inl s8.1), some (.inl s8.2), none, none] σ9 (qi Q) := fun e46 => by
      have h := ineg e46 h
      refine k_iconst d_Store_find_187 cI_m1 ?_
      exact k_iret d_Store_find_188 (Or.inl rfl) h
    refine k_icge d_Store_find_70 rfl (fun c47 => ?_) (fun c47 => ?_)
    · exact hY45 (fun z => c47 z.1)
    · refine k_iload d_Store_find_73 rfl ?_
      refine k_iconst d_Store_find_75 cI_m1 ?_
      refine k_iceq d_Store_find_76 rfl (fun c48 => ?_) (fun c48 => ?_)
      · exact hY45 (fun z => (fun z => z c48) z.2)
      · exact hX44 (⟨c47, c48⟩)
  · have h := ipos c5 h
    refine k_iload_n d_Store_find_13 rfl ?_
    refine k_bipush d_Store_find_14 cB_31 ?_
    refine k_imulw d_Store_find_16 ?_
    refine k_aload_n d_Store_find_17 rfl ?_
    refine k_getR d_Store_find_18 fl_1_22 (stB_ob hB) rfl ?_
    refine k_iload d_Store_find_21 rfl ?_
    obtain ⟨p52, h⟩ := h
    refine k_ild (x := (σ4.2 101 (Int.toNat s3.2))) d_Store_find_23 (stB_101 hB) p52 rfl ?_
    refine k_iaddw d_Store_find_24 ?_
    refine k_istore_n (lv' := [some (.inr 1), some (.inl a1), some (.inl a2), some (.inl (wr ((wr (s3.1 * 31)) + (σ4.2 101 (Int.toNat s3.2))))), some (.inl s3.2), none, none, none]) d_Store_find_25 rfl rfl ?_
    obtain ⟨p51, h⟩ := h
    refine k_iinc (lv' := [some (.inr 1), some (.inl a1), some (.inl a2), some (.inl (wr ((wr (s3.1 * 31)) + (σ4.2 101 (Int.toNat s3.2))))), some (.inl (s3.2 + 1)), none, none, none]) d_Store_find_26 cI_1 rfl rfl p51 rfl ?_
    refine k_goto d_Store_find_29 rfl ?_
    exact k_sb (sb_s (sb_s (sb_s (sb_s (sb_s (sb_s (sb_s (sb_s sb_nil)))))))) (hK2 ((wr ((wr (s3.1 * 31)) + (σ4.2 101 (Int.toNat s3.2)))), (s3.2 + 1)) _ h)
theorem d_Entities_enter_0 : decode b_Entities_enter 0 = .ok (.aload_n 0, 1) := by decide +kernel
theorem d_Entities_enter_1 : decode b_Entities_enter 1 = .ok (.getfield 82, 3) := by decide +kernel
theorem d_Entities_enter_4 : decode b_Entities_enter 4 = .ok (.aload_n 0, 1) := by decide +kernel
theorem d_Entities_enter_5 : decode b_Entities_enter 5 = .ok (.getfield 29, 3) := by decide +kernel
theorem d_Entities_enter_8 : decode b_Entities_enter 8 = .ok (.iload_n 1, 1) := by decide +kernel
theorem d_Entities_enter_9 : decode b_Entities_enter 9 = .ok (.iaload, 1) := by decide +kernel
theorem d_Entities_enter_10 : decode b_Entities_enter 10 = .ok (.iadd, 1) := by decide +kernel
theorem d_Entities_enter_11 : decode b_Entities_enter 11 = .ok (.aload_n 0, 1) := by decide +kernel
theorem d_Entities_enter_12 : decode b_Entities_enter 12 = .ok (.getfield 9, 3) := by decide +kernel
theorem d_Entities_enter_15 : decode b_Entities_enter 15 = .ok (.getfield 19, 3) := by decide +kernel
theorem d_Entities_enter_18 : decode b_Entities_enter 18 = .ok (.if_icmp .gt 15, 3) := by decide +kernel
theorem d_Entities_enter_21 : decode b_Entities_enter 21 = .ok (.aload_n 0, 1) := by decide +kernel
theorem d_Entities_enter_22 : decode b_Entities_enter 22 = .ok (.getfield 66, 3) := by decide +kernel
theorem d_Entities_enter_25 : decode b_Entities_enter 25 = .ok (.aload_n 0, 1) := by decide +kernel
theorem d_Entities_enter_26 : decode b_Entities_enter 26 = .ok (.getfield 36, 3) := by decide +kernel
theorem d_Entities_enter_29 : decode b_Entities_enter 29 = .ok (.arraylength, 1) := by decide +kernel
theorem d_Entities_enter_30 : decode b_Entities_enter 30 = .ok (.if_icmp .lt 12, 3) := by decide +kernel
theorem d_Entities_enter_33 : decode b_Entities_enter 33 = .ok (.aload_n 0, 1) := by decide +kernel
theorem d_Entities_enter_34 : decode b_Entities_enter 34 = .ok (.getfield 15, 3) := by decide +kernel
theorem d_Entities_enter_37 : decode b_Entities_enter 37 = .ok (.iconst 4, 1) := by decide +kernel
theorem d_Entities_enter_38 : decode b_Entities_enter 38 = .ok (.invokevirtual 107, 3) := by decide +kernel
theorem d_Entities_enter_41 : decode b_Entities_enter 41 = .ok (.return_, 1) := by decide +kernel
theorem d_Entities_enter_42 : decode b_Entities_enter 42 = .ok (.aload_n 0, 1) := by decide +kernel
theorem d_Entities_enter_43 : decode b_Entities_enter 43 = .ok (.getfield 32, 3) := by decide +kernel
theorem d_Entities_enter_46 : decode b_Entities_enter 46 = .ok (.iload_n 1, 1) := by decide +kernel
theorem d_Entities_enter_47 : decode b_Entities_enter 47 = .ok (.baload, 1) := by decide +kernel
theorem d_Entities_enter_48 : decode b_Entities_enter 48 = .ok (.ifCond .eq 13, 3) := by decide +kernel
theorem d_Entities_enter_51 : decode b_Entities_enter 51 = .ok (.aload_n 0, 1) := by decide +kernel
theorem d_Entities_enter_52 : decode b_Entities_enter 52 = .ok (.getfield 15, 3) := by decide +kernel
theorem d_Entities_enter_55 : decode b_Entities_enter 55 = .ok (.bipush 10, 2) := by decide +kernel
theorem d_Entities_enter_57 : decode b_Entities_enter 57 = .ok (.invokevirtual 107, 3) := by decide +kernel
theorem d_Entities_enter_60 : decode b_Entities_enter 60 = .ok (.return_, 1) := by decide +kernel
theorem d_Entities_enter_61 : decode b_Entities_enter 61 = .ok (.aload_n 0, 1) := by decide +kernel
theorem d_Entities_enter_62 : decode b_Entities_enter 62 = .ok (.dup, 1) := by decide +kernel
theorem d_Entities_enter_63 : decode b_Entities_enter 63 = .ok (.getfield 82, 3) := by decide +kernel
theorem d_Entities_enter_66 : decode b_Entities_enter 66 = .ok (.aload_n 0, 1) := by decide +kernel
theorem d_Entities_enter_67 : decode b_Entities_enter 67 = .ok (.getfield 29, 3) := by decide +kernel
theorem d_Entities_enter_70 : decode b_Entities_enter 70 = .ok (.iload_n 1, 1) := by decide +kernel
theorem d_Entities_enter_71 : decode b_Entities_enter 71 = .ok (.iaload, 1) := by decide +kernel
theorem d_Entities_enter_72 : decode b_Entities_enter 72 = .ok (.iadd, 1) := by decide +kernel
theorem d_Entities_enter_73 : decode b_Entities_enter 73 = .ok (.putfield 82, 3) := by decide +kernel
theorem d_Entities_enter_76 : decode b_Entities_enter 76 = .ok (.aload_n 0, 1) := by decide +kernel
theorem d_Entities_enter_77 : decode b_Entities_enter 77 = .ok (.getfield 32, 3) := by decide +kernel
theorem d_Entities_enter_80 : decode b_Entities_enter 80 = .ok (.iload_n 1, 1) := by decide +kernel
theorem d_Entities_enter_81 : decode b_Entities_enter 81 = .ok (.iconst 1, 1) := by decide +kernel
theorem d_Entities_enter_82 : decode b_Entities_enter 82 = .ok (.bastore, 1) := by decide +kernel
theorem d_Entities_enter_83 : decode b_Entities_enter 83 = .ok (.aload_n 0, 1) := by decide +kernel
theorem d_Entities_enter_84 : decode b_Entities_enter 84 = .ok (.getfield 36, 3) := by decide +kernel
theorem d_Entities_enter_87 : decode b_Entities_enter 87 = .ok (.aload_n 0, 1) := by decide +kernel
theorem d_Entities_enter_88 : decode b_Entities_enter 88 = .ok (.getfield 66, 3) := by decide +kernel
theorem d_Entities_enter_91 : decode b_Entities_enter 91 = .ok (.aload_n 0, 1) := by decide +kernel
theorem d_Entities_enter_92 : decode b_Entities_enter 92 = .ok (.getfield 15, 3) := by decide +kernel
theorem d_Entities_enter_95 : decode b_Entities_enter 95 = .ok (.getfield 88, 3) := by decide +kernel
theorem d_Entities_enter_98 : decode b_Entities_enter 98 = .ok (.iastore, 1) := by decide +kernel
theorem d_Entities_enter_99 : decode b_Entities_enter 99 = .ok (.aload_n 0, 1) := by decide +kernel
theorem d_Entities_enter_100 : decode b_Entities_enter 100 = .ok (.getfield 39, 3) := by decide +kernel
theorem d_Entities_enter_103 : decode b_Entities_enter 103 = .ok (.aload_n 0, 1) := by decide +kernel
theorem d_Entities_enter_104 : decode b_Entities_enter 104 = .ok (.getfield 66, 3) := by decide +kernel
theorem d_Entities_enter_107 : decode b_Entities_enter 107 = .ok (.aload_n 0, 1) := by decide +kernel
theorem d_Entities_enter_108 : decode b_Entities_enter 108 = .ok (.getfield 15, 3) := by decide +kernel
theorem d_Entities_enter_111 : decode b_Entities_enter 111 = .ok (.getfield 145, 3) := by decide +kernel
theorem d_Entities_enter_114 : decode b_Entities_enter 114 = .ok (.iastore, 1) := by decide +kernel
theorem d_Entities_enter_115 : decode b_Entities_enter 115 = .ok (.aload_n 0, 1) := by decide +kernel
theorem d_Entities_enter_116 : decode b_Entities_enter 116 = .ok (.getfield 42, 3) := by decide +kernel
theorem d_Entities_enter_119 : decode b_Entities_enter 119 = .ok (.aload_n 0, 1) := by decide +kernel
theorem d_Entities_enter_120 : decode b_Entities_enter 120 = .ok (.getfield 66, 3) := by decide +kernel
theorem d_Entities_enter_123 : decode b_Entities_enter 123 = .ok (.iload_n 1, 1) := by decide +kernel
theorem d_Entities_enter_124 : decode b_Entities_enter 124 = .ok (.iastore, 1) := by decide +kernel
theorem d_Entities_enter_125 : decode b_Entities_enter 125 = .ok (.aload_n 0, 1) := by decide +kernel
theorem d_Entities_enter_126 : decode b_Entities_enter 126 = .ok (.getfield 45, 3) := by decide +kernel
theorem d_Entities_enter_129 : decode b_Entities_enter 129 = .ok (.aload_n 0, 1) := by decide +kernel
theorem d_Entities_enter_130 : decode b_Entities_enter 130 = .ok (.getfield 66, 3) := by decide +kernel
theorem d_Entities_enter_133 : decode b_Entities_enter 133 = .ok (.iload_n 2, 1) := by decide +kernel
theorem d_Entities_enter_134 : decode b_Entities_enter 134 = .ok (.iastore, 1) := by decide +kernel
theorem d_Entities_enter_135 : decode b_Entities_enter 135 = .ok (.aload_n 0, 1) := by decide +kernel
theorem d_Entities_enter_136 : decode b_Entities_enter 136 = .ok (.dup, 1) := by decide +kernel
theorem d_Entities_enter_137 : decode b_Entities_enter 137 = .ok (.getfield 66, 3) := by decide +kernel
theorem d_Entities_enter_140 : decode b_Entities_enter 140 = .ok (.iconst 1, 1) := by decide +kernel
theorem d_Entities_enter_141 : decode b_Entities_enter 141 = .ok (.iadd, 1) := by decide +kernel
theorem d_Entities_enter_142 : decode b_Entities_enter 142 = .ok (.putfield 66, 3) := by decide +kernel
theorem d_Entities_enter_145 : decode b_Entities_enter 145 = .ok (.aload_n 0, 1) := by decide +kernel
theorem d_Entities_enter_146 : decode b_Entities_enter 146 = .ok (.getfield 15, 3) := by decide +kernel
theorem d_Entities_enter_149 : decode b_Entities_enter 149 = .ok (.aload_n 0, 1) := by decide +kernel
theorem d_Entities_enter_150 : decode b_Entities_enter 150 = .ok (.getfield 25, 3) := by decide +kernel
theorem d_Entities_enter_153 : decode b_Entities_enter 153 = .ok (.iload_n 1, 1) := by decide +kernel
theorem d_Entities_enter_154 : decode b_Entities_enter 154 = .ok (.iaload, 1) := by decide +kernel
theorem d_Entities_enter_155 : decode b_Entities_enter 155 = .ok (.putfield 88, 3) := by decide +kernel
theorem d_Entities_enter_158 : decode b_Entities_enter 158 = .ok (.aload_n 0, 1) := by decide +kernel
theorem d_Entities_enter_159 : decode b_Entities_enter 159 = .ok (.getfield 15, 3) := by decide +kernel
theorem d_Entities_enter_162 : decode b_Entities_enter 162 = .ok (.aload_n 0, 1) := by decide +kernel
theorem d_Entities_enter_163 : decode b_Entities_enter 163 = .ok (.getfield 25, 3) := by decide +kernel
theorem d_Entities_enter_166 : decode b_Entities_enter 166 = .ok (.iload_n 1, 1) := by decide +kernel
theorem d_Entities_enter_167 : decode b_Entities_enter 167 = .ok (.iaload, 1) := by decide +kernel
theorem d_Entities_enter_168 : decode b_Entities_enter 168 = .ok (.aload_n 0, 1) := by decide +kernel
theorem d_Entities_enter_169 : decode b_Entities_enter 169 = .ok (.getfield 29, 3) := by decide +kernel
theorem d_Entities_enter_172 : decode b_Entities_enter 172 = .ok (.iload_n 1, 1) := by decide +kernel
theorem d_Entities_enter_173 : decode b_Entities_enter 173 = .ok (.iaload, 1) := by decide +kernel
theorem d_Entities_enter_174 : decode b_Entities_enter 174 = .ok (.iadd, 1) := by decide +kernel
theorem d_Entities_enter_175 : decode b_Entities_enter 175 = .ok (.putfield 145, 3) := by decide +kernel
theorem d_Entities_enter_178 : decode b_Entities_enter 178 = .ok (.return_, 1) := by decide +kernel
/-- Entities_enter -/
def w_Entities_enter (L : Nat → Nat) (a1 : Int) (a2 : Int) (Q : IS → Prop) (σ : IS) : Prop := inL L 108 a1 ∧ inR ((σ.1 3 13) + (σ.2 108 (Int.toNat a1))) ∧ if ¬ (σ.1 1 0) < ((σ.1 3 13) + (σ.2 108 (Int.toNat a1))) ∧ ((σ.1 3 12) < ((L 110 : Nat) : Int)) then inL L 109 a1 ∧ if (σ.2 109 (Int.toNat a1)) = 0 then inL L 108 a1 ∧ inR ((σ.1 3 13) + (σ.2 108 (Int.toNat a1))) ∧ inL L 109 a1 ∧ inL L 110 (σ.1 3 12) ∧ inL L 111 (σ.1 3 12) ∧ inL L 112 (σ.1 3 12) ∧ inL L 113 (σ.1 3 12) ∧ inR ((σ.1 3 12) + 1) ∧ inL L 107 a1 ∧ inL L 107 a1 ∧ inL L 108 a1 ∧ inR ((σ.2 107 (Int.toNat a1)) + (σ.2 108 (Int.toNat a1))) ∧ Q (pf (pf (pf (pr (pr (pr (pr (pr (pf σ 3 13 ((σ.1 3 13) + (σ.2 108 (Int.toNat a1)))) 109 (Int.toNat a1) 1) 110 (Int.toNat (σ.1 3 12)) (σ.1 2 2)) 111 (Int.toNat (σ.1 3 12)) (σ.1 2 3)) 112 (Int.toNat (σ.1 3 12)) a1) 113 (Int.toNat (σ.1 3 12)) a2) 3 12 ((σ.1 3 12) + 1)) 2 2 (σ.2 107 (Int.toNat a1))) 2 3 ((σ.2 107 (Int.toNat a1)) + (σ.2 108 (Int.toNat a1)))) else w_Reader_fail L 10 (fun σ14 => Q σ14) σ else w_Reader_fail L 4 (fun σ17 => Q σ17) σ
set_option maxHeartbeats 4000000 in
set_option maxRecDepth 20000 in
theorem s_Entities_enter {L : Nat → Nat} (hL : ∀ r, L r < 2147483648) {d : Nat} (hd : 1 ≤ d) {a1 : Int} {a2 : Int} {Q : IS → Prop} {σ : IS}  (h : w_Entities_enter L a1 a2 Q σ) : OkI BF L d 3 b_Entities_enter 3 0 0 [] [some (.inr 3), some (.inl a1), some (.inl a2)] σ (qv Q) := by
  unfold w_Entities_enter at h
  obtain ⟨d, rfl⟩ : ∃ e, d = e + 1 := ⟨d - 1, by omega⟩
  refine k_sb (lv' := [some (.inr 3), some (.inl a1), some (.inl a2)]) (sb_s (sb_s (sb_s sb_nil))) ?_
  refine k_aload_n d_Entities_enter_0 rfl ?_
  refine k_getI (x := (σ.1 3 13)) d_Entities_enter_1 fl_3_82 ob_3 rfl rfl ?_
  refine k_aload_n d_Entities_enter_4 rfl ?_
  refine k_getR d_Entities_enter_5 fl_3_29 ob_3 rfl ?_
  refine k_iload_n d_Entities_enter_8 rfl ?_
  obtain ⟨p25, h⟩ := h
  refine k_ild (x := (σ.2 108 (Int.toNat a1))) d_Entities_enter_9 rI_108 p25 rfl ?_
  obtain ⟨p24, h⟩ := h
  refine k_iadd d_Entities_enter_10 p24 ?_
  refine k_aload_n d_Entities_enter_11 rfl ?_
  refine k_getR d_Entities_enter_12 fl_3_9 ob_3 rfl ?_
  refine k_getI (x := (σ.1 1 0)) d_Entities_enter_15 fl_3_19 ob_1 rfl rfl ?_
  have hX19 : (¬ (σ.1 1 0) < ((σ.1 3 13) + (σ.2 108 (Int.toNat a1))) ∧ ((σ.1 3 12) < ((L 110 : Nat) : Int))) → OkI BF L (d + 1) 3 b_Entities_enter 3 0 42 [] [some (.inr 3), some (.inl a1), some (.inl a2)] σ (qv Q) := fun e21 => by
    have h := ipos e21 h
    refine k_aload_n d_Entities_enter_42 rfl ?_
    refine k_getR d_Entities_enter_43 fl_3_32 ob_3 rfl ?_
    refine k_iload_n d_Entities_enter_46 rfl ?_
    obtain ⟨p16, h⟩ := h
    refine k_bld (x := (σ.2 109 (Int.toNat a1))) d_Entities_enter_47 rB_109 p16 rfl ?_
    refine k_ifeq d_Entities_enter_48 rfl (fun c1 => ?_) (fun c1 => ?_)
    · have h := ipos c1 h
      refine k_aload_n d_Entities_enter_61 rfl ?_
      refine k_dup d_Entities_enter_62 ?_
      refine k_getI (x := (σ.1 3 13)) d_Entities_enter_63 fl_3_82 ob_3 rfl rfl ?_
      refine k_aload_n d_Entities_enter_66 rfl ?_
      refine k_getR d_Entities_enter_67 fl_3_29 ob_3 rfl ?_
      refine k_iload_n d_Entities_enter_70 rfl ?_
      obtain ⟨p13, h⟩ := h
      refine k_ild (x := (σ.2 108 (Int.toNat a1))) d_Entities_enter_71 rI_108 p13 rfl ?_
      obtain ⟨p12, h⟩ := h
      refine k_iadd d_Entities_enter_72 p12 ?_
      refine k_putI d_Entities_enter_73 fl_3_82 ob_3 rfl ?_
      refine k_aload_n d_Entities_enter_76 rfl ?_
      refine k_getR d_Entities_enter_77 fl_3_32 ob_3 rfl ?_
      refine k_iload_n d_Entities_enter_80 rfl ?_
      refine k_iconst d_Entities_enter_81 cI_1 ?_
      obtain ⟨p11, h⟩ := h
      refine k_zst d_Entities_enter_82 rz_109 p11 (Or.inr rfl) ?_
      refine k_aload_n d_Entities_enter_83 rfl ?_
      refine k_getR d_Entities_enter_84 fl_3_36 ob_3 rfl ?_
      refine k_aload_n d_Entities_enter_87 rfl ?_
      refine k_getI (x := (σ.1 3 12)) d_Entities_enter_88 fl_3_66 ob_3 rfl rfl ?_
      refine k_aload_n d_Entities_enter_91 rfl ?_
      refine k_getR d_Entities_enter_92 fl_3_15 ob_3 rfl ?_
      refine k_getI (x := (σ.1 2 2)) d_Entities_enter_95 fl_3_88 ob_2 rfl rfl ?_
      obtain ⟨p10, h⟩ := h
      refine k_ist d_Entities_enter_98 rI_110 p10 ?_
      refine k_aload_n d_Entities_enter_99 rfl ?_
      refine k_getR d_Entities_enter_100 fl_3_39 ob_3 rfl ?_
      refine k_aload_n d_Entities_enter_103 rfl ?_
      refine k_getI (x := (σ.1 3 12)) d_Entities_enter_104 fl_3_66 ob_3 rfl rfl ?_
      refine k_aload_n d_Entities_enter_107 rfl ?_
      refine k_getR d_Entities_enter_108 fl_3_15 ob_3 rfl ?_
      refine k_getI (x := (σ.1 2 3)) d_Entities_enter_111 fl_3_145 ob_2 rfl rfl ?_
      obtain ⟨p9, h⟩ := h
      refine k_ist d_Entities_enter_114 rI_111 p9 ?_
      refine k_aload_n d_Entities_enter_115 rfl ?_
      refine k_getR d_Entities_enter_116 fl_3_42 ob_3 rfl ?_
      refine k_aload_n d_Entities_enter_119 rfl ?_
      refine k_getI (x := (σ.1 3 12)) d_Entities_enter_120 fl_3_66 ob_3 rfl rfl ?_
      refine k_iload_n d_Entities_enter_123 rfl ?_
      obtain ⟨p8, h⟩ := h
      refine k_ist d_Entities_enter_124 rI_112 p8 ?_
      refine k_aload_n d_Entities_enter_125 rfl ?_
      refine k_getR d_Entities_enter_126 fl_3_45 ob_3 rfl ?_
      refine k_aload_n d_Entities_enter_129 rfl ?_
      refine k_getI (x := (σ.1 3 12)) d_Entities_enter_130 fl_3_66 ob_3 rfl rfl ?_
      refine k_iload_n d_Entities_enter_133 rfl ?_
      obtain ⟨p7, h⟩ := h
      refine k_ist d_Entities_enter_134 rI_113 p7 ?_
      refine k_aload_n d_Entities_enter_135 rfl ?_
      refine k_dup d_Entities_enter_136 ?_
      refine k_getI (x := (σ.1 3 12)) d_Entities_enter_137 fl_3_66 ob_3 rfl rfl ?_
      refine k_iconst d_Entities_enter_140 cI_1 ?_
      obtain ⟨p6, h⟩ := h
      refine k_iadd d_Entities_enter_141 p6 ?_
      refine k_putI d_Entities_enter_142 fl_3_66 ob_3 rfl ?_
      refine k_aload_n d_Entities_enter_145 rfl ?_
      refine k_getR d_Entities_enter_146 fl_3_15 ob_3 rfl ?_
      refine k_aload_n d_Entities_enter_149 rfl ?_
      refine k_getR d_Entities_enter_150 fl_3_25 ob_3 rfl ?_
      refine k_iload_n d_Entities_enter_153 rfl ?_
      obtain ⟨p5, h⟩ := h
      refine k_ild (x := (σ.2 107 (Int.toNat a1))) d_Entities_enter_154 rI_107 p5 rfl ?_
      refine k_putI d_Entities_enter_155 fl_3_88 ob_2 rfl ?_
      refine k_aload_n d_Entities_enter_158 rfl ?_
      refine k_getR d_Entities_enter_159 fl_3_15 ob_3 rfl ?_
      refine k_aload_n d_Entities_enter_162 rfl ?_
      refine k_getR d_Entities_enter_163 fl_3_25 ob_3 rfl ?_
      refine k_iload_n d_Entities_enter_166 rfl ?_
      obtain ⟨p4, h⟩ := h
      refine k_ild (x := (σ.2 107 (Int.toNat a1))) d_Entities_enter_167 rI_107 p4 rfl ?_
      refine k_aload_n d_Entities_enter_168 rfl ?_
      refine k_getR d_Entities_enter_169 fl_3_29 ob_3 rfl ?_
      refine k_iload_n d_Entities_enter_172 rfl ?_
      obtain ⟨p3, h⟩ := h
      refine k_ild (x := (σ.2 108 (Int.toNat a1))) d_Entities_enter_173 rI_108 p3 rfl ?_
      obtain ⟨p2, h⟩ := h
      refine k_iadd d_Entities_enter_174 p2 ?_
      refine k_putI d_Entities_enter_175 fl_3_145 ob_2 rfl ?_
      exact k_ret d_Entities_enter_178 h
    · have h := ineg c1 h
      refine k_aload_n d_Entities_enter_51 rfl ?_
      refine k_getR d_Entities_enter_52 fl_3_15 ob_3 rfl ?_
      refine k_bipush d_Entities_enter_55 cB_10 ?_
      refine k_cvv [.inl 10] d_Entities_enter_57 ml_3_107 rfl rfl ob_2 rfl (s_Reader_fail hL (by omega)  h) (fun σ14 h => ?_)
      exact k_ret d_Entities_enter_60 h
  have hY20 : ¬ (¬ (σ.1 1 0) < ((σ.1 3 13) + (σ.2 108 (Int.toNat a1))) ∧ ((σ.1 3 12) < ((L 110 : Nat) : Int))) → OkI BF L (d + 1) 3 b_Entities_enter 3 0 33 [] [some (.inr 3), some (.inl a1), some (.inl a2)] σ (qv Q) := fun e21 => by
    have h := ineg e21 h
    refine k_aload_n d_Entities_enter_33 rfl ?_
    refine k_getR d_Entities_enter_34 fl_3_15 ob_3 rfl ?_
    refine k_iconst d_Entities_enter_37 cI_4 ?_
    refine k_cvv [.inl 4] d_Entities_enter_38 ml_3_107 rfl rfl ob_2 rfl (s_Reader_fail hL (by omega)  h) (fun σ17 h => ?_)
    exact k_ret d_Entities_enter_41 h
  refine k_icgt d_Entities_enter_18 rfl (fun c22 => ?_) (fun c22 => ?_)
  · exact hY20 (fun z => z.1 c22)
  · refine k_aload_n d_Entities_enter_21 rfl ?_
    refine k_getI (x := (σ.1 3 12)) d_Entities_enter_22 fl_3_66 ob_3 rfl rfl ?_
    refine k_aload_n d_Entities_enter_25 rfl ?_
    refine k_getR d_Entities_enter_26 fl_3_36 ob_3 rfl ?_
    refine k_len d_Entities_enter_29 rI_110.1 (hL _) ?_
    refine k_iclt d_Entities_enter_30 rfl (fun c23 => ?_) (fun c23 => ?_)
    · exact hX19 (⟨c22, c23⟩)
    · exact hY20 (fun z => (c23) z.2)
theorem d_Entities_enterParameter_0 : decode b_Entities_enterParameter 0 = .ok (.iload_n 1, 1) := by decide +kernel
theorem d_Entities_enterParameter_1 : decode b_Entities_enterParameter 1 = .ok (.iconst (-1), 1) := by decide +kernel
theorem d_Entities_enterParameter_2 : decode b_Entities_enterParameter 2 = .ok (.if_icmp .ne 7, 3) := by decide +kernel
theorem d_Entities_enterParameter_5 : decode b_Entities_enterParameter 5 = .ok (.iconst 0, 1) := by decide +kernel
theorem d_Entities_enterParameter_6 : decode b_Entities_enterParameter 6 = .ok (.goto 9, 3) := by decide +kernel
theorem d_Entities_enterParameter_9 : decode b_Entities_enterParameter 9 = .ok (.aload_n 0, 1) := by decide +kernel
theorem d_Entities_enterParameter_10 : decode b_Entities_enterParameter 10 = .ok (.getfield 54, 3) := by decide +kernel
theorem d_Entities_enterParameter_13 : decode b_Entities_enterParameter 13 = .ok (.iload_n 1, 1) := by decide +kernel
theorem d_Entities_enterParameter_14 : decode b_Entities_enterParameter 14 = .ok (.iaload, 1) := by decide +kernel
theorem d_Entities_enterParameter_15 : decode b_Entities_enterParameter 15 = .ok (.istore_n 2, 1) := by decide +kernel
theorem d_Entities_enterParameter_16 : decode b_Entities_enterParameter 16 = .ok (.iload_n 2, 1) := by decide +kernel
theorem d_Entities_enterParameter_17 : decode b_Entities_enterParameter 17 = .ok (.ifCond .ne 13, 3) := by decide +kernel
theorem d_Entities_enterParameter_20 : decode b_Entities_enterParameter 20 = .ok (.aload_n 0, 1) := by decide +kernel
theorem d_Entities_enterParameter_21 : decode b_Entities_enterParameter 21 = .ok (.getfield 15, 3) := by decide +kernel
theorem d_Entities_enterParameter_24 : decode b_Entities_enterParameter 24 = .ok (.bipush 9, 2) := by decide +kernel
theorem d_Entities_enterParameter_26 : decode b_Entities_enterParameter 26 = .ok (.invokevirtual 107, 3) := by decide +kernel
theorem d_Entities_enterParameter_29 : decode b_Entities_enterParameter 29 = .ok (.return_, 1) := by decide +kernel
theorem d_Entities_enterParameter_30 : decode b_Entities_enterParameter 30 = .ok (.aload_n 0, 1) := by decide +kernel
theorem d_Entities_enterParameter_31 : decode b_Entities_enterParameter 31 = .ok (.iconst 1, 1) := by decide +kernel
theorem d_Entities_enterParameter_32 : decode b_Entities_enterParameter 32 = .ok (.putfield 76, 3) := by decide +kernel
theorem d_Entities_enterParameter_35 : decode b_Entities_enterParameter 35 = .ok (.aload_n 0, 1) := by decide +kernel
theorem d_Entities_enterParameter_36 : decode b_Entities_enterParameter 36 = .ok (.iload_n 2, 1) := by decide +kernel
theorem d_Entities_enterParameter_37 : decode b_Entities_enterParameter 37 = .ok (.iconst 1, 1) := by decide +kernel
theorem d_Entities_enterParameter_38 : decode b_Entities_enterParameter 38 = .ok (.isub, 1) := by decide +kernel
theorem d_Entities_enterParameter_39 : decode b_Entities_enterParameter 39 = .ok (.iconst (-1), 1) := by decide +kernel
theorem d_Entities_enterParameter_40 : decode b_Entities_enterParameter 40 = .ok (.invokevirtual 123, 3) := by decide +kernel
theorem d_Entities_enterParameter_43 : decode b_Entities_enterParameter 43 = .ok (.return_, 1) := by decide +kernel
/-- Entities_enterParameter -/
def w_Entities_enterParameter (L : Nat → Nat) (a1 : Int) (Q : IS → Prop) (σ : IS) : Prop := ((¬ a1 = (-1) → inL L 115 a1)) ∧ if (if a1 = (-1) then (0 : Int) else (σ.2 115 (Int.toNat a1))) = 0 then w_Reader_fail L 9 (fun σ6 => Q σ6) σ else inR ((if a1 = (-1) then (0 : Int) else (σ.2 115 (Int.toNat a1))) - 1) ∧ w_Entities_enter L ((if a1 = (-1) then (0 : Int) else (σ.2 115 (Int.toNat a1))) - 1) (-1) (fun σ3 => Q σ3) (pf σ 3 16 1)
set_option maxHeartbeats 4000000 in
set_option maxRecDepth 20000 in
theorem s_Entities_enterParameter {L : Nat → Nat} (hL : ∀ r, L r < 2147483648) {d : Nat} (hd : 2 ≤ d) {a1 : Int} {Q : IS → Prop} {σ : IS}  (h : w_Entities_enterParameter L a1 Q σ) : OkI BF L d 3 b_Entities_enterParameter 3 0 0 [] [some (.inr 3), some (.inl a1)] σ (qv Q) := by
  unfold w_Entities_enterParameter at h
  obtain ⟨d, rfl⟩ : ∃ e, d = e + 1 := ⟨d - 1, by omega⟩
  refine k_sb (lv' := [some (.inr 3), some (.inl a1), none]) (sb_s (sb_s (sb_e sb_nil))) ?_
  refine k_iload_n d_Entities_enterParameter_0 rfl ?_
  refine k_iconst d_Entities_enterParameter_1 cI_m1 ?_
  obtain ⟨pt9, h⟩ := h
  have hV8 : OkI BF L (d + 1) 3 b_Entities_enterParameter 3 0 15 [.inl (if a1 = (-1) then (0 : Int) else (σ.2 115 (Int.toNat a1)))] [some (.inr 3), some (.inl a1), none] σ (qv Q) := by
    refine k_istore_n (lv' := [some (.inr 3), some (.inl a1), some (.inl (if a1 = (-1) then (0 : Int) else (σ.2 115 (Int.toNat a1))))]) d_Entities_enterParameter_15 rfl rfl ?_
    refine k_iload_n d_Entities_enterParameter_16 rfl ?_
    refine k_ifne d_Entities_enterParameter_17 rfl (fun c2 => ?_) (fun c2 => ?_)
    · have h := ineg c2 h
      refine k_aload_n d_Entities_enterParameter_30 rfl ?_
      refine k_iconst d_Entities_enterParameter_31 cI_1 ?_
      refine k_putZ d_Entities_enterParameter_32 fl_3_76 ob_3 rfl (Or.inr rfl) ?_
      refine k_aload_n d_Entities_enterParameter_35 rfl ?_
      refine k_iload_n d_Entities_enterParameter_36 rfl ?_
      refine k_iconst d_Entities_enterParameter_37 cI_1 ?_
      obtain ⟨p5, h⟩ := h
      refine k_isub d_Entities_enterParameter_38 p5 ?_
      refine k_iconst d_Entities_enterParameter_39 cI_m1 ?_
      refine k_cvv [.inl ((if a1 = (-1) then (0 : Int) else (σ.2 115 (Int.toNat a1))) - 1), .inl (-1)] d_Entities_enterParameter_40 ml_3_123 rfl rfl ob_3 rfl (s_Entities_enter hL (by omega)  h) (fun σ3 h => ?_)
      exact k_ret d_Entities_enterParameter_43 h
    · have h := ipos c2 h
      refine k_aload_n d_Entities_enterParameter_20 rfl ?_
      refine k_getR d_Entities_enterParameter_21 fl_3_15 ob_3 rfl ?_
      refine k_bipush d_Entities_enterParameter_24 cB_9 ?_
      refine k_cvv [.inl 9] d_Entities_enterParameter_26 ml_3_107 rfl rfl ob_2 rfl (s_Reader_fail hL (by omega)  h) (fun σ6 h => ?_)
      exact k_ret d_Entities_enterParameter_29 h
  have pb10 := pt9
  refine k_icne d_Entities_enterParameter_2 rfl (fun c11 => ?_) (fun c11 => ?_)
  · have pb10 := pb10 c11
    have hV13 := k_eqI (if_neg c11) hV8
    have p1 := pb10
    refine k_aload_n d_Entities_enterParameter_9 rfl ?_
    refine k_getR d_Entities_enterParameter_10 fl_3_54 ob_3 rfl ?_
    refine k_iload_n d_Entities_enterParameter_13 rfl ?_
    refine k_ild (x := (σ.2 115 (Int.toNat a1))) d_Entities_enterParameter_14 rI_115 p1 rfl ?_
    exact hV13
  · have hV12 := k_eqI (if_pos c11) hV8
    refine k_iconst d_Entities_enterParameter_5 cI_0 ?_
    refine k_goto d_Entities_enterParameter_6 rfl ?_
    exact hV12
theorem d_Doctype_readParameterReference_0 : decode b_Doctype_readParameterReference 0 = .ok (.aload_n 0, 1) := by decide +kernel
theorem d_Doctype_readParameterReference_1 : decode b_Doctype_readParameterReference 1 = .ok (.getfield 17, 3) := by decide +kernel
theorem d_Doctype_readParameterReference_4 : decode b_Doctype_readParameterReference 4 = .ok (.ldc 155, 2) := by decide +kernel
theorem d_Doctype_readParameterReference_6 : decode b_Doctype_readParameterReference 6 = .ok (.invokevirtual 53, 3) := by decide +kernel
theorem d_Doctype_readParameterReference_9 : decode b_Doctype_readParameterReference 9 = .ok (.aload_n 0, 1) := by decide +kernel
theorem d_Doctype_readParameterReference_10 : decode b_Doctype_readParameterReference 10 = .ok (.getfield 17, 3) := by decide +kernel
theorem d_Doctype_readParameterReference_13 : decode b_Doctype_readParameterReference 13 = .ok (.invokevirtual 62, 3) := by decide +kernel
theorem d_Doctype_readParameterReference_16 : decode b_Doctype_readParameterReference 16 = .ok (.istore_n 1, 1) := by decide +kernel
theorem d_Doctype_readParameterReference_17 : decode b_Doctype_readParameterReference 17 = .ok (.aload_n 0, 1) := by decide +kernel
theorem d_Doctype_readParameterReference_18 : decode b_Doctype_readParameterReference 18 = .ok (.getfield 17, 3) := by decide +kernel
theorem d_Doctype_readParameterReference_21 : decode b_Doctype_readParameterReference 21 = .ok (.getfield 66, 3) := by decide +kernel
theorem d_Doctype_readParameterReference_24 : decode b_Doctype_readParameterReference 24 = .ok (.iload_n 1, 1) := by decide +kernel
theorem d_Doctype_readParameterReference_25 : decode b_Doctype_readParameterReference 25 = .ok (.isub, 1) := by decide +kernel
theorem d_Doctype_readParameterReference_26 : decode b_Doctype_readParameterReference 26 = .ok (.istore_n 2, 1) := by decide +kernel
theorem d_Doctype_readParameterReference_27 : decode b_Doctype_readParameterReference 27 = .ok (.aload_n 0, 1) := by decide +kernel
theorem d_Doctype_readParameterReference_28 : decode b_Doctype_readParameterReference 28 = .ok (.getfield 17, 3) := by decide +kernel
theorem d_Doctype_readParameterReference_31 : decode b_Doctype_readParameterReference 31 = .ok (.ldc 157, 2) := by decide +kernel
theorem d_Doctype_readParameterReference_33 : decode b_Doctype_readParameterReference 33 = .ok (.invokevirtual 53, 3) := by decide +kernel
theorem d_Doctype_readParameterReference_36 : decode b_Doctype_readParameterReference 36 = .ok (.aload_n 0, 1) := by decide +kernel
theorem d_Doctype_readParameterReference_37 : decode b_Doctype_readParameterReference 37 = .ok (.getfield 17, 3) := by decide +kernel
theorem d_Doctype_readParameterReference_40 : decode b_Doctype_readParameterReference 40 = .ok (.getfield 140, 3) := by decide +kernel
theorem d_Doctype_readParameterReference_43 : decode b_Doctype_readParameterReference 43 = .ok (.ifCond .ne 19, 3) := by decide +kernel
theorem d_Doctype_readParameterReference_46 : decode b_Doctype_readParameterReference 46 = .ok (.aload_n 0, 1) := by decide +kernel
theorem d_Doctype_readParameterReference_47 : decode b_Doctype_readParameterReference 47 = .ok (.getfield 21, 3) := by decide +kernel
theorem d_Doctype_readParameterReference_50 : decode b_Doctype_readParameterReference 50 = .ok (.aload_n 0, 1) := by decide +kernel
theorem d_Doctype_readParameterReference_51 : decode b_Doctype_readParameterReference 51 = .ok (.getfield 11, 3) := by decide +kernel
theorem d_Doctype_readParameterReference_54 : decode b_Doctype_readParameterReference 54 = .ok (.iload_n 1, 1) := by decide +kernel
theorem d_Doctype_readParameterReference_55 : decode b_Doctype_readParameterReference 55 = .ok (.iload_n 2, 1) := by decide +kernel
theorem d_Doctype_readParameterReference_56 : decode b_Doctype_readParameterReference 56 = .ok (.invokevirtual 159, 3) := by decide +kernel
theorem d_Doctype_readParameterReference_59 : decode b_Doctype_readParameterReference 59 = .ok (.invokevirtual 162, 3) := by decide +kernel
theorem d_Doctype_readParameterReference_62 : decode b_Doctype_readParameterReference 62 = .ok (.return_, 1) := by decide +kernel
/-- Doctype_readParameterReference -/
def w_Doctype_readParameterReference (L : Nat → Nat)  (Q : IS → Prop) (σ : IS) : Prop := w_Reader_need L 1033 (fun σ1 => w_Reader_readName L  (fun v4 σ3 => inR ((σ3.1 2 2) - v4) ∧ w_Reader_need L 1034 (fun σ5 => WJ (fun (s9 : Unit) (σ10 : IS) => Q σ10) (fun J7 => if (σ5.1 2 4) = 0 then w_Store_find L v4 ((σ3.1 2 2) - v4) (fun v13 σ12 => w_Entities_enterParameter L v13 (fun σ14 => J7 () σ14) σ12) σ5 else J7 () σ5)) σ3) σ1) σ
set_option maxHeartbeats 4000000 in
set_option maxRecDepth 20000 in
theorem s_Doctype_readParameterReference {L : Nat → Nat} (hL : ∀ r, L r < 2147483648) {d : Nat} (hd : 3 ≤ d)  {Q : IS → Prop} {σ : IS}  (h : w_Doctype_readParameterReference L  Q σ) : OkI BF L d 5 b_Doctype_readParameterReference 3 0 0 [] [some (.inr 5)] σ (qv Q) := by
  unfold w_Doctype_readParameterReference at h
  obtain ⟨d, rfl⟩ : ∃ e, d = e + 1 := ⟨d - 1, by omega⟩
  refine k_sb (lv' := [some (.inr 5), none, none]) (sb_s (sb_e (sb_e sb_nil))) ?_
  refine k_aload_n d_Doctype_readParameterReference_0 rfl ?_
  refine k_getR d_Doctype_readParameterReference_1 fl_5_17 ob_5 rfl ?_
  refine k_ldc d_Doctype_readParameterReference_4 ks_5_155 rfl ?_
  refine k_cvv [.inr 1033] d_Doctype_readParameterReference_6 ml_5_53 rfl rfl ob_2 rfl (s_Reader_need hL (by omega) it_1033 h) (fun σ1 h => ?_)
  refine k_aload_n d_Doctype_readParameterReference_9 rfl ?_
  refine k_getR d_Doctype_readParameterReference_10 fl_5_17 ob_5 rfl ?_
  refine k_cvi [] d_Doctype_readParameterReference_13 ml_5_62 rfl rfl ob_2 rfl (s_Reader_readName hL (by omega)  h) (fun v4 σ3 h => ?_)
  refine k_istore_n (lv' := [some (.inr 5), some (.inl v4), none]) d_Doctype_readParameterReference_16 rfl rfl ?_
  refine k_aload_n d_Doctype_readParameterReference_17 rfl ?_
  refine k_getR d_Doctype_readParameterReference_18 fl_5_17 ob_5 rfl ?_
  refine k_getI (x := (σ3.1 2 2)) d_Doctype_readParameterReference_21 fl_5_66 ob_2 rfl rfl ?_
  refine k_iload_n d_Doctype_readParameterReference_24 rfl ?_
  obtain ⟨p16, h⟩ := h
  refine k_isub d_Doctype_readParameterReference_25 p16 ?_
  refine k_istore_n (lv' := [some (.inr 5), some (.inl v4), some (.inl ((σ3.1 2 2) - v4))]) d_Doctype_readParameterReference_26 rfl rfl ?_
  refine k_aload_n d_Doctype_readParameterReference_27 rfl ?_
  refine k_getR d_Doctype_readParameterReference_28 fl_5_17 ob_5 rfl ?_
  refine k_ldc d_Doctype_readParameterReference_31 ks_5_157 rfl ?_
  refine k_cvv [.inr 1034] d_Doctype_readParameterReference_33 ml_5_53 rfl rfl ob_2 rfl (s_Reader_need hL (by omega) it_1034 h) (fun σ5 h => ?_)
  refine k_aload_n d_Doctype_readParameterReference_36 rfl ?_
  refine k_getR d_Doctype_readParameterReference_37 fl_5_17 ob_5 rfl ?_
  refine k_getI (x := (σ5.1 2 4)) d_Doctype_readParameterReference_40 fl_5_140 ob_2 rfl rfl ?_
  refine k_join (S := Unit) (pc' := 62) (st' := fun s9 => []) (lv' := fun s9 => [none, none, none]) (fun s9 σ10 h => ?_) (fun J7 hJ8 h => ?_) h
  · exact k_ret d_Doctype_readParameterReference_62 h
  · refine k_ifne d_Doctype_readParameterReference_43 rfl (fun c11 => ?_) (fun c11 => ?_)
    · have h := ineg c11 h
      exact k_sb (sb_n (sb_n (sb_n sb_nil))) (hJ8 () _ h)
    · have h := ipos c11 h
      refine k_aload_n d_Doctype_readParameterReference_46 rfl ?_
      refine k_getR d_Doctype_readParameterReference_47 fl_5_21 ob_5 rfl ?_
      refine k_aload_n d_Doctype_readParameterReference_50 rfl ?_
      refine k_getR d_Doctype_readParameterReference_51 fl_5_11 ob_5 rfl ?_
      refine k_iload_n d_Doctype_readParameterReference_54 rfl ?_
      refine k_iload_n d_Doctype_readParameterReference_55 rfl ?_
      refine k_cvi [.inl v4, .inl ((σ3.1 2 2) - v4)] d_Doctype_readParameterReference_56 ml_5_159 rfl rfl ob_1 rfl (s_Store_find hL (by omega) stB_BF h) (fun v13 σ12 h => ?_)
      refine k_cvv [.inl v13] d_Doctype_readParameterReference_59 ml_5_162 rfl rfl ob_3 rfl (s_Entities_enterParameter hL (by omega)  h) (fun σ14 h => ?_)
      exact k_sb (sb_n (sb_n (sb_n sb_nil))) (hJ8 () _ h)
theorem d_Doctype_readEnd_0 : decode b_Doctype_readEnd 0 = .ok (.aload_n 0, 1) := by decide +kernel
theorem d_Doctype_readEnd_1 : decode b_Doctype_readEnd 1 = .ok (.getfield 17, 3) := by decide +kernel
theorem d_Doctype_readEnd_4 : decode b_Doctype_readEnd 4 = .ok (.ldc 153, 2) := by decide +kernel
theorem d_Doctype_readEnd_6 : decode b_Doctype_readEnd 6 = .ok (.invokevirtual 53, 3) := by decide +kernel
theorem d_Doctype_readEnd_9 : decode b_Doctype_readEnd 9 = .ok (.aload_n 0, 1) := by decide +kernel
theorem d_Doctype_readEnd_10 : decode b_Doctype_readEnd 10 = .ok (.getfield 17, 3) := by decide +kernel
theorem d_Doctype_readEnd_13 : decode b_Doctype_readEnd 13 = .ok (.invokevirtual 69, 3) := by decide +kernel
theorem d_Doctype_readEnd_16 : decode b_Doctype_readEnd 16 = .ok (.pop, 1) := by decide +kernel
theorem d_Doctype_readEnd_17 : decode b_Doctype_readEnd 17 = .ok (.aload_n 0, 1) := by decide +kernel
theorem d_Doctype_readEnd_18 : decode b_Doctype_readEnd 18 = .ok (.getfield 17, 3) := by decide +kernel
theorem d_Doctype_readEnd_21 : decode b_Doctype_readEnd 21 = .ok (.ldc 90, 2) := by decide +kernel
theorem d_Doctype_readEnd_23 : decode b_Doctype_readEnd 23 = .ok (.invokevirtual 53, 3) := by decide +kernel
theorem d_Doctype_readEnd_26 : decode b_Doctype_readEnd 26 = .ok (.aload_n 0, 1) := by decide +kernel
theorem d_Doctype_readEnd_27 : decode b_Doctype_readEnd 27 = .ok (.iconst 0, 1) := by decide +kernel
theorem d_Doctype_readEnd_28 : decode b_Doctype_readEnd 28 = .ok (.putfield 48, 3) := by decide +kernel
theorem d_Doctype_readEnd_31 : decode b_Doctype_readEnd 31 = .ok (.return_, 1) := by decide +kernel
/-- Doctype_readEnd -/
def w_Doctype_readEnd (L : Nat → Nat)  (Q : IS → Prop) (σ : IS) : Prop := w_Reader_need L 1032 (fun σ1 => w_Reader_skipSpace L  (fun v4 σ3 => w_Reader_need L 1025 (fun σ5 => Q (pf σ5 5 6 0)) σ3) σ1) σ
set_option maxHeartbeats 4000000 in
set_option maxRecDepth 20000 in
theorem s_Doctype_readEnd {L : Nat → Nat} (hL : ∀ r, L r < 2147483648) {d : Nat} (hd : 2 ≤ d)  {Q : IS → Prop} {σ : IS}  (h : w_Doctype_readEnd L  Q σ) : OkI BF L d 5 b_Doctype_readEnd 1 0 0 [] [some (.inr 5)] σ (qv Q) := by
  unfold w_Doctype_readEnd at h
  obtain ⟨d, rfl⟩ : ∃ e, d = e + 1 := ⟨d - 1, by omega⟩
  refine k_sb (lv' := [some (.inr 5)]) (sb_s sb_nil) ?_
  refine k_aload_n d_Doctype_readEnd_0 rfl ?_
  refine k_getR d_Doctype_readEnd_1 fl_5_17 ob_5 rfl ?_
  refine k_ldc d_Doctype_readEnd_4 ks_5_153 rfl ?_
  refine k_cvv [.inr 1032] d_Doctype_readEnd_6 ml_5_53 rfl rfl ob_2 rfl (s_Reader_need hL (by omega) it_1032 h) (fun σ1 h => ?_)
  refine k_aload_n d_Doctype_readEnd_9 rfl ?_
  refine k_getR d_Doctype_readEnd_10 fl_5_17 ob_5 rfl ?_
  refine k_cvi [] d_Doctype_readEnd_13 ml_5_69 rfl rfl ob_2 rfl (s_Reader_skipSpace hL (by omega)  h) (fun v4 σ3 h => ?_)
  refine k_pop d_Doctype_readEnd_16 ?_
  refine k_aload_n d_Doctype_readEnd_17 rfl ?_
  refine k_getR d_Doctype_readEnd_18 fl_5_17 ob_5 rfl ?_
  refine k_ldc d_Doctype_readEnd_21 ks_5_90 rfl ?_
  refine k_cvv [.inr 1025] d_Doctype_readEnd_23 ml_5_53 rfl rfl ob_2 rfl (s_Reader_need hL (by omega) it_1025 h) (fun σ5 h => ?_)
  refine k_aload_n d_Doctype_readEnd_26 rfl ?_
  refine k_iconst d_Doctype_readEnd_27 cI_0 ?_
  refine k_putZ d_Doctype_readEnd_28 fl_5_48 ob_5 rfl (Or.inl rfl) ?_
  exact k_ret d_Doctype_readEnd_31 h
theorem d_Reader_seek_0 : decode b_Reader_seek 0 = .ok (.aload_n 0, 1) := by decide +kernel
theorem d_Reader_seek_1 : decode b_Reader_seek 1 = .ok (.getfield 26, 3) := by decide +kernel
theorem d_Reader_seek_4 : decode b_Reader_seek 4 = .ok (.istore_n 2, 1) := by decide +kernel
theorem d_Reader_seek_5 : decode b_Reader_seek 5 = .ok (.iload_n 2, 1) := by decide +kernel
theorem d_Reader_seek_6 : decode b_Reader_seek 6 = .ok (.aload_n 0, 1) := by decide +kernel
theorem d_Reader_seek_7 : decode b_Reader_seek 7 = .ok (.getfield 32, 3) := by decide +kernel
theorem d_Reader_seek_10 : decode b_Reader_seek 10 = .ok (.if_icmp .ge 23, 3) := by decide +kernel
theorem d_Reader_seek_13 : decode b_Reader_seek 13 = .ok (.aload_n 0, 1) := by decide +kernel
theorem d_Reader_seek_14 : decode b_Reader_seek 14 = .ok (.iload_n 2, 1) := by decide +kernel
theorem d_Reader_seek_15 : decode b_Reader_seek 15 = .ok (.putfield 26, 3) := by decide +kernel
theorem d_Reader_seek_18 : decode b_Reader_seek 18 = .ok (.aload_n 0, 1) := by decide +kernel
theorem d_Reader_seek_19 : decode b_Reader_seek 19 = .ok (.aload_n 1, 1) := by decide +kernel
theorem d_Reader_seek_20 : decode b_Reader_seek 20 = .ok (.invokevirtual 62, 3) := by decide +kernel
theorem d_Reader_seek_23 : decode b_Reader_seek 23 = .ok (.ifCond .eq 4, 3) := by decide +kernel
theorem d_Reader_seek_26 : decode b_Reader_seek 26 = .ok (.return_, 1) := by decide +kernel
theorem d_Reader_seek_27 : decode b_Reader_seek 27 = .ok (.iinc 2 1, 3) := by decide +kernel
theorem d_Reader_seek_30 : decode b_Reader_seek 30 = .ok (.goto (-25), 3) := by decide +kernel
theorem d_Reader_seek_33 : decode b_Reader_seek 33 = .ok (.aload_n 0, 1) := by decide +kernel
theorem d_Reader_seek_34 : decode b_Reader_seek 34 = .ok (.iconst 5, 1) := by decide +kernel
theorem d_Reader_seek_35 : decode b_Reader_seek 35 = .ok (.invokevirtual 66, 3) := by decide +kernel
theorem d_Reader_seek_38 : decode b_Reader_seek 38 = .ok (.return_, 1) := by decide +kernel
/-- Reader_seek -/
def w_Reader_seek (L : Nat → Nat) (a1 : Nat) (Q : IS → Prop) (σ : IS) : Prop := WL (fun (K1 : Int → IS → Prop) (s3 : Int) (σ4 : IS) => if s3 < (σ4.1 2 3) then w_Reader_at L a1 (fun v9 σ8 => if v9 = 0 then inR (s3 + 1) ∧ K1 (s3 + 1) σ8 else Q σ8) (pf σ4 2 2 s3) else w_Reader_fail L 5 (fun σ6 => Q σ6) σ4) (σ.1 2 2) σ
set_option maxHeartbeats 4000000 in
set_option maxRecDepth 20000 in
theorem s_Reader_seek {L : Nat → Nat} (hL : ∀ r, L r < 2147483648) {d : Nat} (hd : 1 ≤ d) {a1 : Nat} {Q : IS → Prop} {σ : IS} (ha1 : isT a1) (h : w_Reader_seek L a1 Q σ) : OkI BF L d 2 b_Reader_seek 3 0 0 [] [some (.inr 2), some (.inr a1)] σ (qv Q) := by
  unfold w_Reader_seek at h
  obtain ⟨d, rfl⟩ : ∃ e, d = e + 1 := ⟨d - 1, by omega⟩
  refine k_sb (lv' := [some (.inr 2), some (.inr a1), none]) (sb_s (sb_s (sb_e sb_nil))) ?_
  refine k_aload_n d_Reader_seek_0 rfl ?_
  refine k_getI (x := (σ.1 2 2)) d_Reader_seek_1 fl_2_26 ob_2 rfl rfl ?_
  refine k_istore_n (lv' := [some (.inr 2), some (.inr a1), some (.inl (σ.1 2 2))]) d_Reader_seek_4 rfl rfl ?_
  refine k_sb (lv' := [some (.inr 2), some (.inr a1), some (.inl (σ.1 2 2))]) (sb_s (sb_s (sb_s sb_nil))) ?_
  refine k_loop (S := Int) (st := fun _ => []) (lv := fun s3 => [some (.inr 2), some (.inr a1), some (.inl s3)]) (fun K1 hK2 s3 σ4 h => ?_) (σ.1 2 2) _ h
  refine k_iload_n d_Reader_seek_5 rfl ?_
  refine k_aload_n d_Reader_seek_6 rfl ?_
  refine k_getI (x := (σ4.1 2 3)) d_Reader_seek_7 fl_2_32 ob_2 rfl rfl ?_
  refine k_icge d_Reader_seek_10 rfl (fun c5 => ?_) (fun c5 => ?_)
  · have h := ineg c5 h
    refine k_aload_n d_Reader_seek_33 rfl ?_
    refine k_iconst d_Reader_seek_34 cI_5 ?_
    refine k_cvv [.inl 5] d_Reader_seek_35 ml_2_66 rfl rfl ob_2 rfl (s_Reader_fail hL (by omega)  h) (fun σ6 h => ?_)
    exact k_ret d_Reader_seek_38 h
  · have h := ipos c5 h
    refine k_aload_n d_Reader_seek_13 rfl ?_
    refine k_iload_n d_Reader_seek_14 rfl ?_
    refine k_putI d_Reader_seek_15 fl_2_26 ob_2 rfl ?_
    refine k_aload_n d_Reader_seek_18 rfl ?_
    refine k_aload_n d_Reader_seek_19 rfl ?_
    refine k_cvi [.inr a1] d_Reader_seek_20 ml_2_62 rfl rfl ob_2 rfl (s_Reader_at hL (by omega) ha1 h) (fun v9 σ8 h => ?_)
    refine k_ifeq d_Reader_seek_23 rfl (fun c10 => ?_) (fun c10 => ?_)
    · have h := ipos c10 h
      obtain ⟨p11, h⟩ := h
      refine k_iinc (lv' := [some (.inr 2), some (.inr a1), some (.inl (s3 + 1))]) d_Reader_seek_27 cI_1 rfl rfl p11 rfl ?_
      refine k_goto d_Reader_seek_30 rfl ?_
      exact k_sb (sb_s (sb_s (sb_s sb_nil))) (hK2 (s3 + 1) _ h)
    · have h := ineg c10 h
      exact k_ret d_Reader_seek_26 h
theorem d_Reader_readComment_0 : decode b_Reader_readComment 0 = .ok (.aload_n 0, 1) := by decide +kernel
theorem d_Reader_readComment_1 : decode b_Reader_readComment 1 = .ok (.ldc 84, 2) := by decide +kernel
theorem d_Reader_readComment_3 : decode b_Reader_readComment 3 = .ok (.invokevirtual 86, 3) := by decide +kernel
theorem d_Reader_readComment_6 : decode b_Reader_readComment 6 = .ok (.aload_n 0, 1) := by decide +kernel
theorem d_Reader_readComment_7 : decode b_Reader_readComment 7 = .ok (.ldc 90, 2) := by decide +kernel
theorem d_Reader_readComment_9 : decode b_Reader_readComment 9 = .ok (.invokevirtual 92, 3) := by decide +kernel
theorem d_Reader_readComment_12 : decode b_Reader_readComment 12 = .ok (.aload_n 0, 1) := by decide +kernel
theorem d_Reader_readComment_13 : decode b_Reader_readComment 13 = .ok (.ldc 95, 2) := by decide +kernel
theorem d_Reader_readComment_15 : decode b_Reader_readComment 15 = .ok (.invokevirtual 86, 3) := by decide +kernel
theorem d_Reader_readComment_18 : decode b_Reader_readComment 18 = .ok (.return_, 1) := by decide +kernel
/-- Reader_readComment -/
def w_Reader_readComment (L : Nat → Nat)  (Q : IS → Prop) (σ : IS) : Prop := w_Reader_need L 1050 (fun σ1 => w_Reader_seek L 1051 (fun σ3 => w_Reader_need L 1052 (fun σ5 => Q σ5) σ3) σ1) σ
set_option maxHeartbeats 4000000 in
set_option maxRecDepth 20000 in
theorem s_Reader_readComment {L : Nat → Nat} (hL : ∀ r, L r < 2147483648) {d : Nat} (hd : 2 ≤ d)  {Q : IS → Prop} {σ : IS}  (h : w_Reader_readComment L  Q σ) : OkI BF L d 2 b_Reader_readComment 1 0 0 [] [some (.inr 2)] σ (qv Q) := by
  unfold w_Reader_readComment at h
  obtain ⟨d, rfl⟩ : ∃ e, d = e + 1 := ⟨d - 1, by omega⟩
  refine k_sb (lv' := [some (.inr 2)]) (sb_s sb_nil) ?_
  refine k_aload_n d_Reader_readComment_0 rfl ?_
  refine k_ldc d_Reader_readComment_1 ks_2_84 rfl ?_
  refine k_cvv [.inr 1050] d_Reader_readComment_3 ml_2_86 rfl rfl ob_2 rfl (s_Reader_need hL (by omega) it_1050 h) (fun σ1 h => ?_)
  refine k_aload_n d_Reader_readComment_6 rfl ?_
  refine k_ldc d_Reader_readComment_7 ks_2_90 rfl ?_
  refine k_cvv [.inr 1051] d_Reader_readComment_9 ml_2_92 rfl rfl ob_2 rfl (s_Reader_seek hL (by omega) it_1051 h) (fun σ3 h => ?_)
  refine k_aload_n d_Reader_readComment_12 rfl ?_
  refine k_ldc d_Reader_readComment_13 ks_2_95 rfl ?_
  refine k_cvv [.inr 1052] d_Reader_readComment_15 ml_2_86 rfl rfl ob_2 rfl (s_Reader_need hL (by omega) it_1052 h) (fun σ5 h => ?_)
  exact k_ret d_Reader_readComment_18 h
theorem d_Reader_lookForColon_0 : decode b_Reader_lookForColon 0 = .ok (.iload_n 1, 1) := by decide +kernel
theorem d_Reader_lookForColon_1 : decode b_Reader_lookForColon 1 = .ok (.istore_n 3, 1) := by decide +kernel
theorem d_Reader_lookForColon_2 : decode b_Reader_lookForColon 2 = .ok (.iload_n 3, 1) := by decide +kernel
theorem d_Reader_lookForColon_3 : decode b_Reader_lookForColon 3 = .ok (.iload_n 1, 1) := by decide +kernel
theorem d_Reader_lookForColon_4 : decode b_Reader_lookForColon 4 = .ok (.iload_n 2, 1) := by decide +kernel
theorem d_Reader_lookForColon_5 : decode b_Reader_lookForColon 5 = .ok (.iadd, 1) := by decide +kernel
theorem d_Reader_lookForColon_6 : decode b_Reader_lookForColon 6 = .ok (.if_icmp .ge 31, 3) := by decide +kernel
theorem d_Reader_lookForColon_9 : decode b_Reader_lookForColon 9 = .ok (.aload_n 0, 1) := by decide +kernel
theorem d_Reader_lookForColon_10 : decode b_Reader_lookForColon 10 = .ok (.getfield 21, 3) := by decide +kernel
theorem d_Reader_lookForColon_13 : decode b_Reader_lookForColon 13 = .ok (.iload_n 3, 1) := by decide +kernel
theorem d_Reader_lookForColon_14 : decode b_Reader_lookForColon 14 = .ok (.iaload, 1) := by decide +kernel
theorem d_Reader_lookForColon_15 : decode b_Reader_lookForColon 15 = .ok (.bipush 58, 2) := by decide +kernel
theorem d_Reader_lookForColon_17 : decode b_Reader_lookForColon 17 = .ok (.if_icmp .ne 14, 3) := by decide +kernel
theorem d_Reader_lookForColon_20 : decode b_Reader_lookForColon 20 = .ok (.aload_n 0, 1) := by decide +kernel
theorem d_Reader_lookForColon_21 : decode b_Reader_lookForColon 21 = .ok (.dup, 1) := by decide +kernel
theorem d_Reader_lookForColon_22 : decode b_Reader_lookForColon 22 = .ok (.getfield 41, 3) := by decide +kernel
theorem d_Reader_lookForColon_25 : decode b_Reader_lookForColon 25 = .ok (.iconst 1, 1) := by decide +kernel
theorem d_Reader_lookForColon_26 : decode b_Reader_lookForColon 26 = .ok (.iadd, 1) := by decide +kernel
theorem d_Reader_lookForColon_27 : decode b_Reader_lookForColon 27 = .ok (.putfield 41, 3) := by decide +kernel
theorem d_Reader_lookForColon_30 : decode b_Reader_lookForColon 30 = .ok (.return_, 1) := by decide +kernel
theorem d_Reader_lookForColon_31 : decode b_Reader_lookForColon 31 = .ok (.iinc 3 1, 3) := by decide +kernel
theorem d_Reader_lookForColon_34 : decode b_Reader_lookForColon 34 = .ok (.goto (-32), 3) := by decide +kernel
theorem d_Reader_lookForColon_37 : decode b_Reader_lookForColon 37 = .ok (.return_, 1) := by decide +kernel
/-- Reader_lookForColon -/
def w_Reader_lookForColon (L : Nat → Nat) (a1 : Int) (a2 : Int) (Q : IS → Prop) (σ : IS) : Prop := WL (fun (K1 : Int → IS → Prop) (s3 : Int) (σ4 : IS) => inR (a1 + a2) ∧ if s3 < (a1 + a2) then inL L 101 s3 ∧ if (σ4.2 101 (Int.toNat s3)) = 58 then inR ((σ4.1 2 6) + 1) ∧ Q (pf σ4 2 6 ((σ4.1 2 6) + 1)) else inR (s3 + 1) ∧ K1 (s3 + 1) σ4 else Q σ4) a1 σ
set_option maxHeartbeats 4000000 in
set_option maxRecDepth 20000 in
theorem s_Reader_lookForColon {L : Nat → Nat} (hL : ∀ r, L r < 2147483648) {d : Nat} (hd : 0 ≤ d) {a1 : Int} {a2 : Int} {Q : IS → Prop} {σ : IS}  (h : w_Reader_lookForColon L a1 a2 Q σ) : OkI BF L d 2 b_Reader_lookForColon 4 0 0 [] [some (.inr 2), some (.inl a1), some (.inl a2)] σ (qv Q) := by
  unfold w_Reader_lookForColon at h
  refine k_sb (lv' := [some (.inr 2), some (.inl a1), some (.inl a2), none]) (sb_s (sb_s (sb_s (sb_e sb_nil)))) ?_
  refine k_iload_n d_Reader_lookForColon_0 rfl ?_
  refine k_istore_n (lv' := [some (.inr 2), some (.inl a1), some (.inl a2), some (.inl a1)]) d_Reader_lookForColon_1 rfl rfl ?_
  refine k_sb (lv' := [some (.inr 2), some (.inl a1), some (.inl a2), some (.inl a1)]) (sb_s (sb_s (sb_s (sb_s sb_nil)))) ?_
  refine k_loop (S := Int) (st := fun _ => []) (lv := fun s3 => [some (.inr 2), some (.inl a1), some (.inl a2), some (.inl s3)]) (fun K1 hK2 s3 σ4 h => ?_) a1 _ h
  refine k_iload_n d_Reader_lookForColon_2 rfl ?_
  refine k_iload_n d_Reader_lookForColon_3 rfl ?_
  refine k_iload_n d_Reader_lookForColon_4 rfl ?_
  obtain ⟨p10, h⟩ := h
  refine k_iadd d_Reader_lookForColon_5 p10 ?_
  refine k_icge d_Reader_lookForColon_6 rfl (fun c5 => ?_) (fun c5 => ?_)
  · have h := ineg c5 h
    exact k_ret d_Reader_lookForColon_37 h
  · have h := ipos c5 h
    refine k_aload_n d_Reader_lookForColon_9 rfl ?_
    refine k_getR d_Reader_lookForColon_10 fl_2_21 ob_2 rfl ?_
    refine k_iload_n d_Reader_lookForColon_13 rfl ?_
    obtain ⟨p9, h⟩ := h
    refine k_ild (x := (σ4.2 101 (Int.toNat s3))) d_Reader_lookForColon_14 rI_101 p9 rfl ?_
    refine k_bipush d_Reader_lookForColon_15 cB_58 ?_
    refine k_icne d_Reader_lookForColon_17 rfl (fun c6 => ?_) (fun c6 => ?_)
    · have h := ineg c6 h
      obtain ⟨p7, h⟩ := h
      refine k_iinc (lv' := [some (.inr 2), some (.inl a1), some (.inl a2), some (.inl (s3 + 1))]) d_Reader_lookForColon_31 cI_1 rfl rfl p7 rfl ?_
      refine k_goto d_Reader_lookForColon_34 rfl ?_
      exact k_sb (sb_s (sb_s (sb_s (sb_s sb_nil)))) (hK2 (s3 + 1) _ h)
    · have h := ipos c6 h
      refine k_aload_n d_Reader_lookForColon_20 rfl ?_
      refine k_dup d_Reader_lookForColon_21 ?_
      refine k_getI (x := (σ4.1 2 6)) d_Reader_lookForColon_22 fl_2_41 ob_2 rfl rfl ?_
      refine k_iconst d_Reader_lookForColon_25 cI_1 ?_
      obtain ⟨p8, h⟩ := h
      refine k_iadd d_Reader_lookForColon_26 p8 ?_
      refine k_putI d_Reader_lookForColon_27 fl_2_41 ob_2 rfl ?_
      exact k_ret d_Reader_lookForColon_30 h
theorem d_Reader_readInstruction_0 : decode b_Reader_readInstruction 0 = .ok (.aload_n 0, 1) := by decide +kernel
theorem d_Reader_readInstruction_1 : decode b_Reader_readInstruction 1 = .ok (.ldc 97, 2) := by decide +kernel
theorem d_Reader_readInstruction_3 : decode b_Reader_readInstruction 3 = .ok (.invokevirtual 86, 3) := by decide +kernel
theorem d_Reader_readInstruction_6 : decode b_Reader_readInstruction 6 = .ok (.aload_n 0, 1) := by decide +kernel
theorem d_Reader_readInstruction_7 : decode b_Reader_readInstruction 7 = .ok (.aload_n 0, 1) := by decide +kernel
theorem d_Reader_readInstruction_8 : decode b_Reader_readInstruction 8 = .ok (.invokevirtual 99, 3) := by decide +kernel
theorem d_Reader_readInstruction_11 : decode b_Reader_readInstruction 11 = .ok (.putfield 102, 3) := by decide +kernel
theorem d_Reader_readInstruction_14 : decode b_Reader_readInstruction 14 = .ok (.aload_n 0, 1) := by decide +kernel
theorem d_Reader_readInstruction_15 : decode b_Reader_readInstruction 15 = .ok (.aload_n 0, 1) := by decide +kernel
theorem d_Reader_readInstruction_16 : decode b_Reader_readInstruction 16 = .ok (.getfield 26, 3) := by decide +kernel
theorem d_Reader_readInstruction_19 : decode b_Reader_readInstruction 19 = .ok (.aload_n 0, 1) := by decide +kernel
theorem d_Reader_readInstruction_20 : decode b_Reader_readInstruction 20 = .ok (.getfield 102, 3) := by decide +kernel
theorem d_Reader_readInstruction_23 : decode b_Reader_readInstruction 23 = .ok (.isub, 1) := by decide +kernel
theorem d_Reader_readInstruction_24 : decode b_Reader_readInstruction 24 = .ok (.putfield 105, 3) := by decide +kernel
theorem d_Reader_readInstruction_27 : decode b_Reader_readInstruction 27 = .ok (.aload_n 0, 1) := by decide +kernel
theorem d_Reader_readInstruction_28 : decode b_Reader_readInstruction 28 = .ok (.aload_n 0, 1) := by decide +kernel
theorem d_Reader_readInstruction_29 : decode b_Reader_readInstruction 29 = .ok (.getfield 102, 3) := by decide +kernel
theorem d_Reader_readInstruction_32 : decode b_Reader_readInstruction 32 = .ok (.aload_n 0, 1) := by decide +kernel
theorem d_Reader_readInstruction_33 : decode b_Reader_readInstruction 33 = .ok (.getfield 105, 3) := by decide +kernel
theorem d_Reader_readInstruction_36 : decode b_Reader_readInstruction 36 = .ok (.ldc 108, 2) := by decide +kernel
theorem d_Reader_readInstruction_38 : decode b_Reader_readInstruction 38 = .ok (.invokevirtual 110, 3) := by decide +kernel
theorem d_Reader_readInstruction_41 : decode b_Reader_readInstruction 41 = .ok (.ifCond .ne 19, 3) := by decide +kernel
theorem d_Reader_readInstruction_44 : decode b_Reader_readInstruction 44 = .ok (.aload_n 0, 1) := by decide +kernel
theorem d_Reader_readInstruction_45 : decode b_Reader_readInstruction 45 = .ok (.invokevirtual 74, 3) := by decide +kernel
theorem d_Reader_readInstruction_48 : decode b_Reader_readInstruction 48 = .ok (.ifCond .ne 17, 3) := by decide +kernel
theorem d_Reader_readInstruction_51 : decode b_Reader_readInstruction 51 = .ok (.aload_n 0, 1) := by decide +kernel
theorem d_Reader_readInstruction_52 : decode b_Reader_readInstruction 52 = .ok (.ldc 114, 2) := by decide +kernel
theorem d_Reader_readInstruction_54 : decode b_Reader_readInstruction 54 = .ok (.invokevirtual 62, 3) := by decide +kernel
theorem d_Reader_readInstruction_57 : decode b_Reader_readInstruction 57 = .ok (.ifCond .ne 8, 3) := by decide +kernel
theorem d_Reader_readInstruction_60 : decode b_Reader_readInstruction 60 = .ok (.aload_n 0, 1) := by decide +kernel
theorem d_Reader_readInstruction_61 : decode b_Reader_readInstruction 61 = .ok (.iconst 5, 1) := by decide +kernel
theorem d_Reader_readInstruction_62 : decode b_Reader_readInstruction 62 = .ok (.invokevirtual 66, 3) := by decide +kernel
theorem d_Reader_readInstruction_65 : decode b_Reader_readInstruction 65 = .ok (.aload_n 0, 1) := by decide +kernel
theorem d_Reader_readInstruction_66 : decode b_Reader_readInstruction 66 = .ok (.aload_n 0, 1) := by decide +kernel
theorem d_Reader_readInstruction_67 : decode b_Reader_readInstruction 67 = .ok (.getfield 26, 3) := by decide +kernel
theorem d_Reader_readInstruction_70 : decode b_Reader_readInstruction 70 = .ok (.putfield 116, 3) := by decide +kernel
theorem d_Reader_readInstruction_73 : decode b_Reader_readInstruction 73 = .ok (.aload_n 0, 1) := by decide +kernel
theorem d_Reader_readInstruction_74 : decode b_Reader_readInstruction 74 = .ok (.ldc 114, 2) := by decide +kernel
theorem d_Reader_readInstruction_76 : decode b_Reader_readInstruction 76 = .ok (.invokevirtual 92, 3) := by decide +kernel
theorem d_Reader_readInstruction_79 : decode b_Reader_readInstruction 79 = .ok (.aload_n 0, 1) := by decide +kernel
theorem d_Reader_readInstruction_80 : decode b_Reader_readInstruction 80 = .ok (.aload_n 0, 1) := by decide +kernel
theorem d_Reader_readInstruction_81 : decode b_Reader_readInstruction 81 = .ok (.getfield 26, 3) := by decide +kernel
theorem d_Reader_readInstruction_84 : decode b_Reader_readInstruction 84 = .ok (.aload_n 0, 1) := by decide +kernel
theorem d_Reader_readInstruction_85 : decode b_Reader_readInstruction 85 = .ok (.getfield 116, 3) := by decide +kernel
theorem d_Reader_readInstruction_88 : decode b_Reader_readInstruction 88 = .ok (.isub, 1) := by decide +kernel
theorem d_Reader_readInstruction_89 : decode b_Reader_readInstruction 89 = .ok (.putfield 119, 3) := by decide +kernel
theorem d_Reader_readInstruction_92 : decode b_Reader_readInstruction 92 = .ok (.aload_n 0, 1) := by decide +kernel
theorem d_Reader_readInstruction_93 : decode b_Reader_readInstruction 93 = .ok (.ldc 114, 2) := by decide +kernel
theorem d_Reader_readInstruction_95 : decode b_Reader_readInstruction 95 = .ok (.invokevirtual 86, 3) := by decide +kernel
theorem d_Reader_readInstruction_98 : decode b_Reader_readInstruction 98 = .ok (.aload_n 0, 1) := by decide +kernel
theorem d_Reader_readInstruction_99 : decode b_Reader_readInstruction 99 = .ok (.aload_n 0, 1) := by decide +kernel
theorem d_Reader_readInstruction_100 : decode b_Reader_readInstruction 100 = .ok (.getfield 102, 3) := by decide +kernel
theorem d_Reader_readInstruction_103 : decode b_Reader_readInstruction 103 = .ok (.aload_n 0, 1) := by decide +kernel
theorem d_Reader_readInstruction_104 : decode b_Reader_readInstruction 104 = .ok (.getfield 105, 3) := by decide +kernel
theorem d_Reader_readInstruction_107 : decode b_Reader_readInstruction 107 = .ok (.invokevirtual 122, 3) := by decide +kernel
theorem d_Reader_readInstruction_110 : decode b_Reader_readInstruction 110 = .ok (.return_, 1) := by decide +kernel
/-- Reader_readInstruction -/
def w_Reader_readInstruction (L : Nat → Nat)  (Q : IS → Prop) (σ : IS) : Prop := w_Reader_need L 1053 (fun σ1 => w_Reader_readName L  (fun v4 σ3 => inR ((σ3.1 2 2) - v4) ∧ w_Reader_isWrittenAs L v4 ((σ3.1 2 2) - v4) 1054 (fun v6 σ5 => WJ (fun (s9 : Unit) (σ10 : IS) => w_Reader_seek L 1055 (fun σ11 => inR ((σ11.1 2 2) - (σ11.1 2 10)) ∧ w_Reader_need L 1055 (fun σ13 => w_Reader_lookForColon L (σ13.1 2 8) (σ13.1 2 9) (fun σ15 => Q σ15) σ13) (pf σ11 2 11 ((σ11.1 2 2) - (σ11.1 2 10)))) (pf σ10 2 10 (σ10.1 2 2))) (fun J7 => WJ (fun (s20 : Unit) (σ21 : IS) => w_Reader_fail L 5 (fun σ22 => J7 () σ22) σ21) (fun J18 => if v6 = 0 then w_Reader_skipSpace L  (fun v26 σ25 => if v26 = 0 then w_Reader_at L 1055 (fun v29 σ28 => if v29 = 0 then J18 () σ28 else J7 () σ28) σ25 else J7 () σ25) σ5 else J18 () σ5))) (pf (pf σ3 2 8 v4) 2 9 ((σ3.1 2 2) - v4))) σ1) σ
set_option maxHeartbeats 4000000 in
set_option maxRecDepth 20000 in
theorem s_Reader_readInstruction {L : Nat → Nat} (hL : ∀ r, L r < 2147483648) {d : Nat} (hd : 2 ≤ d)  {Q : IS → Prop} {σ : IS}  (h : w_Reader_readInstruction L  Q σ) : OkI BF L d 2 b_Reader_readInstruction 1 0 0 [] [some (.inr 2)] σ (qv Q) := by
  unfold w_Reader_readInstruction at h
  obtain ⟨d, rfl⟩ : ∃ e, d = e + 1 := ⟨d - 1, by omega⟩
  refine k_sb (lv' := [some (.inr 2)]) (sb_s sb_nil) ?_
  refine k_aload_n d_Reader_readInstruction_0 rfl ?_
  refine k_ldc d_Reader_readInstruction_1 ks_2_97 rfl ?_
  refine k_cvv [.inr 1053] d_Reader_readInstruction_3 ml_2_86 rfl rfl ob_2 rfl (s_Reader_need hL (by omega) it_1053 h) (fun σ1 h => ?_)
  refine k_aload_n d_Reader_readInstruction_6 rfl ?_
  refine k_aload_n d_Reader_readInstruction_7 rfl ?_
  refine k_cvi [] d_Reader_readInstruction_8 ml_2_99 rfl rfl ob_2 rfl (s_Reader_readName hL (by omega)  h) (fun v4 σ3 h => ?_)
  refine k_putI d_Reader_readInstruction_11 fl_2_102 ob_2 rfl ?_
  refine k_aload_n d_Reader_readInstruction_14 rfl ?_
  refine k_aload_n d_Reader_readInstruction_15 rfl ?_
  refine k_getI (x := (σ3.1 2 2)) d_Reader_readInstruction_16 fl_2_26 ob_2 rfl rfl ?_
  refine k_aload_n d_Reader_readInstruction_19 rfl ?_
  refine k_getI (x := v4) d_Reader_readInstruction_20 fl_2_102 ob_2 rfl rfl ?_
  obtain ⟨p31, h⟩ := h
  refine k_isub d_Reader_readInstruction_23 p31 ?_
  refine k_putI d_Reader_readInstruction_24 fl_2_105 ob_2 rfl ?_
  refine k_aload_n d_Reader_readInstruction_27 rfl ?_
  refine k_aload_n d_Reader_readInstruction_28 rfl ?_
  refine k_getI (x := v4) d_Reader_readInstruction_29 fl_2_102 ob_2 rfl rfl ?_
  refine k_aload_n d_Reader_readInstruction_32 rfl ?_
  refine k_getI (x := ((σ3.1 2 2) - v4)) d_Reader_readInstruction_33 fl_2_105 ob_2 rfl rfl ?_
  refine k_ldc d_Reader_readInstruction_36 ks_2_108 rfl ?_
  refine k_cvi [.inl v4, .inl ((σ3.1 2 2) - v4), .inr 1054] d_Reader_readInstruction_38 ml_2_110 rfl rfl ob_2 rfl (s_Reader_isWrittenAs hL (by omega) it_1054 h) (fun v6 σ5 h => ?_)
  refine k_join (S := Unit) (pc' := 65) (st' := fun s9 => []) (lv' := fun s9 => [some (.inr 2)]) (fun s9 σ10 h => ?_) (fun J7 hJ8 h => ?_) h
  · refine k_aload_n d_Reader_readInstruction_65 rfl ?_
    refine k_aload_n d_Reader_readInstruction_66 rfl ?_
    refine k_getI (x := (σ10.1 2 2)) d_Reader_readInstruction_67 fl_2_26 ob_2 rfl rfl ?_
    refine k_putI d_Reader_readInstruction_70 fl_2_116 ob_2 rfl ?_
    refine k_aload_n d_Reader_readInstruction_73 rfl ?_
    refine k_ldc d_Reader_readInstruction_74 ks_2_114 rfl ?_
    refine k_cvv [.inr 1055] d_Reader_readInstruction_76 ml_2_92 rfl rfl ob_2 rfl (s_Reader_seek hL (by omega) it_1055 h) (fun σ11 h => ?_)
    refine k_aload_n d_Reader_readInstruction_79 rfl ?_
    refine k_aload_n d_Reader_readInstruction_80 rfl ?_
    refine k_getI (x := (σ11.1 2 2)) d_Reader_readInstruction_81 fl_2_26 ob_2 rfl rfl ?_
    refine k_aload_n d_Reader_readInstruction_84 rfl ?_
    refine k_getI (x := (σ11.1 2 10)) d_Reader_readInstruction_85 fl_2_116 ob_2 rfl rfl ?_
    obtain ⟨p17, h⟩ := h
    refine k_isub d_Reader_readInstruction_88 p17 ?_
    refine k_putI d_Reader_readInstruction_89 fl_2_119 ob_2 rfl ?_
    refine k_aload_n d_Reader_readInstruction_92 rfl ?_
    refine k_ldc d_Reader_readInstruction_93 ks_2_114 rfl ?_
    refine k_cvv [.inr 1055] d_Reader_readInstruction_95 ml_2_86 rfl rfl ob_2 rfl (s_Reader_need hL (by omega) it_1055 h) (fun σ13 h => ?_)
    refine k_aload_n d_Reader_readInstruction_98 rfl ?_
    refine k_aload_n d_Reader_readInstruction_99 rfl ?_
    refine k_getI (x := (σ13.1 2 8)) d_Reader_readInstruction_100 fl_2_102 ob_2 rfl rfl ?_
    refine k_aload_n d_Reader_readInstruction_103 rfl ?_
    refine k_getI (x := (σ13.1 2 9)) d_Reader_readInstruction_104 fl_2_105 ob_2 rfl rfl ?_
    refine k_cvv [.inl (σ13.1 2 8), .inl (σ13.1 2 9)] d_Reader_readInstruction_107 ml_2_122 rfl rfl ob_2 rfl (s_Reader_lookForColon hL (by omega)  h) (fun σ15 h => ?_)
    exact k_ret d_Reader_readInstruction_110 h
  · refine k_join (S := Unit) (pc' := 60) (st' := fun s20 => []) (lv' := fun s20 => [some (.inr 2)]) (fun s20 σ21 h => ?_) (fun J18 hJ19 h => ?_) h
    · refine k_aload_n d_Reader_readInstruction_60 rfl ?_
      refine k_iconst d_Reader_readInstruction_61 cI_5 ?_
      refine k_cvv [.inl 5] d_Reader_readInstruction_62 ml_2_66 rfl rfl ob_2 rfl (s_Reader_fail hL (by omega)  h) (fun σ22 h => ?_)
      exact k_sb (sb_s sb_nil) (hJ8 () _ h)
    · refine k_ifne d_Reader_readInstruction_41 rfl (fun c24 => ?_) (fun c24 => ?_)
      · have h := ineg c24 h
        exact k_sb (sb_s sb_nil) (hJ19 () _ h)
      · have h := ipos c24 h
        refine k_aload_n d_Reader_readInstruction_44 rfl ?_
        refine k_cvi [] d_Reader_readInstruction_45 ml_2_74 rfl rfl ob_2 rfl (s_Reader_skipSpace hL (by omega)  h) (fun v26 σ25 h => ?_)
        refine k_ifne d_Reader_readInstruction_48 rfl (fun c27 => ?_) (fun c27 => ?_)
        · have h := ineg c27 h
          exact k_sb (sb_s sb_nil) (hJ8 () _ h)
        · have h := ipos c27 h
          refine k_aload_n d_Reader_readInstruction_51 rfl ?_
          refine k_ldc d_Reader_readInstruction_52 ks_2_114 rfl ?_
          refine k_cvi [.inr 1055] d_Reader_readInstruction_54 ml_2_62 rfl rfl ob_2 rfl (s_Reader_at hL (by omega) it_1055 h) (fun v29 σ28 h => ?_)
          refine k_ifne d_Reader_readInstruction_57 rfl (fun c30 => ?_) (fun c30 => ?_)
          · have h := ineg c30 h
            exact k_sb (sb_s sb_nil) (hJ8 () _ h)
          · have h := ipos c30 h
            exact k_sb (sb_s sb_nil) (hJ19 () _ h)
theorem d_Doctype_readMixed_0 : decode b_Doctype_readMixed 0 = .ok (.iconst 0, 1) := by decide +kernel
theorem d_Doctype_readMixed_1 : decode b_Doctype_readMixed 1 = .ok (.istore_n 1, 1) := by decide +kernel
theorem d_Doctype_readMixed_2 : decode b_Doctype_readMixed 2 = .ok (.aload_n 0, 1) := by decide +kernel
theorem d_Doctype_readMixed_3 : decode b_Doctype_readMixed 3 = .ok (.getfield 17, 3) := by decide +kernel
theorem d_Doctype_readMixed_6 : decode b_Doctype_readMixed 6 = .ok (.invokevirtual 69, 3) := by decide +kernel
theorem d_Doctype_readMixed_9 : decode b_Doctype_readMixed 9 = .ok (.pop, 1) := by decide +kernel
theorem d_Doctype_readMixed_10 : decode b_Doctype_readMixed 10 = .ok (.iconst 0, 1) := by decide +kernel
theorem d_Doctype_readMixed_11 : decode b_Doctype_readMixed 11 = .ok (.istore_n 2, 1) := by decide +kernel
theorem d_Doctype_readMixed_12 : decode b_Doctype_readMixed 12 = .ok (.iload_n 2, 1) := by decide +kernel
theorem d_Doctype_readMixed_13 : decode b_Doctype_readMixed 13 = .ok (.ldc 191, 2) := by decide +kernel
theorem d_Doctype_readMixed_15 : decode b_Doctype_readMixed 15 = .ok (.if_icmp .ge 57, 3) := by decide +kernel
theorem d_Doctype_readMixed_18 : decode b_Doctype_readMixed 18 = .ok (.aload_n 0, 1) := by decide +kernel
theorem d_Doctype_readMixed_19 : decode b_Doctype_readMixed 19 = .ok (.getfield 17, 3) := by decide +kernel
theorem d_Doctype_readMixed_22 : decode b_Doctype_readMixed 22 = .ok (.getfield 140, 3) := by decide +kernel
theorem d_Doctype_readMixed_25 : decode b_Doctype_readMixed 25 = .ok (.ifCond .ne 47, 3) := by decide +kernel
theorem d_Doctype_readMixed_28 : decode b_Doctype_readMixed 28 = .ok (.aload_n 0, 1) := by decide +kernel
theorem d_Doctype_readMixed_29 : decode b_Doctype_readMixed 29 = .ok (.getfield 17, 3) := by decide +kernel
theorem d_Doctype_readMixed_32 : decode b_Doctype_readMixed 32 = .ok (.ldc 192, 2) := by decide +kernel
theorem d_Doctype_readMixed_34 : decode b_Doctype_readMixed 34 = .ok (.invokevirtual 87, 3) := by decide +kernel
theorem d_Doctype_readMixed_37 : decode b_Doctype_readMixed 37 = .ok (.ifCond .eq 35, 3) := by decide +kernel
theorem d_Doctype_readMixed_40 : decode b_Doctype_readMixed 40 = .ok (.aload_n 0, 1) := by decide +kernel
theorem d_Doctype_readMixed_41 : decode b_Doctype_readMixed 41 = .ok (.getfield 17, 3) := by decide +kernel
theorem d_Doctype_readMixed_44 : decode b_Doctype_readMixed 44 = .ok (.invokevirtual 69, 3) := by decide +kernel
theorem d_Doctype_readMixed_47 : decode b_Doctype_readMixed 47 = .ok (.pop, 1) := by decide +kernel
theorem d_Doctype_readMixed_48 : decode b_Doctype_readMixed 48 = .ok (.aload_n 0, 1) := by decide +kernel
theorem d_Doctype_readMixed_49 : decode b_Doctype_readMixed 49 = .ok (.getfield 17, 3) := by decide +kernel
theorem d_Doctype_readMixed_52 : decode b_Doctype_readMixed 52 = .ok (.invokevirtual 62, 3) := by decide +kernel
theorem d_Doctype_readMixed_55 : decode b_Doctype_readMixed 55 = .ok (.pop, 1) := by decide +kernel
theorem d_Doctype_readMixed_56 : decode b_Doctype_readMixed 56 = .ok (.aload_n 0, 1) := by decide +kernel
theorem d_Doctype_readMixed_57 : decode b_Doctype_readMixed 57 = .ok (.getfield 17, 3) := by decide +kernel
theorem d_Doctype_readMixed_60 : decode b_Doctype_readMixed 60 = .ok (.invokevirtual 69, 3) := by decide +kernel
theorem d_Doctype_readMixed_63 : decode b_Doctype_readMixed 63 = .ok (.pop, 1) := by decide +kernel
theorem d_Doctype_readMixed_64 : decode b_Doctype_readMixed 64 = .ok (.iconst 1, 1) := by decide +kernel
theorem d_Doctype_readMixed_65 : decode b_Doctype_readMixed 65 = .ok (.istore_n 1, 1) := by decide +kernel
theorem d_Doctype_readMixed_66 : decode b_Doctype_readMixed 66 = .ok (.iinc 2 1, 3) := by decide +kernel
theorem d_Doctype_readMixed_69 : decode b_Doctype_readMixed 69 = .ok (.goto (-57), 3) := by decide +kernel
theorem d_Doctype_readMixed_72 : decode b_Doctype_readMixed 72 = .ok (.aload_n 0, 1) := by decide +kernel
theorem d_Doctype_readMixed_73 : decode b_Doctype_readMixed 73 = .ok (.getfield 17, 3) := by decide +kernel
theorem d_Doctype_readMixed_76 : decode b_Doctype_readMixed 76 = .ok (.ldc 194, 2) := by decide +kernel
theorem d_Doctype_readMixed_78 : decode b_Doctype_readMixed 78 = .ok (.invokevirtual 53, 3) := by decide +kernel
theorem d_Doctype_readMixed_81 : decode b_Doctype_readMixed 81 = .ok (.aload_n 0, 1) := by decide +kernel
theorem d_Doctype_readMixed_82 : decode b_Doctype_readMixed 82 = .ok (.getfield 17, 3) := by decide +kernel
theorem d_Doctype_readMixed_85 : decode b_Doctype_readMixed 85 = .ok (.ldc 196, 2) := by decide +kernel
theorem d_Doctype_readMixed_87 : decode b_Doctype_readMixed 87 = .ok (.invokevirtual 87, 3) := by decide +kernel
theorem d_Doctype_readMixed_90 : decode b_Doctype_readMixed 90 = .ok (.ifCond .ne 15, 3) := by decide +kernel
theorem d_Doctype_readMixed_93 : decode b_Doctype_readMixed 93 = .ok (.iload_n 1, 1) := by decide +kernel
theorem d_Doctype_readMixed_94 : decode b_Doctype_readMixed 94 = .ok (.ifCond .eq 11, 3) := by decide +kernel
theorem d_Doctype_readMixed_97 : decode b_Doctype_readMixed 97 = .ok (.aload_n 0, 1) := by decide +kernel
theorem d_Doctype_readMixed_98 : decode b_Doctype_readMixed 98 = .ok (.getfield 17, 3) := by decide +kernel
theorem d_Doctype_readMixed_101 : decode b_Doctype_readMixed 101 = .ok (.iconst 5, 1) := by decide +kernel
theorem d_Doctype_readMixed_102 : decode b_Doctype_readMixed 102 = .ok (.invokevirtual 92, 3) := by decide +kernel
theorem d_Doctype_readMixed_105 : decode b_Doctype_readMixed 105 = .ok (.return_, 1) := by decide +kernel
/-- Doctype_readMixed -/
def w_Doctype_readMixed (L : Nat → Nat)  (Q : IS → Prop) (σ : IS) : Prop := w_Reader_skipSpace L  (fun v2 σ1 => WL (fun (K3 : Int × Int → IS → Prop) (s5 : Int × Int) (σ6 : IS) => WJ (fun (s9 : Unit) (σ10 : IS) => w_Reader_need L 1040 (fun σ11 => w_Reader_skip L 1041 (fun v14 σ13 => WJ (fun (s17 : Unit) (σ18 : IS) => Q σ18) (fun J15 => if v14 = 0 ∧ (¬ s5.1 = 0) then w_Reader_fail L 5 (fun σ19 => J15 () σ19) σ13 else J15 () σ13)) σ11) σ10) (fun J7 => if s5.2 < 1000000 ∧ ((σ6.1 2 4) = 0) then w_Reader_skip L 1039 (fun v27 σ26 => if v27 = 0 then J7 () σ26 else w_Reader_skipSpace L  (fun v30 σ29 => w_Reader_readName L  (fun v32 σ31 => w_Reader_skipSpace L  (fun v34 σ33 => inR (s5.2 + 1) ∧ K3 (1, (s5.2 + 1)) σ33) σ31) σ29) σ26) σ6 else J7 () σ6)) (0, 0) σ1) σ
set_option maxHeartbeats 4000000 in
set_option maxRecDepth 20000 in
theorem s_Doctype_readMixed {L : Nat → Nat} (hL : ∀ r, L r < 2147483648) {d : Nat} (hd : 2 ≤ d)  {Q : IS → Prop} {σ : IS}  (h : w_Doctype_readMixed L  Q σ) : OkI BF L d 5 b_Doctype_readMixed 3 0 0 [] [some (.inr 5)] σ (qv Q) := by
  unfold w_Doctype_readMixed at h
  obtain ⟨d, rfl⟩ : ∃ e, d = e + 1 := ⟨d - 1, by omega⟩
  refine k_sb (lv' := [some (.inr 5), none, none]) (sb_s (sb_e (sb_e sb_nil))) ?_
  refine k_iconst d_Doctype_readMixed_0 cI_0 ?_
  refine k_istore_n (lv' := [some (.inr 5), some (.inl 0), none]) d_Doctype_readMixed_1 rfl rfl ?_
  refine k_aload_n d_Doctype_readMixed_2 rfl ?_
  refine k_getR d_Doctype_readMixed_3 fl_5_17 ob_5 rfl ?_
  refine k_cvi [] d_Doctype_readMixed_6 ml_5_69 rfl rfl ob_2 rfl (s_Reader_skipSpace hL (by omega)  h) (fun v2 σ1 h => ?_)
  refine k_pop d_Doctype_readMixed_9 ?_
  refine k_iconst d_Doctype_readMixed_10 cI_0 ?_
  refine k_istore_n (lv' := [some (.inr 5), some (.inl 0), some (.inl 0)]) d_Doctype_readMixed_11 rfl rfl ?_
  refine k_sb (lv' := [some (.inr 5), some (.inl 0), some (.inl 0)]) (sb_s (sb_s (sb_s sb_nil))) ?_
  refine k_loop (S := Int × Int) (st := fun _ => []) (lv := fun s5 => [some (.inr 5), some (.inl s5.1), some (.inl s5.2)]) (fun K3 hK4 s5 σ6 h => ?_) (0, 0) _ h
  refine k_iload_n d_Doctype_readMixed_12 rfl ?_
  refine k_ldc d_Doctype_readMixed_13 ks_5_191 cL_1000000 ?_
  refine k_join (S := Unit) (pc' := 72) (st' := fun s9 => []) (lv' := fun s9 => [some (.inr 5), some (.inl s5.1), none]) (fun s9 σ10 h => ?_) (fun J7 hJ8 h => ?_) h
  · refine k_aload_n d_Doctype_readMixed_72 rfl ?_
    refine k_getR d_Doctype_readMixed_73 fl_5_17 ob_5 rfl ?_
    refine k_ldc d_Doctype_readMixed_76 ks_5_194 rfl ?_
    refine k_cvv [.inr 1040] d_Doctype_readMixed_78 ml_5_53 rfl rfl ob_2 rfl (s_Reader_need hL (by omega) it_1040 h) (fun σ11 h => ?_)
    refine k_aload_n d_Doctype_readMixed_81 rfl ?_
    refine k_getR d_Doctype_readMixed_82 fl_5_17 ob_5 rfl ?_
    refine k_ldc d_Doctype_readMixed_85 ks_5_196 rfl ?_
    refine k_cvi [.inr 1041] d_Doctype_readMixed_87 ml_5_87 rfl rfl ob_2 rfl (s_Reader_skip hL (by omega) it_1041 h) (fun v14 σ13 h => ?_)
    refine k_join (S := Unit) (pc' := 105) (st' := fun s17 => []) (lv' := fun s17 => [none, none, none]) (fun s17 σ18 h => ?_) (fun J15 hJ16 h => ?_) h
    · exact k_ret d_Doctype_readMixed_105 h
    · have hX21 : (v14 = 0 ∧ (¬ s5.1 = 0)) → OkI BF L (d + 1) 5 b_Doctype_readMixed 3 0 97 [] [some (.inr 5), some (.inl s5.1), none] σ13 (qv Q) := fun e23 => by
        have h := ipos e23 h
        refine k_aload_n d_Doctype_readMixed_97 rfl ?_
        refine k_getR d_Doctype_readMixed_98 fl_5_17 ob_5 rfl ?_
        refine k_iconst d_Doctype_readMixed_101 cI_5 ?_
        refine k_cvv [.inl 5] d_Doctype_readMixed_102 ml_5_92 rfl rfl ob_2 rfl (s_Reader_fail hL (by omega)  h) (fun σ19 h => ?_)
        exact k_sb (sb_n (sb_n (sb_s sb_nil))) (hJ16 () _ h)
      have hY22 : ¬ (v14 = 0 ∧ (¬ s5.1 = 0)) → OkI BF L (d + 1) 5 b_Doctype_readMixed 3 0 105 [] [some (.inr 5), some (.inl s5.1), none] σ13 (qv Q) := fun e23 => by
        have h := ineg e23 h
        exact k_sb (sb_n (sb_n (sb_s sb_nil))) (hJ16 () _ h)
      refine k_ifne d_Doctype_readMixed_90 rfl (fun c24 => ?_) (fun c24 => ?_)
      · exact hY22 (fun z => c24 z.1)
      · refine k_iload_n d_Doctype_readMixed_93 rfl ?_
        refine k_ifeq d_Doctype_readMixed_94 rfl (fun c25 => ?_) (fun c25 => ?_)
        · exact hY22 (fun z => (fun z => z c25) z.2)
        · exact hX21 (⟨c24, c25⟩)
  · have hX36 : (s5.2 < 1000000 ∧ ((σ6.1 2 4) = 0)) → OkI BF L (d + 1) 5 b_Doctype_readMixed 3 0 28 [] [some (.inr 5), some (.inl s5.1), some (.inl s5.2)] σ6 (qv Q) := fun e38 => by
      have h := ipos e38 h
      refine k_aload_n d_Doctype_readMixed_28 rfl ?_
      refine k_getR d_Doctype_readMixed_29 fl_5_17 ob_5 rfl ?_
      refine k_ldc d_Doctype_readMixed_32 ks_5_192 rfl ?_
      refine k_cvi [.inr 1039] d_Doctype_readMixed_34 ml_5_87 rfl rfl ob_2 rfl (s_Reader_skip hL (by omega) it_1039 h) (fun v27 σ26 h => ?_)
      refine k_ifeq d_Doctype_readMixed_37 rfl (fun c28 => ?_) (fun c28 => ?_)
      · have h := ipos c28 h
        exact k_sb (sb_s (sb_s (sb_n sb_nil))) (hJ8 () _ h)
      · have h := ineg c28 h
        refine k_aload_n d_Doctype_readMixed_40 rfl ?_
        refine k_getR d_Doctype_readMixed_41 fl_5_17 ob_5 rfl ?_
        refine k_cvi [] d_Doctype_readMixed_44 ml_5_69 rfl rfl ob_2 rfl (s_Reader_skipSpace hL (by omega)  h) (fun v30 σ29 h => ?_)
        refine k_pop d_Doctype_readMixed_47 ?_
        refine k_aload_n d_Doctype_readMixed_48 rfl ?_
        refine k_getR d_Doctype_readMixed_49 fl_5_17 ob_5 rfl ?_
        refine k_cvi [] d_Doctype_readMixed_52 ml_5_62 rfl rfl ob_2 rfl (s_Reader_readName hL (by omega)  h) (fun v32 σ31 h => ?_)
        refine k_pop d_Doctype_readMixed_55 ?_
        refine k_aload_n d_Doctype_readMixed_56 rfl ?_
        refine k_getR d_Doctype_readMixed_57 fl_5_17 ob_5 rfl ?_
        refine k_cvi [] d_Doctype_readMixed_60 ml_5_69 rfl rfl ob_2 rfl (s_Reader_skipSpace hL (by omega)  h) (fun v34 σ33 h => ?_)
        refine k_pop d_Doctype_readMixed_63 ?_
        refine k_iconst d_Doctype_readMixed_64 cI_1 ?_
        refine k_istore_n (lv' := [some (.inr 5), some (.inl 1), some (.inl s5.2)]) d_Doctype_readMixed_65 rfl rfl ?_
        obtain ⟨p35, h⟩ := h
        refine k_iinc (lv' := [some (.inr 5), some (.inl 1), some (.inl (s5.2 + 1))]) d_Doctype_readMixed_66 cI_1 rfl rfl p35 rfl ?_
        refine k_goto d_Doctype_readMixed_69 rfl ?_
        exact k_sb (sb_s (sb_s (sb_s sb_nil))) (hK4 (1, (s5.2 + 1)) _ h)
    have hY37 : ¬ (s5.2 < 1000000 ∧ ((σ6.1 2 4) = 0)) → OkI BF L (d + 1) 5 b_Doctype_readMixed 3 0 72 [] [some (.inr 5), some (.inl s5.1), some (.inl s5.2)] σ6 (qv Q) := fun e38 => by
      have h := ineg e38 h
      exact k_sb (sb_s (sb_s (sb_n sb_nil))) (hJ8 () _ h)
    refine k_icge d_Doctype_readMixed_15 rfl (fun c39 => ?_) (fun c39 => ?_)
    · exact hY37 (fun z => c39 z.1)
    · refine k_aload_n d_Doctype_readMixed_18 rfl ?_
      refine k_getR d_Doctype_readMixed_19 fl_5_17 ob_5 rfl ?_
      refine k_getI (x := (σ6.1 2 4)) d_Doctype_readMixed_22 fl_5_140 ob_2 rfl rfl ?_
      refine k_ifne d_Doctype_readMixed_25 rfl (fun c40 => ?_) (fun c40 => ?_)
      · exact hY37 (fun z => (c40) z.2)
      · exact hX36 (⟨c39, c40⟩)
theorem d_Doctype_skipHowOften_0 : decode b_Doctype_skipHowOften 0 = .ok (.aload_n 0, 1) := by decide +kernel
theorem d_Doctype_skipHowOften_1 : decode b_Doctype_skipHowOften 1 = .ok (.getfield 17, 3) := by decide +kernel
theorem d_Doctype_skipHowOften_4 : decode b_Doctype_skipHowOften 4 = .ok (.invokevirtual 102, 3) := by decide +kernel
theorem d_Doctype_skipHowOften_7 : decode b_Doctype_skipHowOften 7 = .ok (.istore_n 1, 1) := by decide +kernel
theorem d_Doctype_skipHowOften_8 : decode b_Doctype_skipHowOften 8 = .ok (.iload_n 1, 1) := by decide +kernel
theorem d_Doctype_skipHowOften_9 : decode b_Doctype_skipHowOften 9 = .ok (.bipush 63, 2) := by decide +kernel
theorem d_Doctype_skipHowOften_11 : decode b_Doctype_skipHowOften 11 = .ok (.if_icmp .eq 15, 3) := by decide +kernel
theorem d_Doctype_skipHowOften_14 : decode b_Doctype_skipHowOften 14 = .ok (.iload_n 1, 1) := by decide +kernel
theorem d_Doctype_skipHowOften_15 : decode b_Doctype_skipHowOften 15 = .ok (.bipush 42, 2) := by decide +kernel
theorem d_Doctype_skipHowOften_17 : decode b_Doctype_skipHowOften 17 = .ok (.if_icmp .eq 9, 3) := by decide +kernel
theorem d_Doctype_skipHowOften_20 : decode b_Doctype_skipHowOften 20 = .ok (.iload_n 1, 1) := by decide +kernel
theorem d_Doctype_skipHowOften_21 : decode b_Doctype_skipHowOften 21 = .ok (.bipush 43, 2) := by decide +kernel
theorem d_Doctype_skipHowOften_23 : decode b_Doctype_skipHowOften 23 = .ok (.if_icmp .ne 16, 3) := by decide +kernel
theorem d_Doctype_skipHowOften_26 : decode b_Doctype_skipHowOften 26 = .ok (.aload_n 0, 1) := by decide +kernel
theorem d_Doctype_skipHowOften_27 : decode b_Doctype_skipHowOften 27 = .ok (.getfield 17, 3) := by decide +kernel
theorem d_Doctype_skipHowOften_30 : decode b_Doctype_skipHowOften 30 = .ok (.dup, 1) := by decide +kernel
theorem d_Doctype_skipHowOften_31 : decode b_Doctype_skipHowOften 31 = .ok (.getfield 66, 3) := by decide +kernel
theorem d_Doctype_skipHowOften_34 : decode b_Doctype_skipHowOften 34 = .ok (.iconst 1, 1) := by decide +kernel
theorem d_Doctype_skipHowOften_35 : decode b_Doctype_skipHowOften 35 = .ok (.iadd, 1) := by decide +kernel
theorem d_Doctype_skipHowOften_36 : decode b_Doctype_skipHowOften 36 = .ok (.putfield 66, 3) := by decide +kernel
theorem d_Doctype_skipHowOften_39 : decode b_Doctype_skipHowOften 39 = .ok (.return_, 1) := by decide +kernel
/-- Doctype_skipHowOften -/
def w_Doctype_skipHowOften (L : Nat → Nat)  (Q : IS → Prop) (σ : IS) : Prop := w_Reader_peek L  (fun v2 σ1 => WJ (fun (s5 : Unit) (σ6 : IS) => Q σ6) (fun J3 => if v2 = 63 ∨ (v2 = 42 ∨ (v2 = 43)) then inR ((σ1.1 2 2) + 1) ∧ J3 () (pf σ1 2 2 ((σ1.1 2 2) + 1)) else J3 () σ1)) σ
set_option maxHeartbeats 4000000 in
set_option maxRecDepth 20000 in
theorem s_Doctype_skipHowOften {L : Nat → Nat} (hL : ∀ r, L r < 2147483648) {d : Nat} (hd : 1 ≤ d)  {Q : IS → Prop} {σ : IS}  (h : w_Doctype_skipHowOften L  Q σ) : OkI BF L d 5 b_Doctype_skipHowOften 2 0 0 [] [some (.inr 5)] σ (qv Q) := by
  unfold w_Doctype_skipHowOften at h
  obtain ⟨d, rfl⟩ : ∃ e, d = e + 1 := ⟨d - 1, by omega⟩
  refine k_sb (lv' := [some (.inr 5), none]) (sb_s (sb_e sb_nil)) ?_
  refine k_aload_n d_Doctype_skipHowOften_0 rfl ?_
  refine k_getR d_Doctype_skipHowOften_1 fl_5_17 ob_5 rfl ?_
  refine k_cvi [] d_Doctype_skipHowOften_4 ml_5_102 rfl rfl ob_2 rfl (s_Reader_peek hL (by omega)  h) (fun v2 σ1 h => ?_)
  refine k_istore_n (lv' := [some (.inr 5), some (.inl v2)]) d_Doctype_skipHowOften_7 rfl rfl ?_
  refine k_iload_n d_Doctype_skipHowOften_8 rfl ?_
  refine k_bipush d_Doctype_skipHowOften_9 cB_63 ?_
  refine k_join (S := Unit) (pc' := 39) (st' := fun s5 => []) (lv' := fun s5 => [none, none]) (fun s5 σ6 h => ?_) (fun J3 hJ4 h => ?_) h
  · exact k_ret d_Doctype_skipHowOften_39 h
  · have hX8 : (v2 = 63 ∨ (v2 = 42 ∨ (v2 = 43))) → OkI BF L (d + 1) 5 b_Doctype_skipHowOften 2 0 26 [] [some (.inr 5), some (.inl v2)] σ1 (qv Q) := fun e10 => by
      have h := ipos e10 h
      refine k_aload_n d_Doctype_skipHowOften_26 rfl ?_
      refine k_getR d_Doctype_skipHowOften_27 fl_5_17 ob_5 rfl ?_
      refine k_dup d_Doctype_skipHowOften_30 ?_
      refine k_getI (x := (σ1.1 2 2)) d_Doctype_skipHowOften_31 fl_5_66 ob_2 rfl rfl ?_
      refine k_iconst d_Doctype_skipHowOften_34 cI_1 ?_
      obtain ⟨p7, h⟩ := h
      refine k_iadd d_Doctype_skipHowOften_35 p7 ?_
      refine k_putI d_Doctype_skipHowOften_36 fl_5_66 ob_2 rfl ?_
      exact k_sb (sb_n (sb_n sb_nil)) (hJ4 () _ h)
    have hY9 : ¬ (v2 = 63 ∨ (v2 = 42 ∨ (v2 = 43))) → OkI BF L (d + 1) 5 b_Doctype_skipHowOften 2 0 39 [] [some (.inr 5), some (.inl v2)] σ1 (qv Q) := fun e10 => by
      have h := ineg e10 h
      exact k_sb (sb_n (sb_n sb_nil)) (hJ4 () _ h)
    refine k_iceq d_Doctype_skipHowOften_11 rfl (fun c11 => ?_) (fun c11 => ?_)
    · exact hX8 (Or.inl c11)
    · refine k_iload_n d_Doctype_skipHowOften_14 rfl ?_
      refine k_bipush d_Doctype_skipHowOften_15 cB_42 ?_
      refine k_iceq d_Doctype_skipHowOften_17 rfl (fun c12 => ?_) (fun c12 => ?_)
      · exact hX8 (Or.inr (Or.inl c12))
      · refine k_iload_n d_Doctype_skipHowOften_20 rfl ?_
        refine k_bipush d_Doctype_skipHowOften_21 cB_43 ?_
        refine k_icne d_Doctype_skipHowOften_23 rfl (fun c13 => ?_) (fun c13 => ?_)
        · exact hY9 (fun z => z.elim c11 (fun z => z.elim c12 (c13)))
        · exact hX8 (Or.inr (Or.inr (c13)))
theorem d_Doctype_readModel_0 : decode b_Doctype_readModel 0 = .ok (.iconst 1, 1) := by decide +kernel
theorem d_Doctype_readModel_1 : decode b_Doctype_readModel 1 = .ok (.istore_n 1, 1) := by decide +kernel
theorem d_Doctype_readModel_2 : decode b_Doctype_readModel 2 = .ok (.iconst 1, 1) := by decide +kernel
theorem d_Doctype_readModel_3 : decode b_Doctype_readModel 3 = .ok (.istore_n 2, 1) := by decide +kernel
theorem d_Doctype_readModel_4 : decode b_Doctype_readModel 4 = .ok (.aload_n 0, 1) := by decide +kernel
theorem d_Doctype_readModel_5 : decode b_Doctype_readModel 5 = .ok (.iconst 0, 1) := by decide +kernel
theorem d_Doctype_readModel_6 : decode b_Doctype_readModel 6 = .ok (.putfield 181, 3) := by decide +kernel
theorem d_Doctype_readModel_9 : decode b_Doctype_readModel 9 = .ok (.aload_n 0, 1) := by decide +kernel
theorem d_Doctype_readModel_10 : decode b_Doctype_readModel 10 = .ok (.iconst 1, 1) := by decide +kernel
theorem d_Doctype_readModel_11 : decode b_Doctype_readModel 11 = .ok (.putfield 184, 3) := by decide +kernel
theorem d_Doctype_readModel_14 : decode b_Doctype_readModel 14 = .ok (.aload_n 0, 1) := by decide +kernel
theorem d_Doctype_readModel_15 : decode b_Doctype_readModel 15 = .ok (.getfield 40, 3) := by decide +kernel
theorem d_Doctype_readModel_18 : decode b_Doctype_readModel 18 = .ok (.iconst 1, 1) := by decide +kernel
theorem d_Doctype_readModel_19 : decode b_Doctype_readModel 19 = .ok (.iconst 0, 1) := by decide +kernel
theorem d_Doctype_readModel_20 : decode b_Doctype_readModel 20 = .ok (.bastore, 1) := by decide +kernel
theorem d_Doctype_readModel_21 : decode b_Doctype_readModel 21 = .ok (.iconst 0, 1) := by decide +kernel
theorem d_Doctype_readModel_22 : decode b_Doctype_readModel 22 = .ok (.istore_n 3, 1) := by decide +kernel
theorem d_Doctype_readModel_23 : decode b_Doctype_readModel 23 = .ok (.iload_n 3, 1) := by decide +kernel
theorem d_Doctype_readModel_24 : decode b_Doctype_readModel 24 = .ok (.ldc 191, 2) := by decide +kernel
theorem d_Doctype_readModel_26 : decode b_Doctype_readModel 26 = .ok (.if_icmp .ge 230, 3) := by decide +kernel
theorem d_Doctype_readModel_29 : decode b_Doctype_readModel 29 = .ok (.iload_n 1, 1) := by decide +kernel
theorem d_Doctype_readModel_30 : decode b_Doctype_readModel 30 = .ok (.ifCond .le 226, 3) := by decide +kernel
theorem d_Doctype_readModel_33 : decode b_Doctype_readModel 33 = .ok (.aload_n 0, 1) := by decide +kernel
theorem d_Doctype_readModel_34 : decode b_Doctype_readModel 34 = .ok (.getfield 17, 3) := by decide +kernel
theorem d_Doctype_readModel_37 : decode b_Doctype_readModel 37 = .ok (.getfield 140, 3) := by decide +kernel
theorem d_Doctype_readModel_40 : decode b_Doctype_readModel 40 = .ok (.ifCond .ne 216, 3) := by decide +kernel
theorem d_Doctype_readModel_43 : decode b_Doctype_readModel 43 = .ok (.aload_n 0, 1) := by decide +kernel
theorem d_Doctype_readModel_44 : decode b_Doctype_readModel 44 = .ok (.getfield 17, 3) := by decide +kernel
theorem d_Doctype_readModel_47 : decode b_Doctype_readModel 47 = .ok (.invokevirtual 69, 3) := by decide +kernel
theorem d_Doctype_readModel_50 : decode b_Doctype_readModel 50 = .ok (.pop, 1) := by decide +kernel
theorem d_Doctype_readModel_51 : decode b_Doctype_readModel 51 = .ok (.aload_n 0, 1) := by decide +kernel
theorem d_Doctype_readModel_52 : decode b_Doctype_readModel 52 = .ok (.getfield 17, 3) := by decide +kernel
theorem d_Doctype_readModel_55 : decode b_Doctype_readModel 55 = .ok (.invokevirtual 102, 3) := by decide +kernel
theorem d_Doctype_readModel_58 : decode b_Doctype_readModel 58 = .ok (.istore 4, 2) := by decide +kernel
theorem d_Doctype_readModel_60 : decode b_Doctype_readModel 60 = .ok (.iload_n 2, 1) := by decide +kernel
theorem d_Doctype_readModel_61 : decode b_Doctype_readModel 61 = .ok (.ifCond .eq 59, 3) := by decide +kernel
theorem d_Doctype_readModel_64 : decode b_Doctype_readModel 64 = .ok (.iload 4, 2) := by decide +kernel
theorem d_Doctype_readModel_66 : decode b_Doctype_readModel 66 = .ok (.bipush 40, 2) := by decide +kernel
theorem d_Doctype_readModel_68 : decode b_Doctype_readModel 68 = .ok (.if_icmp .ne 52, 3) := by decide +kernel
theorem d_Doctype_readModel_71 : decode b_Doctype_readModel 71 = .ok (.iload_n 1, 1) := by decide +kernel
theorem d_Doctype_readModel_72 : decode b_Doctype_readModel 72 = .ok (.iconst 1, 1) := by decide +kernel
theorem d_Doctype_readModel_73 : decode b_Doctype_readModel 73 = .ok (.iadd, 1) := by decide +kernel
theorem d_Doctype_readModel_74 : decode b_Doctype_readModel 74 = .ok (.aload_n 0, 1) := by decide +kernel
theorem d_Doctype_readModel_75 : decode b_Doctype_readModel 75 = .ok (.getfield 40, 3) := by decide +kernel
theorem d_Doctype_readModel_78 : decode b_Doctype_readModel 78 = .ok (.arraylength, 1) := by decide +kernel
theorem d_Doctype_readModel_79 : decode b_Doctype_readModel 79 = .ok (.if_icmp .ge 41, 3) := by decide +kernel
theorem d_Doctype_readModel_82 : decode b_Doctype_readModel 82 = .ok (.aload_n 0, 1) := by decide +kernel
theorem d_Doctype_readModel_83 : decode b_Doctype_readModel 83 = .ok (.getfield 17, 3) := by decide +kernel
theorem d_Doctype_readModel_86 : decode b_Doctype_readModel 86 = .ok (.dup, 1) := by decide +kernel
theorem d_Doctype_readModel_87 : decode b_Doctype_readModel 87 = .ok (.getfield 66, 3) := by decide +kernel
theorem d_Doctype_readModel_90 : decode b_Doctype_readModel 90 = .ok (.iconst 1, 1) := by decide +kernel
theorem d_Doctype_readModel_91 : decode b_Doctype_readModel 91 = .ok (.iadd, 1) := by decide +kernel
theorem d_Doctype_readModel_92 : decode b_Doctype_readModel 92 = .ok (.putfield 66, 3) := by decide +kernel
theorem d_Doctype_readModel_95 : decode b_Doctype_readModel 95 = .ok (.iinc 1 1, 3) := by decide +kernel
theorem d_Doctype_readModel_98 : decode b_Doctype_readModel 98 = .ok (.aload_n 0, 1) := by decide +kernel
theorem d_Doctype_readModel_99 : decode b_Doctype_readModel 99 = .ok (.getfield 40, 3) := by decide +kernel
theorem d_Doctype_readModel_102 : decode b_Doctype_readModel 102 = .ok (.iload_n 1, 1) := by decide +kernel
theorem d_Doctype_readModel_103 : decode b_Doctype_readModel 103 = .ok (.iconst 0, 1) := by decide +kernel
theorem d_Doctype_readModel_104 : decode b_Doctype_readModel 104 = .ok (.bastore, 1) := by decide +kernel
theorem d_Doctype_readModel_105 : decode b_Doctype_readModel 105 = .ok (.aload_n 0, 1) := by decide +kernel
theorem d_Doctype_readModel_106 : decode b_Doctype_readModel 106 = .ok (.aload_n 0, 1) := by decide +kernel
theorem d_Doctype_readModel_107 : decode b_Doctype_readModel 107 = .ok (.getfield 184, 3) := by decide +kernel
theorem d_Doctype_readModel_110 : decode b_Doctype_readModel 110 = .ok (.iload_n 1, 1) := by decide +kernel
theorem d_Doctype_readModel_111 : decode b_Doctype_readModel 111 = .ok (.invokestatic 198, 3) := by decide +kernel
theorem d_Doctype_readModel_114 : decode b_Doctype_readModel 114 = .ok (.putfield 184, 3) := by decide +kernel
theorem d_Doctype_readModel_117 : decode b_Doctype_readModel 117 = .ok (.goto 133, 3) := by decide +kernel
theorem d_Doctype_readModel_120 : decode b_Doctype_readModel 120 = .ok (.iload_n 2, 1) := by decide +kernel
theorem d_Doctype_readModel_121 : decode b_Doctype_readModel 121 = .ok (.ifCond .eq 30, 3) := by decide +kernel
theorem d_Doctype_readModel_124 : decode b_Doctype_readModel 124 = .ok (.aload_n 0, 1) := by decide +kernel
theorem d_Doctype_readModel_125 : decode b_Doctype_readModel 125 = .ok (.getfield 17, 3) := by decide +kernel
theorem d_Doctype_readModel_128 : decode b_Doctype_readModel 128 = .ok (.invokevirtual 62, 3) := by decide +kernel
theorem d_Doctype_readModel_131 : decode b_Doctype_readModel 131 = .ok (.pop, 1) := by decide +kernel
theorem d_Doctype_readModel_132 : decode b_Doctype_readModel 132 = .ok (.aload_n 0, 1) := by decide +kernel
theorem d_Doctype_readModel_133 : decode b_Doctype_readModel 133 = .ok (.invokevirtual 201, 3) := by decide +kernel
theorem d_Doctype_readModel_136 : decode b_Doctype_readModel 136 = .ok (.aload_n 0, 1) := by decide +kernel
theorem d_Doctype_readModel_137 : decode b_Doctype_readModel 137 = .ok (.dup, 1) := by decide +kernel
theorem d_Doctype_readModel_138 : decode b_Doctype_readModel 138 = .ok (.getfield 181, 3) := by decide +kernel
theorem d_Doctype_readModel_141 : decode b_Doctype_readModel 141 = .ok (.iconst 1, 1) := by decide +kernel
theorem d_Doctype_readModel_142 : decode b_Doctype_readModel 142 = .ok (.iadd, 1) := by decide +kernel
theorem d_Doctype_readModel_143 : decode b_Doctype_readModel 143 = .ok (.putfield 181, 3) := by decide +kernel
theorem d_Doctype_readModel_146 : decode b_Doctype_readModel 146 = .ok (.iconst 0, 1) := by decide +kernel
theorem d_Doctype_readModel_147 : decode b_Doctype_readModel 147 = .ok (.istore_n 2, 1) := by decide +kernel
theorem d_Doctype_readModel_148 : decode b_Doctype_readModel 148 = .ok (.goto 102, 3) := by decide +kernel
theorem d_Doctype_readModel_151 : decode b_Doctype_readModel 151 = .ok (.iload 4, 2) := by decide +kernel
theorem d_Doctype_readModel_153 : decode b_Doctype_readModel 153 = .ok (.bipush 41, 2) := by decide +kernel
theorem d_Doctype_readModel_155 : decode b_Doctype_readModel 155 = .ok (.if_icmp .ne 26, 3) := by decide +kernel
theorem d_Doctype_readModel_158 : decode b_Doctype_readModel 158 = .ok (.aload_n 0, 1) := by decide +kernel
theorem d_Doctype_readModel_159 : decode b_Doctype_readModel 159 = .ok (.getfield 17, 3) := by decide +kernel
theorem d_Doctype_readModel_162 : decode b_Doctype_readModel 162 = .ok (.dup, 1) := by decide +kernel
theorem d_Doctype_readModel_163 : decode b_Doctype_readModel 163 = .ok (.getfield 66, 3) := by decide +kernel
theorem d_Doctype_readModel_166 : decode b_Doctype_readModel 166 = .ok (.iconst 1, 1) := by decide +kernel
theorem d_Doctype_readModel_167 : decode b_Doctype_readModel 167 = .ok (.iadd, 1) := by decide +kernel
theorem d_Doctype_readModel_168 : decode b_Doctype_readModel 168 = .ok (.putfield 66, 3) := by decide +kernel
theorem d_Doctype_readModel_171 : decode b_Doctype_readModel 171 = .ok (.aload_n 0, 1) := by decide +kernel
theorem d_Doctype_readModel_172 : decode b_Doctype_readModel 172 = .ok (.invokevirtual 201, 3) := by decide +kernel
theorem d_Doctype_readModel_175 : decode b_Doctype_readModel 175 = .ok (.iinc 1 (-1), 3) := by decide +kernel
theorem d_Doctype_readModel_178 : decode b_Doctype_readModel 178 = .ok (.goto 72, 3) := by decide +kernel
theorem d_Doctype_readModel_181 : decode b_Doctype_readModel 181 = .ok (.iload 4, 2) := by decide +kernel
theorem d_Doctype_readModel_183 : decode b_Doctype_readModel 183 = .ok (.bipush 124, 2) := by decide +kernel
theorem d_Doctype_readModel_185 : decode b_Doctype_readModel 185 = .ok (.if_icmp .eq 10, 3) := by decide +kernel
theorem d_Doctype_readModel_188 : decode b_Doctype_readModel 188 = .ok (.iload 4, 2) := by decide +kernel
theorem d_Doctype_readModel_190 : decode b_Doctype_readModel 190 = .ok (.bipush 44, 2) := by decide +kernel
theorem d_Doctype_readModel_192 : decode b_Doctype_readModel 192 = .ok (.if_icmp .ne 50, 3) := by decide +kernel
theorem d_Doctype_readModel_195 : decode b_Doctype_readModel 195 = .ok (.aload_n 0, 1) := by decide +kernel
theorem d_Doctype_readModel_196 : decode b_Doctype_readModel 196 = .ok (.getfield 40, 3) := by decide +kernel
theorem d_Doctype_readModel_199 : decode b_Doctype_readModel 199 = .ok (.iload_n 1, 1) := by decide +kernel
theorem d_Doctype_readModel_200 : decode b_Doctype_readModel 200 = .ok (.baload, 1) := by decide +kernel
theorem d_Doctype_readModel_201 : decode b_Doctype_readModel 201 = .ok (.ifCond .eq 14, 3) := by decide +kernel
theorem d_Doctype_readModel_204 : decode b_Doctype_readModel 204 = .ok (.aload_n 0, 1) := by decide +kernel
theorem d_Doctype_readModel_205 : decode b_Doctype_readModel 205 = .ok (.getfield 40, 3) := by decide +kernel
theorem d_Doctype_readModel_208 : decode b_Doctype_readModel 208 = .ok (.iload_n 1, 1) := by decide +kernel
theorem d_Doctype_readModel_209 : decode b_Doctype_readModel 209 = .ok (.baload, 1) := by decide +kernel
theorem d_Doctype_readModel_210 : decode b_Doctype_readModel 210 = .ok (.iload 4, 2) := by decide +kernel
theorem d_Doctype_readModel_212 : decode b_Doctype_readModel 212 = .ok (.if_icmp .ne 30, 3) := by decide +kernel
theorem d_Doctype_readModel_215 : decode b_Doctype_readModel 215 = .ok (.aload_n 0, 1) := by decide +kernel
theorem d_Doctype_readModel_216 : decode b_Doctype_readModel 216 = .ok (.getfield 17, 3) := by decide +kernel
theorem d_Doctype_readModel_219 : decode b_Doctype_readModel 219 = .ok (.dup, 1) := by decide +kernel
theorem d_Doctype_readModel_220 : decode b_Doctype_readModel 220 = .ok (.getfield 66, 3) := by decide +kernel
theorem d_Doctype_readModel_223 : decode b_Doctype_readModel 223 = .ok (.iconst 1, 1) := by decide +kernel
theorem d_Doctype_readModel_224 : decode b_Doctype_readModel 224 = .ok (.iadd, 1) := by decide +kernel
theorem d_Doctype_readModel_225 : decode b_Doctype_readModel 225 = .ok (.putfield 66, 3) := by decide +kernel
theorem d_Doctype_readModel_228 : decode b_Doctype_readModel 228 = .ok (.aload_n 0, 1) := by decide +kernel
theorem d_Doctype_readModel_229 : decode b_Doctype_readModel 229 = .ok (.getfield 40, 3) := by decide +kernel
theorem d_Doctype_readModel_232 : decode b_Doctype_readModel 232 = .ok (.iload_n 1, 1) := by decide +kernel
theorem d_Doctype_readModel_233 : decode b_Doctype_readModel 233 = .ok (.iload 4, 2) := by decide +kernel
theorem d_Doctype_readModel_235 : decode b_Doctype_readModel 235 = .ok (.i2b, 1) := by decide +kernel
theorem d_Doctype_readModel_236 : decode b_Doctype_readModel 236 = .ok (.bastore, 1) := by decide +kernel
theorem d_Doctype_readModel_237 : decode b_Doctype_readModel 237 = .ok (.iconst 1, 1) := by decide +kernel
theorem d_Doctype_readModel_238 : decode b_Doctype_readModel 238 = .ok (.istore_n 2, 1) := by decide +kernel
theorem d_Doctype_readModel_239 : decode b_Doctype_readModel 239 = .ok (.goto 11, 3) := by decide +kernel
theorem d_Doctype_readModel_242 : decode b_Doctype_readModel 242 = .ok (.aload_n 0, 1) := by decide +kernel
theorem d_Doctype_readModel_243 : decode b_Doctype_readModel 243 = .ok (.getfield 17, 3) := by decide +kernel
theorem d_Doctype_readModel_246 : decode b_Doctype_readModel 246 = .ok (.iconst 5, 1) := by decide +kernel
theorem d_Doctype_readModel_247 : decode b_Doctype_readModel 247 = .ok (.invokevirtual 92, 3) := by decide +kernel
theorem d_Doctype_readModel_250 : decode b_Doctype_readModel 250 = .ok (.iinc 3 1, 3) := by decide +kernel
theorem d_Doctype_readModel_253 : decode b_Doctype_readModel 253 = .ok (.goto (-230), 3) := by decide +kernel
theorem d_Doctype_readModel_256 : decode b_Doctype_readModel 256 = .ok (.return_, 1) := by decide +kernel
/-- Doctype_readModel -/
def w_Doctype_readModel (L : Nat → Nat)  (Q : IS → Prop) (σ : IS) : Prop := inL L 128 1 ∧ WL (fun (K1 : Int × Int × Int → IS → Prop) (s3 : Int × Int × Int) (σ4 : IS) => if s3.2.2 < 1000000 ∧ (0 < s3.1 ∧ ((σ4.1 2 4) = 0)) then w_Reader_skipSpace L  (fun v6 σ5 => w_Reader_peek L  (fun v8 σ7 => WJ (fun (s11 : Int × Int) (σ12 : IS) => inR (s3.2.2 + 1) ∧ K1 (s11.1, s11.2, (s3.2.2 + 1)) σ12) (fun J9 => ((¬ s3.2.1 = 0 → (v8 = 40 → inR (s3.1 + 1)))) ∧ if ¬ s3.2.1 = 0 ∧ (v8 = 40 ∧ ((s3.1 + 1) < ((L 128 : Nat) : Int))) then inR ((σ7.1 2 2) + 1) ∧ inR (s3.1 + 1) ∧ inL L 128 (s3.1 + 1) ∧ J9 ((s3.1 + 1), s3.2.1) (pf (pr (pf σ7 2 2 ((σ7.1 2 2) + 1)) 128 (Int.toNat (s3.1 + 1)) 0) 5 9 (if (σ7.1 5 9) < (s3.1 + 1) then (s3.1 + 1) else (σ7.1 5 9))) else if s3.2.1 = 0 then if v8 = 41 then inR ((σ7.1 2 2) + 1) ∧ w_Doctype_skipHowOften L  (fun σ42 => inR (s3.1 + (-1)) ∧ J9 ((s3.1 + (-1)), s3.2.1) σ42) (pf σ7 2 2 ((σ7.1 2 2) + 1)) else WJ (fun (s22 : Unit) (σ23 : IS) => w_Reader_fail L 5 (fun σ24 => J9 (s3.1, s3.2.1) σ24) σ23) (fun J20 => if v8 = 124 ∨ (v8 = 44) then inL L 128 s3.1 ∧ ((¬ (σ7.2 128 (Int.toNat s3.1)) = 0 → inL L 128 s3.1)) ∧ if ¬ (σ7.2 128 (Int.toNat s3.1)) = 0 ∧ (¬ (σ7.2 128 (Int.toNat s3.1)) = v8) then J20 () σ7 else inR ((σ7.1 2 2) + 1) ∧ inL L 128 s3.1 ∧ J9 (s3.1, 1) (pr (pf σ7 2 2 ((σ7.1 2 2) + 1)) 128 (Int.toNat s3.1) (nb v8)) else J20 () σ7) else w_Reader_readName L  (fun v47 σ46 => w_Doctype_skipHowOften L  (fun σ48 => inR ((σ48.1 5 8) + 1) ∧ J9 (s3.1, 0) (pf σ48 5 8 ((σ48.1 5 8) + 1))) σ46) σ7)) σ5) σ4 else Q σ4) (1, 1, 0) (pr (pf (pf σ 5 8 0) 5 9 1) 128 (Int.toNat 1) 0)
set_option maxHeartbeats 4000000 in
set_option maxRecDepth 20000 in
theorem s_Doctype_readModel {L : Nat → Nat} (hL : ∀ r, L r < 2147483648) {d : Nat} (hd : 2 ≤ d)  {Q : IS → Prop} {σ : IS}  (h : w_Doctype_readModel L  Q σ) : OkI BF L d 5 b_Doctype_readModel 5 0 0 [] [some (.inr 5)] σ (qv Q) := by
  unfold w_Doctype_readModel at h
  obtain ⟨d, rfl⟩ : ∃ e, d = e + 1 := ⟨d - 1, by omega⟩
  refine k_sb (lv' := [some (.inr 5), none, none, none, none]) (sb_s (sb_e (sb_e (sb_e (sb_e sb_nil))))) ?_
  refine k_iconst d_Doctype_readModel_0 cI_1 ?_
  refine k_istore_n (lv' := [some (.inr 5), some (.inl 1), none, none, none]) d_Doctype_readModel_1 rfl rfl ?_
  refine k_iconst d_Doctype_readModel_2 cI_1 ?_
  refine k_istore_n (lv' := [some (.inr 5), some (.inl 1), some (.inl 1), none, none]) d_Doctype_readModel_3 rfl rfl ?_
  refine k_aload_n d_Doctype_readModel_4 rfl ?_
  refine k_iconst d_Doctype_readModel_5 cI_0 ?_
  refine k_putI d_Doctype_readModel_6 fl_5_181 ob_5 rfl ?_
  refine k_aload_n d_Doctype_readModel_9 rfl ?_
  refine k_iconst d_Doctype_readModel_10 cI_1 ?_
  refine k_putI d_Doctype_readModel_11 fl_5_184 ob_5 rfl ?_
  refine k_aload_n d_Doctype_readModel_14 rfl ?_
  refine k_getR d_Doctype_readModel_15 fl_5_40 ob_5 rfl ?_
  refine k_iconst d_Doctype_readModel_18 cI_1 ?_
  refine k_iconst d_Doctype_readModel_19 cI_0 ?_
  obtain ⟨p66, h⟩ := h
  refine k_bst d_Doctype_readModel_20 rb_128 p66 (by decide) ?_
  refine k_iconst d_Doctype_readModel_21 cI_0 ?_
  refine k_istore_n (lv' := [some (.inr 5), some (.inl 1), some (.inl 1), some (.inl 0), none]) d_Doctype_readModel_22 rfl rfl ?_
  refine k_sb (lv' := [some (.inr 5), some (.inl 1), some (.inl 1), some (.inl 0), none]) (sb_s (sb_s (sb_s (sb_s (sb_s sb_nil))))) ?_
  refine k_loop (S := Int × Int × Int) (st := fun _ => []) (lv := fun s3 => [some (.inr 5), some (.inl s3.1), some (.inl s3.2.1), some (.inl s3.2.2), none]) (fun K1 hK2 s3 σ4 h => ?_) (1, 1, 0) _ h
  refine k_iload_n d_Doctype_readModel_23 rfl ?_
  refine k_ldc d_Doctype_readModel_24 ks_5_191 cL_1000000 ?_
  have hX60 : (s3.2.2 < 1000000 ∧ (0 < s3.1 ∧ ((σ4.1 2 4) = 0))) → OkI BF L (d + 1) 5 b_Doctype_readModel 5 0 43 [] [some (.inr 5), some (.inl s3.1), some (.inl s3.2.1), some (.inl s3.2.2), none] σ4 (qv Q) := fun e62 => by
    have h := ipos e62 h
    refine k_aload_n d_Doctype_readModel_43 rfl ?_
    refine k_getR d_Doctype_readModel_44 fl_5_17 ob_5 rfl ?_
    refine k_cvi [] d_Doctype_readModel_47 ml_5_69 rfl rfl ob_2 rfl (s_Reader_skipSpace hL (by omega)  h) (fun v6 σ5 h => ?_)
    refine k_pop d_Doctype_readModel_50 ?_
    refine k_aload_n d_Doctype_readModel_51 rfl ?_
    refine k_getR d_Doctype_readModel_52 fl_5_17 ob_5 rfl ?_
    refine k_cvi [] d_Doctype_readModel_55 ml_5_102 rfl rfl ob_2 rfl (s_Reader_peek hL (by omega)  h) (fun v8 σ7 h => ?_)
    refine k_istore (lv' := [some (.inr 5), some (.inl s3.1), some (.inl s3.2.1), some (.inl s3.2.2), some (.inl v8)]) d_Doctype_readModel_58 rfl rfl ?_
    refine k_iload_n d_Doctype_readModel_60 rfl ?_
    refine k_join (S := Int × Int) (pc' := 250) (st' := fun s11 => []) (lv' := fun s11 => [some (.inr 5), some (.inl s11.1), some (.inl s11.2), some (.inl s3.2.2), none]) (fun s11 σ12 h => ?_) (fun J9 hJ10 h => ?_) h
    · obtain ⟨p13, h⟩ := h
      refine k_iinc (lv' := [some (.inr 5), some (.inl s11.1), some (.inl s11.2), some (.inl (s3.2.2 + 1)), none]) d_Doctype_readModel_250 cI_1 rfl rfl p13 rfl ?_
      refine k_goto d_Doctype_readModel_253 rfl ?_
      exact k_sb (sb_s (sb_s (sb_s (sb_s (sb_s sb_nil))))) (hK2 (s11.1, s11.2, (s3.2.2 + 1)) _ h)
    · obtain ⟨pt54, h⟩ := h
      have hX51 : (¬ s3.2.1 = 0 ∧ (v8 = 40 ∧ ((s3.1 + 1) < ((L 128 : Nat) : Int)))) → OkI BF L (d + 1) 5 b_Doctype_readModel 5 0 82 [] [some (.inr 5), some (.inl s3.1), some (.inl s3.2.1), some (.inl s3.2.2), some (.inl v8)] σ7 (qv Q) := fun e53 => by
        have h := ipos e53 h
        refine k_aload_n d_Doctype_readModel_82 rfl ?_
        refine k_getR d_Doctype_readModel_83 fl_5_17 ob_5 rfl ?_
        refine k_dup d_Doctype_readModel_86 ?_
        refine k_getI (x := (σ7.1 2 2)) d_Doctype_readModel_87 fl_5_66 ob_2 rfl rfl ?_
        refine k_iconst d_Doctype_readModel_90 cI_1 ?_
        obtain ⟨p17, h⟩ := h
        refine k_iadd d_Doctype_readModel_91 p17 ?_
        refine k_putI d_Doctype_readModel_92 fl_5_66 ob_2 rfl ?_
        obtain ⟨p16, h⟩ := h
        refine k_iinc (lv' := [some (.inr 5), some (.inl (s3.1 + 1)), some (.inl s3.2.1), some (.inl s3.2.2), some (.inl v8)]) d_Doctype_readModel_95 cI_1 rfl rfl p16 rfl ?_
        refine k_aload_n d_Doctype_readModel_98 rfl ?_
        refine k_getR d_Doctype_readModel_99 fl_5_40 ob_5 rfl ?_
        refine k_iload_n d_Doctype_readModel_102 rfl ?_
        refine k_iconst d_Doctype_readModel_103 cI_0 ?_
        obtain ⟨p15, h⟩ := h
        refine k_bst d_Doctype_readModel_104 rb_128 p15 (by decide) ?_
        refine k_aload_n d_Doctype_readModel_105 rfl ?_
        refine k_aload_n d_Doctype_readModel_106 rfl ?_
        refine k_getI (x := (σ7.1 5 9)) d_Doctype_readModel_107 fl_5_184 ob_5 rfl rfl ?_
        refine k_iload_n d_Doctype_readModel_110 rfl ?_
        refine k_max d_Doctype_readModel_111 ml_5_198 rfl ?_
        refine k_putI d_Doctype_readModel_114 fl_5_184 ob_5 rfl ?_
        refine k_goto d_Doctype_readModel_117 rfl ?_
        exact k_sb (sb_s (sb_s (sb_s (sb_s (sb_n sb_nil))))) (hJ10 ((s3.1 + 1), s3.2.1) _ h)
      have hY52 : ¬ (¬ s3.2.1 = 0 ∧ (v8 = 40 ∧ ((s3.1 + 1) < ((L 128 : Nat) : Int)))) → OkI BF L (d + 1) 5 b_Doctype_readModel 5 0 120 [] [some (.inr 5), some (.inl s3.1), some (.inl s3.2.1), some (.inl s3.2.2), some (.inl v8)] σ7 (qv Q) := fun e53 => by
        have h := ineg e53 h
        refine k_iload_n d_Doctype_readModel_120 rfl ?_
        refine k_ifeq d_Doctype_readModel_121 rfl (fun c18 => ?_) (fun c18 => ?_)
        · have h := ipos c18 h
          refine k_iload d_Doctype_readModel_151 rfl ?_
          refine k_bipush d_Doctype_readModel_153 cB_41 ?_
          refine k_icne d_Doctype_readModel_155 rfl (fun c19 => ?_) (fun c19 => ?_)
          · have h := ineg c19 h
            refine k_iload d_Doctype_readModel_181 rfl ?_
            refine k_bipush d_Doctype_readModel_183 cB_124 ?_
            refine k_join (S := Unit) (pc' := 242) (st' := fun s22 => []) (lv' := fun s22 => [some (.inr 5), some (.inl s3.1), some (.inl s3.2.1), some (.inl s3.2.2), none]) (fun s22 σ23 h => ?_) (fun J20 hJ21 h => ?_) h
            · refine k_aload_n d_Doctype_readModel_242 rfl ?_
              refine k_getR d_Doctype_readModel_243 fl_5_17 ob_5 rfl ?_
              refine k_iconst d_Doctype_readModel_246 cI_5 ?_
              refine k_cvv [.inl 5] d_Doctype_readModel_247 ml_5_92 rfl rfl ob_2 rfl (s_Reader_fail hL (by omega)  h) (fun σ24 h => ?_)
              exact k_sb (sb_s (sb_s (sb_s (sb_s (sb_s sb_nil))))) (hJ10 (s3.1, s3.2.1) _ h)
            · have hX37 : (v8 = 124 ∨ (v8 = 44)) → OkI BF L (d + 1) 5 b_Doctype_readModel 5 0 195 [] [some (.inr 5), some (.inl s3.1), some (.inl s3.2.1), some (.inl s3.2.2), some (.inl v8)] σ7 (qv Q) := fun e39 => by
                have h := ipos e39 h
                refine k_aload_n d_Doctype_readModel_195 rfl ?_
                refine k_getR d_Doctype_readModel_196 fl_5_40 ob_5 rfl ?_
                refine k_iload_n d_Doctype_readModel_199 rfl ?_
                obtain ⟨p36, h⟩ := h
                refine k_bld (x := (σ7.2 128 (Int.toNat s3.1))) d_Doctype_readModel_200 rB_128 p36 rfl ?_
                obtain ⟨pt32, h⟩ := h
                have hX29 : (¬ (σ7.2 128 (Int.toNat s3.1)) = 0 ∧ (¬ (σ7.2 128 (Int.toNat s3.1)) = v8)) → OkI BF L (d + 1) 5 b_Doctype_readModel 5 0 242 [] [some (.inr 5), some (.inl s3.1), some (.inl s3.2.1), some (.inl s3.2.2), some (.inl v8)] σ7 (qv Q) := fun e31 => by
                  have h := ipos e31 h
                  exact k_sb (sb_s (sb_s (sb_s (sb_s (sb_n sb_nil))))) (hJ21 () _ h)
                have hY30 : ¬ (¬ (σ7.2 128 (Int.toNat s3.1)) = 0 ∧ (¬ (σ7.2 128 (Int.toNat s3.1)) = v8)) → OkI BF L (d + 1) 5 b_Doctype_readModel 5 0 215 [] [some (.inr 5), some (.inl s3.1), some (.inl s3.2.1), some (.inl s3.2.2), some (.inl v8)] σ7 (qv Q) := fun e31 => by
                  have h := ineg e31 h
                  refine k_aload_n d_Doctype_readModel_215 rfl ?_
                  refine k_getR d_Doctype_readModel_216 fl_5_17 ob_5 rfl ?_
                  refine k_dup d_Doctype_readModel_219 ?_
                  refine k_getI (x := (σ7.1 2 2)) d_Doctype_readModel_220 fl_5_66 ob_2 rfl rfl ?_
                  refine k_iconst d_Doctype_readModel_223 cI_1 ?_
                  obtain ⟨p28, h⟩ := h
                  refine k_iadd d_Doctype_readModel_224 p28 ?_
                  refine k_putI d_Doctype_readModel_225 fl_5_66 ob_2 rfl ?_
                  refine k_aload_n d_Doctype_readModel_228 rfl ?_
                  refine k_getR d_Doctype_readModel_229 fl_5_40 ob_5 rfl ?_
                  refine k_iload_n d_Doctype_readModel_232 rfl ?_
                  refine k_iload d_Doctype_readModel_233 rfl ?_
                  refine k_i2b d_Doctype_readModel_235 ?_
                  obtain ⟨p27, h⟩ := h
                  refine k_bst d_Doctype_readModel_236 rb_128 p27 (nb_in _) ?_
                  refine k_iconst d_Doctype_readModel_237 cI_1 ?_
                  refine k_istore_n (lv' := [some (.inr 5), some (.inl s3.1), some (.inl 1), some (.inl s3.2.2), some (.inl v8)]) d_Doctype_readModel_238 rfl rfl ?_
                  refine k_goto d_Doctype_readModel_239 rfl ?_
                  exact k_sb (sb_s (sb_s (sb_s (sb_s (sb_n sb_nil))))) (hJ10 (s3.1, 1) _ h)
                have pb33 := pt32
                refine k_ifeq d_Doctype_readModel_201 rfl (fun c34 => ?_) (fun c34 => ?_)
                · exact hY30 (fun z => z.1 c34)
                · have pb33 := pb33 c34
                  have p26 := pb33
                  refine k_aload_n d_Doctype_readModel_204 rfl ?_
                  refine k_getR d_Doctype_readModel_205 fl_5_40 ob_5 rfl ?_
                  refine k_iload_n d_Doctype_readModel_208 rfl ?_
                  refine k_bld (x := (σ7.2 128 (Int.toNat s3.1))) d_Doctype_readModel_209 rB_128 p26 rfl ?_
                  refine k_iload d_Doctype_readModel_210 rfl ?_
                  refine k_icne d_Doctype_readModel_212 rfl (fun c35 => ?_) (fun c35 => ?_)
                  · exact hX29 (⟨c34, c35⟩)
                  · exact hY30 (fun z => (fun z => z c35) z.2)
              have hY38 : ¬ (v8 = 124 ∨ (v8 = 44)) → OkI BF L (d + 1) 5 b_Doctype_readModel 5 0 242 [] [some (.inr 5), some (.inl s3.1), some (.inl s3.2.1), some (.inl s3.2.2), some (.inl v8)] σ7 (qv Q) := fun e39 => by
                have h := ineg e39 h
                exact k_sb (sb_s (sb_s (sb_s (sb_s (sb_n sb_nil))))) (hJ21 () _ h)
              refine k_iceq d_Doctype_readModel_185 rfl (fun c40 => ?_) (fun c40 => ?_)
              · exact hX37 (Or.inl c40)
              · refine k_iload d_Doctype_readModel_188 rfl ?_
                refine k_bipush d_Doctype_readModel_190 cB_44 ?_
                refine k_icne d_Doctype_readModel_192 rfl (fun c41 => ?_) (fun c41 => ?_)
                · exact hY38 (fun z => z.elim c40 (c41))
                · exact hX37 (Or.inr (c41))
          · have h := ipos c19 h
            refine k_aload_n d_Doctype_readModel_158 rfl ?_
            refine k_getR d_Doctype_readModel_159 fl_5_17 ob_5 rfl ?_
            refine k_dup d_Doctype_readModel_162 ?_
            refine k_getI (x := (σ7.1 2 2)) d_Doctype_readModel_163 fl_5_66 ob_2 rfl rfl ?_
            refine k_iconst d_Doctype_readModel_166 cI_1 ?_
            obtain ⟨p45, h⟩ := h
            refine k_iadd d_Doctype_readModel_167 p45 ?_
            refine k_putI d_Doctype_readModel_168 fl_5_66 ob_2 rfl ?_
            refine k_aload_n d_Doctype_readModel_171 rfl ?_
            refine k_cvv [] d_Doctype_readModel_172 ml_5_201 rfl rfl ob_5 rfl (s_Doctype_skipHowOften hL (by omega)  h) (fun σ42 h => ?_)
            obtain ⟨p44, h⟩ := h
            refine k_iinc (lv' := [some (.inr 5), some (.inl (s3.1 + (-1))), some (.inl s3.2.1), some (.inl s3.2.2), some (.inl v8)]) d_Doctype_readModel_175 cI_m1 rfl rfl p44 rfl ?_
            refine k_goto d_Doctype_readModel_178 rfl ?_
            exact k_sb (sb_s (sb_s (sb_s (sb_s (sb_n sb_nil))))) (hJ10 ((s3.1 + (-1)), s3.2.1) _ h)
        · have h := ineg c18 h
          refine k_aload_n d_Doctype_readModel_124 rfl ?_
          refine k_getR d_Doctype_readModel_125 fl_5_17 ob_5 rfl ?_
          refine k_cvi [] d_Doctype_readModel_128 ml_5_62 rfl rfl ob_2 rfl (s_Reader_readName hL (by omega)  h) (fun v47 σ46 h => ?_)
          refine k_pop d_Doctype_readModel_131 ?_
          refine k_aload_n d_Doctype_readModel_132 rfl ?_
          refine k_cvv [] d_Doctype_readModel_133 ml_5_201 rfl rfl ob_5 rfl (s_Doctype_skipHowOften hL (by omega)  h) (fun σ48 h => ?_)
          refine k_aload_n d_Doctype_readModel_136 rfl ?_
          refine k_dup d_Doctype_readModel_137 ?_
          refine k_getI (x := (σ48.1 5 8)) d_Doctype_readModel_138 fl_5_181 ob_5 rfl rfl ?_
          refine k_iconst d_Doctype_readModel_141 cI_1 ?_
          obtain ⟨p50, h⟩ := h
          refine k_iadd d_Doctype_readModel_142 p50 ?_
          refine k_putI d_Doctype_readModel_143 fl_5_181 ob_5 rfl ?_
          refine k_iconst d_Doctype_readModel_146 cI_0 ?_
          refine k_istore_n (lv' := [some (.inr 5), some (.inl s3.1), some (.inl 0), some (.inl s3.2.2), some (.inl v8)]) d_Doctype_readModel_147 rfl rfl ?_
          refine k_goto d_Doctype_readModel_148 rfl ?_
          exact k_sb (sb_s (sb_s (sb_s (sb_s (sb_n sb_nil))))) (hJ10 (s3.1, 0) _ h)
      have pb55 := pt54
      refine k_ifeq d_Doctype_readModel_61 rfl (fun c56 => ?_) (fun c56 => ?_)
      · exact hY52 (fun z => z.1 c56)
      · have pb55 := pb55 c56
        have pa57 := pb55
        refine k_iload d_Doctype_readModel_64 rfl ?_
        refine k_bipush d_Doctype_readModel_66 cB_40 ?_
        refine k_icne d_Doctype_readModel_68 rfl (fun c58 => ?_) (fun c58 => ?_)
        · exact hY52 (fun z => (fun z => c58 z.1) z.2)
        · have pa57 := pa57 c58
          have p14 := pa57
          refine k_iload_n d_Doctype_readModel_71 rfl ?_
          refine k_iconst d_Doctype_readModel_72 cI_1 ?_
          refine k_iadd d_Doctype_readModel_73 p14 ?_
          refine k_aload_n d_Doctype_readModel_74 rfl ?_
          refine k_getR d_Doctype_readModel_75 fl_5_40 ob_5 rfl ?_
          refine k_len d_Doctype_readModel_78 rB_128.1 (hL _) ?_
          refine k_icge d_Doctype_readModel_79 rfl (fun c59 => ?_) (fun c59 => ?_)
          · exact hY52 (fun z => (fun z => (c59) z.2) z.2)
          · exact hX51 (⟨c56, ⟨c58, c59⟩⟩)
  have hY61 : ¬ (s3.2.2 < 1000000 ∧ (0 < s3.1 ∧ ((σ4.1 2 4) = 0))) → OkI BF L (d + 1) 5 b_Doctype_readModel 5 0 256 [] [some (.inr 5), some (.inl s3.1), some (.inl s3.2.1), some (.inl s3.2.2), none] σ4 (qv Q) := fun e62 => by
    have h := ineg e62 h
    exact k_ret d_Doctype_readModel_256 h
  refine k_icge d_Doctype_readModel_26 rfl (fun c63 => ?_) (fun c63 => ?_)
  · exact hY61 (fun z => c63 z.1)
  · refine k_iload_n d_Doctype_readModel_29 rfl ?_
    refine k_ifle d_Doctype_readModel_30 rfl (fun c64 => ?_) (fun c64 => ?_)
    · exact hY61 (fun z => (fun z => c64 z.1) z.2)
    · refine k_aload_n d_Doctype_readModel_33 rfl ?_
      refine k_getR d_Doctype_readModel_34 fl_5_17 ob_5 rfl ?_
      refine k_getI (x := (σ4.1 2 4)) d_Doctype_readModel_37 fl_5_140 ob_2 rfl rfl ?_
      refine k_ifne d_Doctype_readModel_40 rfl (fun c65 => ?_) (fun c65 => ?_)
      · exact hY61 (fun z => (fun z => (c65) z.2) z.2)
      · exact hX60 (⟨c63, ⟨c64, c65⟩⟩)
/-- Store_intern -/
def w_Store_intern (L : Nat → Nat) (a1 : Int) (a2 : Int) (Q : Int → IS → Prop) (σ : IS) : Prop := w_Store_find L a1 a2 (fun v2 σ1 => if v2 = (-1) then if (σ1.1 1 14) < ((L 102 : Nat) : Int) then inL L 102 (σ1.1 1 14) ∧ inL L 103 (σ1.1 1 14) ∧ inL L 104 (σ1.1 1 14) ∧ inR (((L 106 : Nat) : Int) - 1) ∧ inL L 106 (ia (σ1.1 1 13) (((L 106 : Nat) : Int) - 1)) ∧ inL L 105 (σ1.1 1 14) ∧ inL L 106 (ia (σ1.1 1 13) (((L 106 : Nat) : Int) - 1)) ∧ inR ((σ1.1 1 14) + 1) ∧ inR (((σ1.1 1 14) + 1) - 1) ∧ Q (((σ1.1 1 14) + 1) - 1) (pf (pr (pr (pr (pr (pr σ1 102 (Int.toNat (σ1.1 1 14)) a1) 103 (Int.toNat (σ1.1 1 14)) a2) 104 (Int.toNat (σ1.1 1 14)) (σ1.1 1 13)) 105 (Int.toNat (σ1.1 1 14)) (σ1.2 106 (Int.toNat (ia (σ1.1 1 13) (((L 106 : Nat) : Int) - 1))))) 106 (Int.toNat (ia (σ1.1 1 13) (((L 106 : Nat) : Int) - 1))) (σ1.1 1 14)) 1 14 ((σ1.1 1 14) + 1)) else Q 0 σ1 else Q v2 σ1) σ
set_option maxHeartbeats 4000000 in
set_option maxRecDepth 20000 in
theorem s_Store_intern {L : Nat → Nat} (hL : ∀ r, L r < 2147483648) {d : Nat} (hd : 1 ≤ d) {B : MB} {a1 : Int} {a2 : Int} {Q : Int → IS → Prop} {σ : IS} (hB : stB B) (h : w_Store_intern L a1 a2 Q σ) : OkI B L d 1 b_Store_intern 5 1 0 [] [some (.inr 1), some (.inl a1), some (.inl a2)] σ (qi Q) := by
  unfold w_Store_intern at h
  obtain ⟨d, rfl⟩ : ∃ e, d = e + 1 := ⟨d - 1, by omega⟩
  refine k_sb (lv' := [some (.inr 1), some (.inl a1), some (.inl a2), none, none]) (sb_s (sb_s (sb_s (sb_e (sb_e sb_nil))))) ?_
  refine k_aload_n d_Store_intern_0 rfl ?_
  refine k_iload_n d_Store_intern_1 rfl ?_
  refine k_iload_n d_Store_intern_2 rfl ?_
  refine k_cvi [.inl a1, .inl a2] d_Store_intern_3 ml_1_156 rfl rfl (stB_ob hB) rfl (s_Store_find hL (by omega) hB h) (fun v2 σ1 h => ?_)
  refine k_istore_n (lv' := [some (.inr 1), some (.inl a1), some (.inl a2), some (.inl v2), none]) d_Store_intern_6 rfl rfl ?_
  refine k_iload_n d_Store_intern_7 rfl ?_
  refine k_iconst d_Store_intern_8 cI_m1 ?_
  refine k_iceq d_Store_intern_9 rfl (fun c3 => ?_) (fun c3 => ?_)
  · have h := ipos c3 h
    refine k_aload_n d_Store_intern_14 rfl ?_
    refine k_getI (x := (σ1.1 1 14)) d_Store_intern_15 fl_1_92 (stB_ob hB) rfl rfl ?_
    refine k_aload_n d_Store_intern_18 rfl ?_
    refine k_getR d_Store_intern_19 fl_1_26 (stB_ob hB) rfl ?_
    refine k_len d_Store_intern_22 (stB_102 hB).1 (hL _) ?_
    refine k_iclt d_Store_intern_23 rfl (fun c4 => ?_) (fun c4 => ?_)
    · have h := ipos c4 h
      refine k_aload_n d_Store_intern_28 rfl ?_
      refine k_getR d_Store_intern_29 fl_1_26 (stB_ob hB) rfl ?_
      refine k_aload_n d_Store_intern_32 rfl ?_
      refine k_getI (x := (σ1.1 1 14)) d_Store_intern_33 fl_1_92 (stB_ob hB) rfl rfl ?_
      refine k_iload_n d_Store_intern_36 rfl ?_
      obtain ⟨p13, h⟩ := h
      refine k_ist d_Store_intern_37 (stB_102 hB) p13 ?_
      refine k_aload_n d_Store_intern_38 rfl ?_
      refine k_getR d_Store_intern_39 fl_1_29 (stB_ob hB) rfl ?_
      refine k_aload_n d_Store_intern_42 rfl ?_
      refine k_getI (x := (σ1.1 1 14)) d_Store_intern_43 fl_1_92 (stB_ob hB) rfl rfl ?_
      refine k_iload_n d_Store_intern_46 rfl ?_
      obtain ⟨p12, h⟩ := h
      refine k_ist d_Store_intern_47 (stB_103 hB) p12 ?_
      refine k_aload_n d_Store_intern_48 rfl ?_
      refine k_getR d_Store_intern_49 fl_1_32 (stB_ob hB) rfl ?_
      refine k_aload_n d_Store_intern_52 rfl ?_
      refine k_getI (x := (σ1.1 1 14)) d_Store_intern_53 fl_1_92 (stB_ob hB) rfl rfl ?_
      refine k_aload_n d_Store_intern_56 rfl ?_
      refine k_getI (x := (σ1.1 1 13)) d_Store_intern_57 fl_1_153 (stB_ob hB) rfl rfl ?_
      obtain ⟨p11, h⟩ := h
      refine k_ist d_Store_intern_60 (stB_104 hB) p11 ?_
      refine k_aload_n d_Store_intern_61 rfl ?_
      refine k_getI (x := (σ1.1 1 13)) d_Store_intern_62 fl_1_153 (stB_ob hB) rfl rfl ?_
      refine k_aload_n d_Store_intern_65 rfl ?_
      refine k_getR d_Store_intern_66 fl_1_41 (stB_ob hB) rfl ?_
      refine k_len d_Store_intern_69 (stB_106 hB).1 (hL _) ?_
      refine k_iconst d_Store_intern_70 cI_1 ?_
      obtain ⟨p10, h⟩ := h
      refine k_isub d_Store_intern_71 p10 ?_
      refine k_iand d_Store_intern_72 ?_
      refine k_istore (lv' := [some (.inr 1), some (.inl a1), some (.inl a2), some (.inl v2), some (.inl (ia (σ1.1 1 13) (((L 106 : Nat) : Int) - 1)))]) d_Store_intern_73 rfl rfl ?_
      refine k_aload_n d_Store_intern_75 rfl ?_
      refine k_getR d_Store_intern_76 fl_1_35 (stB_ob hB) rfl ?_
      refine k_aload_n d_Store_intern_79 rfl ?_
      refine k_getI (x := (σ1.1 1 14)) d_Store_intern_80 fl_1_92 (stB_ob hB) rfl rfl ?_
      refine k_aload_n d_Store_intern_83 rfl ?_
      refine k_getR d_Store_intern_84 fl_1_41 (stB_ob hB) rfl ?_
      refine k_iload d_Store_intern_87 rfl ?_
      obtain ⟨p9, h⟩ := h
      refine k_ild (x := (σ1.2 106 (Int.toNat (ia (σ1.1 1 13) (((L 106 : Nat) : Int) - 1))))) d_Store_intern_89 (stB_106 hB) p9 rfl ?_
      obtain ⟨p8, h⟩ := h
      refine k_ist d_Store_intern_90 (stB_105 hB) p8 ?_
      refine k_aload_n d_Store_intern_91 rfl ?_
      refine k_getR d_Store_intern_92 fl_1_41 (stB_ob hB) rfl ?_
      refine k_iload d_Store_intern_95 rfl ?_
      refine k_aload_n d_Store_intern_97 rfl ?_
      refine k_getI (x := (σ1.1 1 14)) d_Store_intern_98 fl_1_92 (stB_ob hB) rfl rfl ?_
      obtain ⟨p7, h⟩ := h
      refine k_ist d_Store_intern_101 (stB_106 hB) p7 ?_
      refine k_aload_n d_Store_intern_102 rfl ?_
      refine k_dup d_Store_intern_103 ?_
      refine k_getI (x := (σ1.1 1 14)) d_Store_intern_104 fl_1_92 (stB_ob hB) rfl rfl ?_
      refine k_iconst d_Store_intern_107 cI_1 ?_
      obtain ⟨p6, h⟩ := h
      refine k_iadd d_Store_intern_108 p6 ?_
      refine k_putI d_Store_intern_109 fl_1_92 (stB_ob hB) rfl ?_
      refine k_aload_n d_Store_intern_112 rfl ?_
      refine k_getI (x := ((σ1.1 1 14) + 1)) d_Store_intern_113 fl_1_92 (stB_ob hB) rfl rfl ?_
      refine k_iconst d_Store_intern_116 cI_1 ?_
      obtain ⟨p5, h⟩ := h
      refine k_isub d_Store_intern_117 p5 ?_
      exact k_iret d_Store_intern_118 (Or.inl rfl) h
    · have h := ineg c4 h
      refine k_iconst d_Store_intern_26 cI_0 ?_
      exact k_iret d_Store_intern_27 (Or.inl rfl) h
  · have h := ineg c3 h
    refine k_iload_n d_Store_intern_12 rfl ?_
    exact k_iret d_Store_intern_13 (Or.inl rfl) h
theorem d_Declared_addElement_0 : decode b_Declared_addElement 0 = .ok (.aload_n 0, 1) := by decide +kernel
theorem d_Declared_addElement_1 : decode b_Declared_addElement 1 = .ok (.getfield 69, 3) := by decide +kernel
theorem d_Declared_addElement_4 : decode b_Declared_addElement 4 = .ok (.aload_n 0, 1) := by decide +kernel
theorem d_Declared_addElement_5 : decode b_Declared_addElement 5 = .ok (.getfield 15, 3) := by decide +kernel
theorem d_Declared_addElement_8 : decode b_Declared_addElement 8 = .ok (.arraylength, 1) := by decide +kernel
theorem d_Declared_addElement_9 : decode b_Declared_addElement 9 = .ok (.if_icmp .lt 4, 3) := by decide +kernel
theorem d_Declared_addElement_12 : decode b_Declared_addElement 12 = .ok (.return_, 1) := by decide +kernel
theorem d_Declared_addElement_13 : decode b_Declared_addElement 13 = .ok (.aload_n 0, 1) := by decide +kernel
theorem d_Declared_addElement_14 : decode b_Declared_addElement 14 = .ok (.getfield 15, 3) := by decide +kernel
theorem d_Declared_addElement_17 : decode b_Declared_addElement 17 = .ok (.aload_n 0, 1) := by decide +kernel
theorem d_Declared_addElement_18 : decode b_Declared_addElement 18 = .ok (.getfield 69, 3) := by decide +kernel
theorem d_Declared_addElement_21 : decode b_Declared_addElement 21 = .ok (.iload_n 1, 1) := by decide +kernel
theorem d_Declared_addElement_22 : decode b_Declared_addElement 22 = .ok (.iastore, 1) := by decide +kernel
theorem d_Declared_addElement_23 : decode b_Declared_addElement 23 = .ok (.aload_n 0, 1) := by decide +kernel
theorem d_Declared_addElement_24 : decode b_Declared_addElement 24 = .ok (.getfield 21, 3) := by decide +kernel
theorem d_Declared_addElement_27 : decode b_Declared_addElement 27 = .ok (.aload_n 0, 1) := by decide +kernel
theorem d_Declared_addElement_28 : decode b_Declared_addElement 28 = .ok (.getfield 69, 3) := by decide +kernel
theorem d_Declared_addElement_31 : decode b_Declared_addElement 31 = .ok (.iload_n 2, 1) := by decide +kernel
theorem d_Declared_addElement_32 : decode b_Declared_addElement 32 = .ok (.iastore, 1) := by decide +kernel
theorem d_Declared_addElement_33 : decode b_Declared_addElement 33 = .ok (.aload_n 0, 1) := by decide +kernel
theorem d_Declared_addElement_34 : decode b_Declared_addElement 34 = .ok (.getfield 24, 3) := by decide +kernel
theorem d_Declared_addElement_37 : decode b_Declared_addElement 37 = .ok (.aload_n 0, 1) := by decide +kernel
theorem d_Declared_addElement_38 : decode b_Declared_addElement 38 = .ok (.getfield 69, 3) := by decide +kernel
theorem d_Declared_addElement_41 : decode b_Declared_addElement 41 = .ok (.iload_n 3, 1) := by decide +kernel
theorem d_Declared_addElement_42 : decode b_Declared_addElement 42 = .ok (.iastore, 1) := by decide +kernel
theorem d_Declared_addElement_43 : decode b_Declared_addElement 43 = .ok (.aload_n 0, 1) := by decide +kernel
theorem d_Declared_addElement_44 : decode b_Declared_addElement 44 = .ok (.dup, 1) := by decide +kernel
theorem d_Declared_addElement_45 : decode b_Declared_addElement 45 = .ok (.getfield 69, 3) := by decide +kernel
theorem d_Declared_addElement_48 : decode b_Declared_addElement 48 = .ok (.iconst 1, 1) := by decide +kernel
theorem d_Declared_addElement_49 : decode b_Declared_addElement 49 = .ok (.iadd, 1) := by decide +kernel
theorem d_Declared_addElement_50 : decode b_Declared_addElement 50 = .ok (.putfield 69, 3) := by decide +kernel
theorem d_Declared_addElement_53 : decode b_Declared_addElement 53 = .ok (.aload_n 0, 1) := by decide +kernel
theorem d_Declared_addElement_54 : decode b_Declared_addElement 54 = .ok (.getfield 54, 3) := by decide +kernel
theorem d_Declared_addElement_57 : decode b_Declared_addElement 57 = .ok (.iload_n 1, 1) := by decide +kernel
theorem d_Declared_addElement_58 : decode b_Declared_addElement 58 = .ok (.iaload, 1) := by decide +kernel
theorem d_Declared_addElement_59 : decode b_Declared_addElement 59 = .ok (.ifCond .ne 13, 3) := by decide +kernel
theorem d_Declared_addElement_62 : decode b_Declared_addElement 62 = .ok (.aload_n 0, 1) := by decide +kernel
theorem d_Declared_addElement_63 : decode b_Declared_addElement 63 = .ok (.getfield 54, 3) := by decide +kernel
theorem d_Declared_addElement_66 : decode b_Declared_addElement 66 = .ok (.iload_n 1, 1) := by decide +kernel
theorem d_Declared_addElement_67 : decode b_Declared_addElement 67 = .ok (.aload_n 0, 1) := by decide +kernel
theorem d_Declared_addElement_68 : decode b_Declared_addElement 68 = .ok (.getfield 69, 3) := by decide +kernel
theorem d_Declared_addElement_71 : decode b_Declared_addElement 71 = .ok (.iastore, 1) := by decide +kernel
theorem d_Declared_addElement_72 : decode b_Declared_addElement 72 = .ok (.return_, 1) := by decide +kernel
/-- Declared_addElement -/
def w_Declared_addElement (L : Nat → Nat) (a1 : Int) (a2 : Int) (a3 : Int) (Q : IS → Prop) (σ : IS) : Prop := if (σ.1 4 3) < ((L 147 : Nat) : Int) then inL L 147 (σ.1 4 3) ∧ inL L 116 (σ.1 4 3) ∧ inL L 117 (σ.1 4 3) ∧ inR ((σ.1 4 3) + 1) ∧ inL L 125 a1 ∧ WJ (fun (s4 : Unit) (σ5 : IS) => Q σ5) (fun J2 => if (σ.2 125 (Int.toNat a1)) = 0 then inL L 125 a1 ∧ J2 () (pr (pf (pr (pr (pr σ 147 (Int.toNat (σ.1 4 3)) a1) 116 (Int.toNat (σ.1 4 3)) a2) 117 (Int.toNat (σ.1 4 3)) a3) 4 3 ((σ.1 4 3) + 1)) 125 (Int.toNat a1) ((σ.1 4 3) + 1)) else J2 () (pf (pr (pr (pr σ 147 (Int.toNat (σ.1 4 3)) a1) 116 (Int.toNat (σ.1 4 3)) a2) 117 (Int.toNat (σ.1 4 3)) a3) 4 3 ((σ.1 4 3) + 1))) else Q σ
set_option maxHeartbeats 4000000 in
set_option maxRecDepth 20000 in
theorem s_Declared_addElement {L : Nat → Nat} (hL : ∀ r, L r < 2147483648) {d : Nat} (hd : 0 ≤ d) {a1 : Int} {a2 : Int} {a3 : Int} {Q : IS → Prop} {σ : IS}  (h : w_Declared_addElement L a1 a2 a3 Q σ) : OkI BF L d 4 b_Declared_addElement 4 0 0 [] [some (.inr 4), some (.inl a1), some (.inl a2), some (.inl a3)] σ (qv Q) := by
  unfold w_Declared_addElement at h
  refine k_sb (lv' := [some (.inr 4), some (.inl a1), some (.inl a2), some (.inl a3)]) (sb_s (sb_s (sb_s (sb_s sb_nil)))) ?_
  refine k_aload_n d_Declared_addElement_0 rfl ?_
  refine k_getI (x := (σ.1 4 3)) d_Declared_addElement_1 fl_4_69 ob_4 rfl rfl ?_
  refine k_aload_n d_Declared_addElement_4 rfl ?_
  refine k_getR d_Declared_addElement_5 fl_4_15 ob_4 rfl ?_
  refine k_len d_Declared_addElement_8 rI_147.1 (hL _) ?_
  refine k_iclt d_Declared_addElement_9 rfl (fun c1 => ?_) (fun c1 => ?_)
  · have h := ipos c1 h
    refine k_aload_n d_Declared_addElement_13 rfl ?_
    refine k_getR d_Declared_addElement_14 fl_4_15 ob_4 rfl ?_
    refine k_aload_n d_Declared_addElement_17 rfl ?_
    refine k_getI (x := (σ.1 4 3)) d_Declared_addElement_18 fl_4_69 ob_4 rfl rfl ?_
    refine k_iload_n d_Declared_addElement_21 rfl ?_
    obtain ⟨p12, h⟩ := h
    refine k_ist d_Declared_addElement_22 rI_147 p12 ?_
    refine k_aload_n d_Declared_addElement_23 rfl ?_
    refine k_getR d_Declared_addElement_24 fl_4_21 ob_4 rfl ?_
    refine k_aload_n d_Declared_addElement_27 rfl ?_
    refine k_getI (x := (σ.1 4 3)) d_Declared_addElement_28 fl_4_69 ob_4 rfl rfl ?_
    refine k_iload_n d_Declared_addElement_31 rfl ?_
    obtain ⟨p11, h⟩ := h
    refine k_ist d_Declared_addElement_32 rI_116 p11 ?_
    refine k_aload_n d_Declared_addElement_33 rfl ?_
    refine k_getR d_Declared_addElement_34 fl_4_24 ob_4 rfl ?_
    refine k_aload_n d_Declared_addElement_37 rfl ?_
    refine k_getI (x := (σ.1 4 3)) d_Declared_addElement_38 fl_4_69 ob_4 rfl rfl ?_
    refine k_iload_n d_Declared_addElement_41 rfl ?_
    obtain ⟨p10, h⟩ := h
    refine k_ist d_Declared_addElement_42 rI_117 p10 ?_
    refine k_aload_n d_Declared_addElement_43 rfl ?_
    refine k_dup d_Declared_addElement_44 ?_
    refine k_getI (x := (σ.1 4 3)) d_Declared_addElement_45 fl_4_69 ob_4 rfl rfl ?_
    refine k_iconst d_Declared_addElement_48 cI_1 ?_
    obtain ⟨p9, h⟩ := h
    refine k_iadd d_Declared_addElement_49 p9 ?_
    refine k_putI d_Declared_addElement_50 fl_4_69 ob_4 rfl ?_
    refine k_aload_n d_Declared_addElement_53 rfl ?_
    refine k_getR d_Declared_addElement_54 fl_4_54 ob_4 rfl ?_
    refine k_iload_n d_Declared_addElement_57 rfl ?_
    obtain ⟨p8, h⟩ := h
    refine k_ild (x := (σ.2 125 (Int.toNat a1))) d_Declared_addElement_58 rI_125 p8 rfl ?_
    refine k_join (S := Unit) (pc' := 72) (st' := fun s4 => []) (lv' := fun s4 => [none, none, none, none]) (fun s4 σ5 h => ?_) (fun J2 hJ3 h => ?_) h
    · exact k_ret d_Declared_addElement_72 h
    · refine k_ifne d_Declared_addElement_59 rfl (fun c6 => ?_) (fun c6 => ?_)
      · have h := ineg c6 h
        exact k_sb (sb_n (sb_n (sb_n (sb_n sb_nil)))) (hJ3 () _ h)
      · have h := ipos c6 h
        refine k_aload_n d_Declared_addElement_62 rfl ?_
        refine k_getR d_Declared_addElement_63 fl_4_54 ob_4 rfl ?_
        refine k_iload_n d_Declared_addElement_66 rfl ?_
        refine k_aload_n d_Declared_addElement_67 rfl ?_
        refine k_getI (x := ((σ.1 4 3) + 1)) d_Declared_addElement_68 fl_4_69 ob_4 rfl rfl ?_
        obtain ⟨p7, h⟩ := h
        refine k_ist d_Declared_addElement_71 rI_125 p7 ?_
        exact k_sb (sb_n (sb_n (sb_n (sb_n sb_nil)))) (hJ3 () _ h)
  · have h := ineg c1 h
    exact k_ret d_Declared_addElement_12 h
