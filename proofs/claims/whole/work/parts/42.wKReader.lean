theorem d_KReader_instruction_0 : decode b_KReader_instruction 0 = .ok (.aload_n 0, 1) := by decide +kernel
theorem d_KReader_instruction_1 : decode b_KReader_instruction 1 = .ok (.aload_n 0, 1) := by decide +kernel
theorem d_KReader_instruction_2 : decode b_KReader_instruction 2 = .ok (.getfield 379, 3) := by decide +kernel
theorem d_KReader_instruction_5 : decode b_KReader_instruction 5 = .ok (.iconst 2, 1) := by decide +kernel
theorem d_KReader_instruction_6 : decode b_KReader_instruction 6 = .ok (.iadd, 1) := by decide +kernel
theorem d_KReader_instruction_7 : decode b_KReader_instruction 7 = .ok (.invokevirtual 341, 3) := by decide +kernel
theorem d_KReader_instruction_10 : decode b_KReader_instruction 10 = .ok (.istore_n 2, 1) := by decide +kernel
theorem d_KReader_instruction_11 : decode b_KReader_instruction 11 = .ok (.iload_n 2, 1) := by decide +kernel
theorem d_KReader_instruction_12 : decode b_KReader_instruction 12 = .ok (.ifCond .lt 22, 3) := by decide +kernel
theorem d_KReader_instruction_15 : decode b_KReader_instruction 15 = .ok (.aload_n 0, 1) := by decide +kernel
theorem d_KReader_instruction_16 : decode b_KReader_instruction 16 = .ok (.aload_n 0, 1) := by decide +kernel
theorem d_KReader_instruction_17 : decode b_KReader_instruction 17 = .ok (.getfield 379, 3) := by decide +kernel
theorem d_KReader_instruction_20 : decode b_KReader_instruction 20 = .ok (.iconst 2, 1) := by decide +kernel
theorem d_KReader_instruction_21 : decode b_KReader_instruction 21 = .ok (.iadd, 1) := by decide +kernel
theorem d_KReader_instruction_22 : decode b_KReader_instruction 22 = .ok (.iload_n 2, 1) := by decide +kernel
theorem d_KReader_instruction_23 : decode b_KReader_instruction 23 = .ok (.ldc_w 468, 3) := by decide +kernel
theorem d_KReader_instruction_26 : decode b_KReader_instruction 26 = .ok (.invokevirtual 457, 3) := by decide +kernel
theorem d_KReader_instruction_29 : decode b_KReader_instruction 29 = .ok (.ifCond .eq 5, 3) := by decide +kernel
theorem d_KReader_instruction_32 : decode b_KReader_instruction 32 = .ok (.iconst (-1), 1) := by decide +kernel
theorem d_KReader_instruction_33 : decode b_KReader_instruction 33 = .ok (.istore_n 2, 1) := by decide +kernel
theorem d_KReader_instruction_34 : decode b_KReader_instruction 34 = .ok (.iload_n 2, 1) := by decide +kernel
theorem d_KReader_instruction_35 : decode b_KReader_instruction 35 = .ok (.istore_n 3, 1) := by decide +kernel
theorem d_KReader_instruction_36 : decode b_KReader_instruction 36 = .ok (.iload_n 2, 1) := by decide +kernel
theorem d_KReader_instruction_37 : decode b_KReader_instruction 37 = .ok (.ifCond .ge 7, 3) := by decide +kernel
theorem d_KReader_instruction_40 : decode b_KReader_instruction 40 = .ok (.iconst (-1), 1) := by decide +kernel
theorem d_KReader_instruction_41 : decode b_KReader_instruction 41 = .ok (.goto 11, 3) := by decide +kernel
theorem d_KReader_instruction_44 : decode b_KReader_instruction 44 = .ok (.aload_n 0, 1) := by decide +kernel
theorem d_KReader_instruction_45 : decode b_KReader_instruction 45 = .ok (.iload_n 2, 1) := by decide +kernel
theorem d_KReader_instruction_46 : decode b_KReader_instruction 46 = .ok (.ldc_w 451, 3) := by decide +kernel
theorem d_KReader_instruction_49 : decode b_KReader_instruction 49 = .ok (.invokevirtual 329, 3) := by decide +kernel
theorem d_KReader_instruction_52 : decode b_KReader_instruction 52 = .ok (.istore 4, 2) := by decide +kernel
theorem d_KReader_instruction_54 : decode b_KReader_instruction 54 = .ok (.iload_n 2, 1) := by decide +kernel
theorem d_KReader_instruction_55 : decode b_KReader_instruction 55 = .ok (.ifCond .lt 60, 3) := by decide +kernel
theorem d_KReader_instruction_58 : decode b_KReader_instruction 58 = .ok (.iload 4, 2) := by decide +kernel
theorem d_KReader_instruction_60 : decode b_KReader_instruction 60 = .ok (.ifCond .ge 55, 3) := by decide +kernel
theorem d_KReader_instruction_63 : decode b_KReader_instruction 63 = .ok (.aload_n 0, 1) := by decide +kernel
theorem d_KReader_instruction_64 : decode b_KReader_instruction 64 = .ok (.iload_n 2, 1) := by decide +kernel
theorem d_KReader_instruction_65 : decode b_KReader_instruction 65 = .ok (.invokevirtual 333, 3) := by decide +kernel
theorem d_KReader_instruction_68 : decode b_KReader_instruction 68 = .ok (.istore_n 3, 1) := by decide +kernel
theorem d_KReader_instruction_69 : decode b_KReader_instruction 69 = .ok (.iload_n 3, 1) := by decide +kernel
theorem d_KReader_instruction_70 : decode b_KReader_instruction 70 = .ok (.istore 4, 2) := by decide +kernel
theorem d_KReader_instruction_72 : decode b_KReader_instruction 72 = .ok (.iload 4, 2) := by decide +kernel
theorem d_KReader_instruction_74 : decode b_KReader_instruction 74 = .ok (.ifCond .lt 30, 3) := by decide +kernel
theorem d_KReader_instruction_77 : decode b_KReader_instruction 77 = .ok (.iload 4, 2) := by decide +kernel
theorem d_KReader_instruction_79 : decode b_KReader_instruction 79 = .ok (.aload_n 0, 1) := by decide +kernel
theorem d_KReader_instruction_80 : decode b_KReader_instruction 80 = .ok (.getfield 273, 3) := by decide +kernel
theorem d_KReader_instruction_83 : decode b_KReader_instruction 83 = .ok (.if_icmp .ge 21, 3) := by decide +kernel
theorem d_KReader_instruction_86 : decode b_KReader_instruction 86 = .ok (.aload_n 0, 1) := by decide +kernel
theorem d_KReader_instruction_87 : decode b_KReader_instruction 87 = .ok (.iload 4, 2) := by decide +kernel
theorem d_KReader_instruction_89 : decode b_KReader_instruction 89 = .ok (.ldc_w 451, 3) := by decide +kernel
theorem d_KReader_instruction_92 : decode b_KReader_instruction 92 = .ok (.invokevirtual 290, 3) := by decide +kernel
theorem d_KReader_instruction_95 : decode b_KReader_instruction 95 = .ok (.ifCond .ne 9, 3) := by decide +kernel
theorem d_KReader_instruction_98 : decode b_KReader_instruction 98 = .ok (.iinc 4 1, 3) := by decide +kernel
theorem d_KReader_instruction_101 : decode b_KReader_instruction 101 = .ok (.goto (-29), 3) := by decide +kernel
theorem d_KReader_instruction_104 : decode b_KReader_instruction 104 = .ok (.aload_n 0, 1) := by decide +kernel
theorem d_KReader_instruction_105 : decode b_KReader_instruction 105 = .ok (.iload 4, 2) := by decide +kernel
theorem d_KReader_instruction_107 : decode b_KReader_instruction 107 = .ok (.ldc_w 451, 3) := by decide +kernel
theorem d_KReader_instruction_110 : decode b_KReader_instruction 110 = .ok (.invokevirtual 329, 3) := by decide +kernel
theorem d_KReader_instruction_113 : decode b_KReader_instruction 113 = .ok (.istore 4, 2) := by decide +kernel
theorem d_KReader_instruction_115 : decode b_KReader_instruction 115 = .ok (.aload_n 0, 1) := by decide +kernel
theorem d_KReader_instruction_116 : decode b_KReader_instruction 116 = .ok (.iload 4, 2) := by decide +kernel
theorem d_KReader_instruction_118 : decode b_KReader_instruction 118 = .ok (.invokevirtual 437, 3) := by decide +kernel
theorem d_KReader_instruction_121 : decode b_KReader_instruction 121 = .ok (.ifCond .ne 4, 3) := by decide +kernel
theorem d_KReader_instruction_124 : decode b_KReader_instruction 124 = .ok (.return_, 1) := by decide +kernel
theorem d_KReader_instruction_125 : decode b_KReader_instruction 125 = .ok (.aload_n 0, 1) := by decide +kernel
theorem d_KReader_instruction_126 : decode b_KReader_instruction 126 = .ok (.aload_n 0, 1) := by decide +kernel
theorem d_KReader_instruction_127 : decode b_KReader_instruction 127 = .ok (.getfield 379, 3) := by decide +kernel
theorem d_KReader_instruction_130 : decode b_KReader_instruction 130 = .ok (.iconst 2, 1) := by decide +kernel
theorem d_KReader_instruction_131 : decode b_KReader_instruction 131 = .ok (.iadd, 1) := by decide +kernel
theorem d_KReader_instruction_132 : decode b_KReader_instruction 132 = .ok (.iload_n 2, 1) := by decide +kernel
theorem d_KReader_instruction_133 : decode b_KReader_instruction 133 = .ok (.aload_n 0, 1) := by decide +kernel
theorem d_KReader_instruction_134 : decode b_KReader_instruction 134 = .ok (.getfield 379, 3) := by decide +kernel
theorem d_KReader_instruction_137 : decode b_KReader_instruction 137 = .ok (.isub, 1) := by decide +kernel
theorem d_KReader_instruction_138 : decode b_KReader_instruction 138 = .ok (.iconst 2, 1) := by decide +kernel
theorem d_KReader_instruction_139 : decode b_KReader_instruction 139 = .ok (.isub, 1) := by decide +kernel
theorem d_KReader_instruction_140 : decode b_KReader_instruction 140 = .ok (.invokevirtual 470, 3) := by decide +kernel
theorem d_KReader_instruction_143 : decode b_KReader_instruction 143 = .ok (.istore 5, 2) := by decide +kernel
theorem d_KReader_instruction_145 : decode b_KReader_instruction 145 = .ok (.aload_n 0, 1) := by decide +kernel
theorem d_KReader_instruction_146 : decode b_KReader_instruction 146 = .ok (.iload 5, 2) := by decide +kernel
theorem d_KReader_instruction_148 : decode b_KReader_instruction 148 = .ok (.invokevirtual 473, 3) := by decide +kernel
theorem d_KReader_instruction_151 : decode b_KReader_instruction 151 = .ok (.aload_n 0, 1) := by decide +kernel
theorem d_KReader_instruction_152 : decode b_KReader_instruction 152 = .ok (.invokevirtual 465, 3) := by decide +kernel
theorem d_KReader_instruction_155 : decode b_KReader_instruction 155 = .ok (.iload_n 1, 1) := by decide +kernel
theorem d_KReader_instruction_156 : decode b_KReader_instruction 156 = .ok (.ifCond .eq 141, 3) := by decide +kernel
theorem d_KReader_instruction_159 : decode b_KReader_instruction 159 = .ok (.aload_n 0, 1) := by decide +kernel
theorem d_KReader_instruction_160 : decode b_KReader_instruction 160 = .ok (.invokevirtual 477, 3) := by decide +kernel
theorem d_KReader_instruction_163 : decode b_KReader_instruction 163 = .ok (.ifCond .ne 4, 3) := by decide +kernel
theorem d_KReader_instruction_166 : decode b_KReader_instruction 166 = .ok (.return_, 1) := by decide +kernel
theorem d_KReader_instruction_167 : decode b_KReader_instruction 167 = .ok (.aload_n 0, 1) := by decide +kernel
theorem d_KReader_instruction_168 : decode b_KReader_instruction 168 = .ok (.getfield 150, 3) := by decide +kernel
theorem d_KReader_instruction_171 : decode b_KReader_instruction 171 = .ok (.iconst 3, 1) := by decide +kernel
theorem d_KReader_instruction_172 : decode b_KReader_instruction 172 = .ok (.invokevirtual 480, 3) := by decide +kernel
theorem d_KReader_instruction_175 : decode b_KReader_instruction 175 = .ok (.iload 4, 2) := by decide +kernel
theorem d_KReader_instruction_177 : decode b_KReader_instruction 177 = .ok (.iconst 2, 1) := by decide +kernel
theorem d_KReader_instruction_178 : decode b_KReader_instruction 178 = .ok (.isub, 1) := by decide +kernel
theorem d_KReader_instruction_179 : decode b_KReader_instruction 179 = .ok (.iload_n 3, 1) := by decide +kernel
theorem d_KReader_instruction_180 : decode b_KReader_instruction 180 = .ok (.isub, 1) := by decide +kernel
theorem d_KReader_instruction_181 : decode b_KReader_instruction 181 = .ok (.istore 6, 2) := by decide +kernel
theorem d_KReader_instruction_183 : decode b_KReader_instruction 183 = .ok (.aload_n 0, 1) := by decide +kernel
theorem d_KReader_instruction_184 : decode b_KReader_instruction 184 = .ok (.getfield 150, 3) := by decide +kernel
theorem d_KReader_instruction_187 : decode b_KReader_instruction 187 = .ok (.getfield 483, 3) := by decide +kernel
theorem d_KReader_instruction_190 : decode b_KReader_instruction 190 = .ok (.aload_n 0, 1) := by decide +kernel
theorem d_KReader_instruction_191 : decode b_KReader_instruction 191 = .ok (.getfield 150, 3) := by decide +kernel
theorem d_KReader_instruction_194 : decode b_KReader_instruction 194 = .ok (.getfield 486, 3) := by decide +kernel
theorem d_KReader_instruction_197 : decode b_KReader_instruction 197 = .ok (.iload 5, 2) := by decide +kernel
theorem d_KReader_instruction_199 : decode b_KReader_instruction 199 = .ok (.iastore, 1) := by decide +kernel
theorem d_KReader_instruction_200 : decode b_KReader_instruction 200 = .ok (.aload_n 0, 1) := by decide +kernel
theorem d_KReader_instruction_201 : decode b_KReader_instruction 201 = .ok (.getfield 150, 3) := by decide +kernel
theorem d_KReader_instruction_204 : decode b_KReader_instruction 204 = .ok (.getfield 483, 3) := by decide +kernel
theorem d_KReader_instruction_207 : decode b_KReader_instruction 207 = .ok (.aload_n 0, 1) := by decide +kernel
theorem d_KReader_instruction_208 : decode b_KReader_instruction 208 = .ok (.getfield 150, 3) := by decide +kernel
theorem d_KReader_instruction_211 : decode b_KReader_instruction 211 = .ok (.getfield 486, 3) := by decide +kernel
theorem d_KReader_instruction_214 : decode b_KReader_instruction 214 = .ok (.iconst 1, 1) := by decide +kernel
theorem d_KReader_instruction_215 : decode b_KReader_instruction 215 = .ok (.iadd, 1) := by decide +kernel
theorem d_KReader_instruction_216 : decode b_KReader_instruction 216 = .ok (.aload_n 0, 1) := by decide +kernel
theorem d_KReader_instruction_217 : decode b_KReader_instruction 217 = .ok (.getfield 150, 3) := by decide +kernel
theorem d_KReader_instruction_220 : decode b_KReader_instruction 220 = .ok (.getfield 489, 3) := by decide +kernel
theorem d_KReader_instruction_223 : decode b_KReader_instruction 223 = .ok (.iastore, 1) := by decide +kernel
theorem d_KReader_instruction_224 : decode b_KReader_instruction 224 = .ok (.aload_n 0, 1) := by decide +kernel
theorem d_KReader_instruction_225 : decode b_KReader_instruction 225 = .ok (.getfield 150, 3) := by decide +kernel
theorem d_KReader_instruction_228 : decode b_KReader_instruction 228 = .ok (.getfield 483, 3) := by decide +kernel
theorem d_KReader_instruction_231 : decode b_KReader_instruction 231 = .ok (.aload_n 0, 1) := by decide +kernel
theorem d_KReader_instruction_232 : decode b_KReader_instruction 232 = .ok (.getfield 150, 3) := by decide +kernel
theorem d_KReader_instruction_235 : decode b_KReader_instruction 235 = .ok (.getfield 486, 3) := by decide +kernel
theorem d_KReader_instruction_238 : decode b_KReader_instruction 238 = .ok (.iconst 2, 1) := by decide +kernel
theorem d_KReader_instruction_239 : decode b_KReader_instruction 239 = .ok (.iadd, 1) := by decide +kernel
theorem d_KReader_instruction_240 : decode b_KReader_instruction 240 = .ok (.iload 6, 2) := by decide +kernel
theorem d_KReader_instruction_242 : decode b_KReader_instruction 242 = .ok (.ifCond .ge 7, 3) := by decide +kernel
theorem d_KReader_instruction_245 : decode b_KReader_instruction 245 = .ok (.iconst 0, 1) := by decide +kernel
theorem d_KReader_instruction_246 : decode b_KReader_instruction 246 = .ok (.goto 5, 3) := by decide +kernel
theorem d_KReader_instruction_249 : decode b_KReader_instruction 249 = .ok (.iload 6, 2) := by decide +kernel
theorem d_KReader_instruction_251 : decode b_KReader_instruction 251 = .ok (.iastore, 1) := by decide +kernel
theorem d_KReader_instruction_252 : decode b_KReader_instruction 252 = .ok (.aload_n 0, 1) := by decide +kernel
theorem d_KReader_instruction_253 : decode b_KReader_instruction 253 = .ok (.getfield 150, 3) := by decide +kernel
theorem d_KReader_instruction_256 : decode b_KReader_instruction 256 = .ok (.dup, 1) := by decide +kernel
theorem d_KReader_instruction_257 : decode b_KReader_instruction 257 = .ok (.getfield 486, 3) := by decide +kernel
theorem d_KReader_instruction_260 : decode b_KReader_instruction 260 = .ok (.iconst 3, 1) := by decide +kernel
theorem d_KReader_instruction_261 : decode b_KReader_instruction 261 = .ok (.iadd, 1) := by decide +kernel
theorem d_KReader_instruction_262 : decode b_KReader_instruction 262 = .ok (.putfield 486, 3) := by decide +kernel
theorem d_KReader_instruction_265 : decode b_KReader_instruction 265 = .ok (.iload_n 3, 1) := by decide +kernel
theorem d_KReader_instruction_266 : decode b_KReader_instruction 266 = .ok (.istore 7, 2) := by decide +kernel
theorem d_KReader_instruction_268 : decode b_KReader_instruction 268 = .ok (.iload 7, 2) := by decide +kernel
theorem d_KReader_instruction_270 : decode b_KReader_instruction 270 = .ok (.iload 4, 2) := by decide +kernel
theorem d_KReader_instruction_272 : decode b_KReader_instruction 272 = .ok (.iconst 2, 1) := by decide +kernel
theorem d_KReader_instruction_273 : decode b_KReader_instruction 273 = .ok (.isub, 1) := by decide +kernel
theorem d_KReader_instruction_274 : decode b_KReader_instruction 274 = .ok (.if_icmp .ge 23, 3) := by decide +kernel
theorem d_KReader_instruction_277 : decode b_KReader_instruction 277 = .ok (.aload_n 0, 1) := by decide +kernel
theorem d_KReader_instruction_278 : decode b_KReader_instruction 278 = .ok (.getfield 150, 3) := by decide +kernel
theorem d_KReader_instruction_281 : decode b_KReader_instruction 281 = .ok (.aload_n 0, 1) := by decide +kernel
theorem d_KReader_instruction_282 : decode b_KReader_instruction 282 = .ok (.getfield 45, 3) := by decide +kernel
theorem d_KReader_instruction_285 : decode b_KReader_instruction 285 = .ok (.iload 7, 2) := by decide +kernel
theorem d_KReader_instruction_287 : decode b_KReader_instruction 287 = .ok (.iaload, 1) := by decide +kernel
theorem d_KReader_instruction_288 : decode b_KReader_instruction 288 = .ok (.invokevirtual 492, 3) := by decide +kernel
theorem d_KReader_instruction_291 : decode b_KReader_instruction 291 = .ok (.iinc 7 1, 3) := by decide +kernel
theorem d_KReader_instruction_294 : decode b_KReader_instruction 294 = .ok (.goto (-26), 3) := by decide +kernel
theorem d_KReader_instruction_297 : decode b_KReader_instruction 297 = .ok (.aload_n 0, 1) := by decide +kernel
theorem d_KReader_instruction_298 : decode b_KReader_instruction 298 = .ok (.iload 4, 2) := by decide +kernel
theorem d_KReader_instruction_300 : decode b_KReader_instruction 300 = .ok (.putfield 379, 3) := by decide +kernel
theorem d_KReader_instruction_303 : decode b_KReader_instruction 303 = .ok (.return_, 1) := by decide +kernel
/-- KReader_instruction -/
def w_KReader_instruction (L : Nat → Nat) (a1 : Int) (Q : IS → Prop) (σ : IS) : Prop := inR ((σ.1 16 16) + 2) ∧ w_KReader_name L ((σ.1 16 16) + 2) (fun v2 σ1 => WJ (fun (s5 : Int) (σ6 : IS) => WJ (fun (s9 : Int) (σ10 : IS) => WJ (fun (s13 : Int × Int) (σ14 : IS) => w_KReader_written L s13.2 (fun v16 σ15 => if v16 = 0 then Q σ15 else inR ((σ15.1 16 16) + 2) ∧ inR (s5 - (σ15.1 16 16)) ∧ inR ((s5 - (σ15.1 16 16)) - 2) ∧ w_KReader_keep L ((σ15.1 16 16) + 2) ((s5 - (σ15.1 16 16)) - 2) (fun v19 σ18 => w_KReader_colons L v19 (fun σ20 => w_KReader_touch L  (fun σ22 => WJ (fun (s26 : Unit) (σ27 : IS) => Q (pf σ27 16 16 s13.2)) (fun J24 => if a1 = 0 then J24 () σ22 else w_KReader_node L  (fun v30 σ29 => if v30 = 0 then Q σ29 else dyD (σ29.1 16 2) ∧ w_KDoc_event L (Int.toNat (σ29.1 16 2)) 3 (fun σ33 => inR (s13.2 - 2) ∧ inR ((s13.2 - 2) - s13.1) ∧ dyD (σ33.1 16 2) ∧ inL L (rfo (Int.toNat (σ33.1 16 2)) 15) (σ33.1 (Int.toNat (σ33.1 16 2)) 16) ∧ inR ((σ33.1 (Int.toNat (σ33.1 16 2)) 16) + 1) ∧ inL L (rfo (Int.toNat (σ33.1 16 2)) 15) ((σ33.1 (Int.toNat (σ33.1 16 2)) 16) + 1) ∧ inR ((σ33.1 (Int.toNat (σ33.1 16 2)) 16) + 2) ∧ inL L (rfo (Int.toNat (σ33.1 16 2)) 15) ((σ33.1 (Int.toNat (σ33.1 16 2)) 16) + 2) ∧ inR ((σ33.1 (Int.toNat (σ33.1 16 2)) 16) + 3) ∧ WL (fun (K36 : Int → IS → Prop) (s38 : Int) (σ39 : IS) => inR (s13.2 - 2) ∧ if s38 < (s13.2 - 2) then dyD (σ39.1 16 2) ∧ inL L 176 s38 ∧ w_KDoc_add L (Int.toNat (σ39.1 16 2)) (σ39.2 176 (Int.toNat s38)) (fun σ42 => inR (s38 + 1) ∧ K36 (s38 + 1) σ42) σ39 else J24 () σ39) s13.1 (pf (pr (pr (pr σ33 (rfo (Int.toNat (σ33.1 16 2)) 15) (Int.toNat (σ33.1 (Int.toNat (σ33.1 16 2)) 16)) v19) (rfo (Int.toNat (σ33.1 16 2)) 15) (Int.toNat ((σ33.1 (Int.toNat (σ33.1 16 2)) 16) + 1)) (σ33.1 (Int.toNat (σ33.1 16 2)) 2)) (rfo (Int.toNat (σ33.1 16 2)) 15) (Int.toNat ((σ33.1 (Int.toNat (σ33.1 16 2)) 16) + 2)) (if ((s13.2 - 2) - s13.1) < 0 then (0 : Int) else ((s13.2 - 2) - s13.1))) (Int.toNat (σ33.1 16 2)) 16 ((σ33.1 (Int.toNat (σ33.1 16 2)) 16) + 3))) σ29) σ22)) σ20) σ18) σ15) σ14) (fun J11 => if ¬ s5 < 0 ∧ (s9 < 0) then w_KReader_spaces L s5 (fun v63 σ62 => WL (fun (K64 : Int → IS → Prop) (s66 : Int) (σ67 : IS) => WJ (fun (s70 : Unit) (σ71 : IS) => w_KReader_word L s66 1114 (fun v73 σ72 => J11 (v63, v73) σ72) σ71) (fun J68 => if ¬ s66 < 0 ∧ (s66 < (σ67.1 16 17)) then w_KReader_says L s66 1114 (fun v75 σ74 => if v75 = 0 then inR (s66 + 1) ∧ K64 (s66 + 1) σ74 else J68 () σ74) σ67 else J68 () σ67)) v63 σ62) σ10 else J11 (s5, s9) σ10)) (fun J7 => if s5 < 0 then J7 (-1) σ6 else w_KReader_word L s5 1114 (fun v90 σ89 => J7 v90 σ89) σ6)) (fun J3 => if v2 < 0 then J3 v2 σ1 else inR ((σ1.1 16 16) + 2) ∧ w_KReader_isNamed L ((σ1.1 16 16) + 2) v2 1119 (fun v93 σ92 => if v93 = 0 then J3 v2 σ92 else J3 (-1) σ92) σ1)) σ
set_option maxHeartbeats 4000000 in
set_option maxRecDepth 20000 in
theorem s_KReader_instruction {L : Nat → Nat} (hL : ∀ r, L r < 2147483648) {d : Nat} (hd : 5 ≤ d) {a1 : Int} {Q : IS → Prop} {σ : IS}  (h : w_KReader_instruction L a1 Q σ) : OkI BF L d 15 b_KReader_instruction 8 0 0 [] [some (.inr 16), some (.inl a1)] σ (qv Q) := by
  unfold w_KReader_instruction at h
  obtain ⟨d, rfl⟩ : ∃ e, d = e + 1 := ⟨d - 1, by omega⟩
  refine k_sb (lv' := [some (.inr 16), some (.inl a1), none, none, none, none, none, none]) (sb_s (sb_s (sb_e (sb_e (sb_e (sb_e (sb_e (sb_e sb_nil)))))))) ?_
  refine k_aload_n d_KReader_instruction_0 rfl ?_
  refine k_aload_n d_KReader_instruction_1 rfl ?_
  refine k_getI (x := (σ.1 16 16)) d_KReader_instruction_2 fl_15_379 ob_16 rfl rfl ?_
  refine k_iconst d_KReader_instruction_5 cI_2 ?_
  obtain ⟨p96, h⟩ := h
  refine k_iadd d_KReader_instruction_6 p96 ?_
  refine k_cvi [.inl ((σ.1 16 16) + 2)] d_KReader_instruction_7 ml_15_341 rfl rfl ob_16 rfl (s_KReader_name hL (by omega)  h) (fun v2 σ1 h => ?_)
  refine k_istore_n (lv' := [some (.inr 16), some (.inl a1), some (.inl v2), none, none, none, none, none]) d_KReader_instruction_10 rfl rfl ?_
  refine k_iload_n d_KReader_instruction_11 rfl ?_
  refine k_join (S := Int) (pc' := 34) (st' := fun s5 => []) (lv' := fun s5 => [some (.inr 16), some (.inl a1), some (.inl s5), none, none, none, none, none]) (fun s5 σ6 h => ?_) (fun J3 hJ4 h => ?_) h
  · refine k_iload_n d_KReader_instruction_34 rfl ?_
    refine k_istore_n (lv' := [some (.inr 16), some (.inl a1), some (.inl s5), some (.inl s5), none, none, none, none]) d_KReader_instruction_35 rfl rfl ?_
    refine k_iload_n d_KReader_instruction_36 rfl ?_
    refine k_join (S := Int) (pc' := 52) (st' := fun s9 => [.inl s9]) (lv' := fun s9 => [some (.inr 16), some (.inl a1), some (.inl s5), some (.inl s5), none, none, none, none]) (fun s9 σ10 h => ?_) (fun J7 hJ8 h => ?_) h
    · refine k_istore (lv' := [some (.inr 16), some (.inl a1), some (.inl s5), some (.inl s5), some (.inl s9), none, none, none]) d_KReader_instruction_52 rfl rfl ?_
      refine k_iload_n d_KReader_instruction_54 rfl ?_
      refine k_join (S := Int × Int) (pc' := 115) (st' := fun s13 => []) (lv' := fun s13 => [some (.inr 16), some (.inl a1), some (.inl s5), some (.inl s13.1), some (.inl s13.2), none, none, none]) (fun s13 σ14 h => ?_) (fun J11 hJ12 h => ?_) h
      · refine k_aload_n d_KReader_instruction_115 rfl ?_
        refine k_iload d_KReader_instruction_116 rfl ?_
        refine k_cvi [.inl s13.2] d_KReader_instruction_118 ml_15_437 rfl rfl ob_16 rfl (s_KReader_written hL (by omega)  h) (fun v16 σ15 h => ?_)
        refine k_ifne d_KReader_instruction_121 rfl (fun c17 => ?_) (fun c17 => ?_)
        · have h := ineg c17 h
          refine k_aload_n d_KReader_instruction_125 rfl ?_
          refine k_aload_n d_KReader_instruction_126 rfl ?_
          refine k_getI (x := (σ15.1 16 16)) d_KReader_instruction_127 fl_15_379 ob_16 rfl rfl ?_
          refine k_iconst d_KReader_instruction_130 cI_2 ?_
          obtain ⟨p61, h⟩ := h
          refine k_iadd d_KReader_instruction_131 p61 ?_
          refine k_iload_n d_KReader_instruction_132 rfl ?_
          refine k_aload_n d_KReader_instruction_133 rfl ?_
          refine k_getI (x := (σ15.1 16 16)) d_KReader_instruction_134 fl_15_379 ob_16 rfl rfl ?_
          obtain ⟨p60, h⟩ := h
          refine k_isub d_KReader_instruction_137 p60 ?_
          refine k_iconst d_KReader_instruction_138 cI_2 ?_
          obtain ⟨p59, h⟩ := h
          refine k_isub d_KReader_instruction_139 p59 ?_
          refine k_cvi [.inl ((σ15.1 16 16) + 2), .inl ((s5 - (σ15.1 16 16)) - 2)] d_KReader_instruction_140 ml_15_470 rfl rfl ob_16 rfl (s_KReader_keep hL (by omega)  h) (fun v19 σ18 h => ?_)
          refine k_istore (lv' := [some (.inr 16), some (.inl a1), some (.inl s5), some (.inl s13.1), some (.inl s13.2), some (.inl v19), none, none]) d_KReader_instruction_143 rfl rfl ?_
          refine k_aload_n d_KReader_instruction_145 rfl ?_
          refine k_iload d_KReader_instruction_146 rfl ?_
          refine k_cvv [.inl v19] d_KReader_instruction_148 ml_15_473 rfl rfl ob_16 rfl (s_KReader_colons hL (by omega)  h) (fun σ20 h => ?_)
          refine k_aload_n d_KReader_instruction_151 rfl ?_
          refine k_cvv [] d_KReader_instruction_152 ml_15_465 rfl rfl ob_16 rfl (s_KReader_touch hL (by omega)  h) (fun σ22 h => ?_)
          refine k_iload_n d_KReader_instruction_155 rfl ?_
          refine k_join (S := Unit) (pc' := 297) (st' := fun s26 => []) (lv' := fun s26 => [some (.inr 16), none, none, none, some (.inl s13.2), none, none, none]) (fun s26 σ27 h => ?_) (fun J24 hJ25 h => ?_) h
          · refine k_aload_n d_KReader_instruction_297 rfl ?_
            refine k_iload d_KReader_instruction_298 rfl ?_
            refine k_putI d_KReader_instruction_300 fl_15_379 ob_16 rfl ?_
            exact k_ret d_KReader_instruction_303 h
          · refine k_ifeq d_KReader_instruction_156 rfl (fun c28 => ?_) (fun c28 => ?_)
            · have h := ipos c28 h
              exact k_sb (sb_s (sb_n (sb_n (sb_n (sb_s (sb_n (sb_s (sb_s sb_nil)))))))) (hJ25 () _ h)
            · have h := ineg c28 h
              refine k_aload_n d_KReader_instruction_159 rfl ?_
              refine k_cvi [] d_KReader_instruction_160 ml_15_477 rfl rfl ob_16 rfl (s_KReader_node hL (by omega)  h) (fun v30 σ29 h => ?_)
              refine k_ifne d_KReader_instruction_163 rfl (fun c31 => ?_) (fun c31 => ?_)
              · have h := ineg c31 h
                refine k_aload_n d_KReader_instruction_167 rfl ?_
                obtain ⟨y32, h⟩ := h
                refine k_getD (x := (σ29.1 16 2)) d_KReader_instruction_168 fl_15_150 ob_16 rfl rfl (dyD_pos y32) ?_
                refine k_iconst d_KReader_instruction_171 cI_3 ?_
                refine k_cvv [.inl 3] d_KReader_instruction_172 ml_15_480 rfl rfl (doc_ob (dyD_doc y32)) rfl (s_KDoc_event hL (by omega) (dyD_doc y32) h) (fun σ33 h => ?_)
                refine k_iload d_KReader_instruction_175 rfl ?_
                refine k_iconst d_KReader_instruction_177 cI_2 ?_
                obtain ⟨p58, h⟩ := h
                refine k_isub d_KReader_instruction_178 p58 ?_
                refine k_iload_n d_KReader_instruction_179 rfl ?_
                obtain ⟨p57, h⟩ := h
                refine k_isub d_KReader_instruction_180 p57 ?_
                refine k_istore (lv' := [some (.inr 16), some (.inl a1), some (.inl s5), some (.inl s13.1), some (.inl s13.2), some (.inl v19), some (.inl ((s13.2 - 2) - s13.1)), none]) d_KReader_instruction_181 rfl rfl ?_
                refine k_aload_n d_KReader_instruction_183 rfl ?_
                obtain ⟨y35, h⟩ := h
                refine k_getD (x := (σ33.1 16 2)) d_KReader_instruction_184 fl_15_150 ob_16 rfl rfl (dyD_pos y35) ?_
                refine k_getR d_KReader_instruction_187 fl_15_483 (doc_ob (dyD_doc y35)) (dfr_15 (dyD_doc y35)) ?_
                refine k_aload_n d_KReader_instruction_190 rfl ?_
                refine k_getD (x := (σ33.1 16 2)) d_KReader_instruction_191 fl_15_150 ob_16 rfl rfl (dyD_pos y35) ?_
                refine k_getI (x := (σ33.1 (Int.toNat (σ33.1 16 2)) 16)) d_KReader_instruction_194 fl_15_486 (doc_ob (dyD_doc y35)) (dfi_16 (dyD_doc y35)) rfl ?_
                refine k_iload d_KReader_instruction_197 rfl ?_
                obtain ⟨p56, h⟩ := h
                refine k_ist d_KReader_instruction_199 (drI_15 (dyD_doc y35)) p56 ?_
                refine k_aload_n d_KReader_instruction_200 rfl ?_
                refine k_getD (x := (σ33.1 16 2)) d_KReader_instruction_201 fl_15_150 ob_16 rfl rfl (dyD_pos y35) ?_
                refine k_getR d_KReader_instruction_204 fl_15_483 (doc_ob (dyD_doc y35)) (dfr_15 (dyD_doc y35)) ?_
                refine k_aload_n d_KReader_instruction_207 rfl ?_
                refine k_getD (x := (σ33.1 16 2)) d_KReader_instruction_208 fl_15_150 ob_16 rfl rfl (dyD_pos y35) ?_
                refine k_getI (x := (σ33.1 (Int.toNat (σ33.1 16 2)) 16)) d_KReader_instruction_211 fl_15_486 (doc_ob (dyD_doc y35)) (dfi_16 (dyD_doc y35)) ((rfl).trans rfl) ?_
                refine k_iconst d_KReader_instruction_214 cI_1 ?_
                obtain ⟨p55, h⟩ := h
                refine k_iadd d_KReader_instruction_215 p55 ?_
                refine k_aload_n d_KReader_instruction_216 rfl ?_
                refine k_getD (x := (σ33.1 16 2)) d_KReader_instruction_217 fl_15_150 ob_16 rfl rfl (dyD_pos y35) ?_
                refine k_getI (x := (σ33.1 (Int.toNat (σ33.1 16 2)) 2)) d_KReader_instruction_220 fl_15_489 (doc_ob (dyD_doc y35)) (dfi_2 (dyD_doc y35)) ((rfl).trans rfl) ?_
                obtain ⟨p54, h⟩ := h
                refine k_ist d_KReader_instruction_223 (drI_15 (dyD_doc y35)) p54 ?_
                refine k_aload_n d_KReader_instruction_224 rfl ?_
                refine k_getD (x := (σ33.1 16 2)) d_KReader_instruction_225 fl_15_150 ob_16 rfl rfl (dyD_pos y35) ?_
                refine k_getR d_KReader_instruction_228 fl_15_483 (doc_ob (dyD_doc y35)) (dfr_15 (dyD_doc y35)) ?_
                refine k_aload_n d_KReader_instruction_231 rfl ?_
                refine k_getD (x := (σ33.1 16 2)) d_KReader_instruction_232 fl_15_150 ob_16 rfl rfl (dyD_pos y35) ?_
                refine k_getI (x := (σ33.1 (Int.toNat (σ33.1 16 2)) 16)) d_KReader_instruction_235 fl_15_486 (doc_ob (dyD_doc y35)) (dfi_16 (dyD_doc y35)) ((rfl).trans ((rfl).trans rfl)) ?_
                refine k_iconst d_KReader_instruction_238 cI_2 ?_
                obtain ⟨p53, h⟩ := h
                refine k_iadd d_KReader_instruction_239 p53 ?_
                refine k_iload d_KReader_instruction_240 rfl ?_
                have hV49 : OkI BF L (d + 1) 15 b_KReader_instruction 8 0 251 [.inl (if ((s13.2 - 2) - s13.1) < 0 then (0 : Int) else ((s13.2 - 2) - s13.1)), .inl ((σ33.1 (Int.toNat (σ33.1 16 2)) 16) + 2), .inr (rfo (Int.toNat (σ33.1 16 2)) 15)] [some (.inr 16), some (.inl a1), some (.inl s5), some (.inl s13.1), some (.inl s13.2), some (.inl v19), some (.inl ((s13.2 - 2) - s13.1)), none] (pr (pr σ33 (rfo (Int.toNat (σ33.1 16 2)) 15) (Int.toNat (σ33.1 (Int.toNat (σ33.1 16 2)) 16)) v19) (rfo (Int.toNat (σ33.1 16 2)) 15) (Int.toNat ((σ33.1 (Int.toNat (σ33.1 16 2)) 16) + 1)) (σ33.1 (Int.toNat (σ33.1 16 2)) 2)) (qv Q) := by
                  obtain ⟨p48, h⟩ := h
                  refine k_ist d_KReader_instruction_251 (drI_15 (dyD_doc y35)) p48 ?_
                  refine k_aload_n d_KReader_instruction_252 rfl ?_
                  refine k_getD (x := (σ33.1 16 2)) d_KReader_instruction_253 fl_15_150 ob_16 rfl rfl (dyD_pos y35) ?_
                  refine k_dup d_KReader_instruction_256 ?_
                  refine k_getI (x := (σ33.1 (Int.toNat (σ33.1 16 2)) 16)) d_KReader_instruction_257 fl_15_486 (doc_ob (dyD_doc y35)) (dfi_16 (dyD_doc y35)) ((rfl).trans ((rfl).trans ((rfl).trans rfl))) ?_
                  refine k_iconst d_KReader_instruction_260 cI_3 ?_
                  obtain ⟨p47, h⟩ := h
                  refine k_iadd d_KReader_instruction_261 p47 ?_
                  refine k_putI d_KReader_instruction_262 fl_15_486 (doc_ob (dyD_doc y35)) (dfz_16 (dyD_doc y35)) ?_
                  refine k_iload_n d_KReader_instruction_265 rfl ?_
                  refine k_istore (lv' := [some (.inr 16), some (.inl a1), some (.inl s5), some (.inl s13.1), some (.inl s13.2), some (.inl v19), some (.inl ((s13.2 - 2) - s13.1)), some (.inl s13.1)]) d_KReader_instruction_266 rfl rfl ?_
                  refine k_sb (lv' := [some (.inr 16), none, none, none, some (.inl s13.2), none, none, some (.inl s13.1)]) (sb_s (sb_n (sb_n (sb_n (sb_s (sb_n (sb_n (sb_s sb_nil)))))))) ?_
                  refine k_loop (S := Int) (st := fun _ => []) (lv := fun s38 => [some (.inr 16), none, none, none, some (.inl s13.2), none, none, some (.inl s38)]) (fun K36 hK37 s38 σ39 h => ?_) s13.1 _ h
                  refine k_iload d_KReader_instruction_268 rfl ?_
                  refine k_iload d_KReader_instruction_270 rfl ?_
                  refine k_iconst d_KReader_instruction_272 cI_2 ?_
                  obtain ⟨p46, h⟩ := h
                  refine k_isub d_KReader_instruction_273 p46 ?_
                  refine k_icge d_KReader_instruction_274 rfl (fun c40 => ?_) (fun c40 => ?_)
                  · have h := ineg c40 h
                    exact k_sb (sb_s (sb_s (sb_s (sb_s (sb_s (sb_s (sb_s (sb_n sb_nil)))))))) (hJ25 () _ h)
                  · have h := ipos c40 h
                    refine k_aload_n d_KReader_instruction_277 rfl ?_
                    obtain ⟨y41, h⟩ := h
                    refine k_getD (x := (σ39.1 16 2)) d_KReader_instruction_278 fl_15_150 ob_16 rfl rfl (dyD_pos y41) ?_
                    refine k_aload_n d_KReader_instruction_281 rfl ?_
                    refine k_getR d_KReader_instruction_282 fl_15_45 ob_16 rfl ?_
                    refine k_iload d_KReader_instruction_285 rfl ?_
                    obtain ⟨p45, h⟩ := h
                    refine k_ild (x := (σ39.2 176 (Int.toNat s38))) d_KReader_instruction_287 rI_176 p45 rfl ?_
                    refine k_cvv [.inl (σ39.2 176 (Int.toNat s38))] d_KReader_instruction_288 ml_15_492 rfl rfl (doc_ob (dyD_doc y41)) rfl (s_KDoc_add hL (by omega) (dyD_doc y41) h) (fun σ42 h => ?_)
                    obtain ⟨p44, h⟩ := h
                    refine k_iinc (lv' := [some (.inr 16), none, none, none, some (.inl s13.2), none, none, some (.inl (s38 + 1))]) d_KReader_instruction_291 cI_1 rfl rfl p44 rfl ?_
                    refine k_goto d_KReader_instruction_294 rfl ?_
                    exact k_sb (sb_s (sb_s (sb_s (sb_s (sb_s (sb_s (sb_s (sb_s sb_nil)))))))) (hK37 (s38 + 1) _ h)
                refine k_ifge d_KReader_instruction_242 rfl (fun c50 => ?_) (fun c50 => ?_)
                · have hV52 := k_eqI (if_neg c50) hV49
                  refine k_iload d_KReader_instruction_249 rfl ?_
                  exact hV52
                · have hV51 := k_eqI (if_pos c50) hV49
                  refine k_iconst d_KReader_instruction_245 cI_0 ?_
                  refine k_goto d_KReader_instruction_246 rfl ?_
                  exact hV51
              · have h := ipos c31 h
                exact k_ret d_KReader_instruction_166 h
        · have h := ipos c17 h
          exact k_ret d_KReader_instruction_124 h
      · have hX83 : (¬ s5 < 0 ∧ (s9 < 0)) → OkI BF L (d + 1) 15 b_KReader_instruction 8 0 63 [] [some (.inr 16), some (.inl a1), some (.inl s5), some (.inl s5), some (.inl s9), none, none, none] σ10 (qv Q) := fun e85 => by
          have h := ipos e85 h
          refine k_aload_n d_KReader_instruction_63 rfl ?_
          refine k_iload_n d_KReader_instruction_64 rfl ?_
          refine k_cvi [.inl s5] d_KReader_instruction_65 ml_15_333 rfl rfl ob_16 rfl (s_KReader_spaces hL (by omega)  h) (fun v63 σ62 h => ?_)
          refine k_istore_n (lv' := [some (.inr 16), some (.inl a1), some (.inl s5), some (.inl v63), some (.inl s9), none, none, none]) d_KReader_instruction_68 rfl rfl ?_
          refine k_iload_n d_KReader_instruction_69 rfl ?_
          refine k_istore (lv' := [some (.inr 16), some (.inl a1), some (.inl s5), some (.inl v63), some (.inl v63), none, none, none]) d_KReader_instruction_70 rfl rfl ?_
          refine k_sb (lv' := [some (.inr 16), some (.inl a1), some (.inl s5), some (.inl v63), some (.inl v63), none, none, none]) (sb_s (sb_s (sb_s (sb_s (sb_s (sb_s (sb_s (sb_s sb_nil)))))))) ?_
          refine k_loop (S := Int) (st := fun _ => []) (lv := fun s66 => [some (.inr 16), some (.inl a1), some (.inl s5), some (.inl v63), some (.inl s66), none, none, none]) (fun K64 hK65 s66 σ67 h => ?_) v63 _ h
          refine k_iload d_KReader_instruction_72 rfl ?_
          refine k_join (S := Unit) (pc' := 104) (st' := fun s70 => []) (lv' := fun s70 => [some (.inr 16), some (.inl a1), some (.inl s5), some (.inl v63), some (.inl s66), none, none, none]) (fun s70 σ71 h => ?_) (fun J68 hJ69 h => ?_) h
          · refine k_aload_n d_KReader_instruction_104 rfl ?_
            refine k_iload d_KReader_instruction_105 rfl ?_
            refine k_ldcw d_KReader_instruction_107 ks_15_451 rfl ?_
            refine k_cvi [.inl s66, .inr 1114] d_KReader_instruction_110 ml_15_329 rfl rfl ob_16 rfl (s_KReader_word hL (by omega) it_1114 h) (fun v73 σ72 h => ?_)
            refine k_istore (lv' := [some (.inr 16), some (.inl a1), some (.inl s5), some (.inl v63), some (.inl v73), none, none, none]) d_KReader_instruction_113 rfl rfl ?_
            exact k_sb (sb_s (sb_s (sb_s (sb_s (sb_s (sb_s (sb_s (sb_s sb_nil)))))))) (hJ12 (v63, v73) _ h)
          · have hX78 : (¬ s66 < 0 ∧ (s66 < (σ67.1 16 17))) → OkI BF L (d + 1) 15 b_KReader_instruction 8 0 86 [] [some (.inr 16), some (.inl a1), some (.inl s5), some (.inl v63), some (.inl s66), none, none, none] σ67 (qv Q) := fun e80 => by
              have h := ipos e80 h
              refine k_aload_n d_KReader_instruction_86 rfl ?_
              refine k_iload d_KReader_instruction_87 rfl ?_
              refine k_ldcw d_KReader_instruction_89 ks_15_451 rfl ?_
              refine k_cvi [.inl s66, .inr 1114] d_KReader_instruction_92 ml_15_290 rfl rfl ob_16 rfl (s_KReader_says hL (by omega) it_1114 h) (fun v75 σ74 h => ?_)
              refine k_ifne d_KReader_instruction_95 rfl (fun c76 => ?_) (fun c76 => ?_)
              · have h := ineg c76 h
                exact k_sb (sb_s (sb_s (sb_s (sb_s (sb_s (sb_s (sb_s (sb_s sb_nil)))))))) (hJ69 () _ h)
              · have h := ipos c76 h
                obtain ⟨p77, h⟩ := h
                refine k_iinc (lv' := [some (.inr 16), some (.inl a1), some (.inl s5), some (.inl v63), some (.inl (s66 + 1)), none, none, none]) d_KReader_instruction_98 cI_1 rfl rfl p77 rfl ?_
                refine k_goto d_KReader_instruction_101 rfl ?_
                exact k_sb (sb_s (sb_s (sb_s (sb_s (sb_s (sb_s (sb_s (sb_s sb_nil)))))))) (hK65 (s66 + 1) _ h)
            have hY79 : ¬ (¬ s66 < 0 ∧ (s66 < (σ67.1 16 17))) → OkI BF L (d + 1) 15 b_KReader_instruction 8 0 104 [] [some (.inr 16), some (.inl a1), some (.inl s5), some (.inl v63), some (.inl s66), none, none, none] σ67 (qv Q) := fun e80 => by
              have h := ineg e80 h
              exact k_sb (sb_s (sb_s (sb_s (sb_s (sb_s (sb_s (sb_s (sb_s sb_nil)))))))) (hJ69 () _ h)
            refine k_iflt d_KReader_instruction_74 rfl (fun c81 => ?_) (fun c81 => ?_)
            · exact hY79 (fun z => z.1 c81)
            · refine k_iload d_KReader_instruction_77 rfl ?_
              refine k_aload_n d_KReader_instruction_79 rfl ?_
              refine k_getI (x := (σ67.1 16 17)) d_KReader_instruction_80 fl_15_273 ob_16 rfl rfl ?_
              refine k_icge d_KReader_instruction_83 rfl (fun c82 => ?_) (fun c82 => ?_)
              · exact hY79 (fun z => (c82) z.2)
              · exact hX78 (⟨c81, c82⟩)
        have hY84 : ¬ (¬ s5 < 0 ∧ (s9 < 0)) → OkI BF L (d + 1) 15 b_KReader_instruction 8 0 115 [] [some (.inr 16), some (.inl a1), some (.inl s5), some (.inl s5), some (.inl s9), none, none, none] σ10 (qv Q) := fun e85 => by
          have h := ineg e85 h
          exact k_sb (sb_s (sb_s (sb_s (sb_s (sb_s (sb_s (sb_s (sb_s sb_nil)))))))) (hJ12 (s5, s9) _ h)
        refine k_iflt d_KReader_instruction_55 rfl (fun c86 => ?_) (fun c86 => ?_)
        · exact hY84 (fun z => z.1 c86)
        · refine k_iload d_KReader_instruction_58 rfl ?_
          refine k_ifge d_KReader_instruction_60 rfl (fun c87 => ?_) (fun c87 => ?_)
          · exact hY84 (fun z => (c87) z.2)
          · exact hX83 (⟨c86, c87⟩)
    · refine k_ifge d_KReader_instruction_37 rfl (fun c88 => ?_) (fun c88 => ?_)
      · have h := ineg c88 h
        refine k_aload_n d_KReader_instruction_44 rfl ?_
        refine k_iload_n d_KReader_instruction_45 rfl ?_
        refine k_ldcw d_KReader_instruction_46 ks_15_451 rfl ?_
        refine k_cvi [.inl s5, .inr 1114] d_KReader_instruction_49 ml_15_329 rfl rfl ob_16 rfl (s_KReader_word hL (by omega) it_1114 h) (fun v90 σ89 h => ?_)
        exact k_sb (sb_s (sb_s (sb_s (sb_s (sb_s (sb_s (sb_s (sb_s sb_nil)))))))) (hJ8 v90 _ h)
      · have h := ipos c88 h
        refine k_iconst d_KReader_instruction_40 cI_m1 ?_
        refine k_goto d_KReader_instruction_41 rfl ?_
        exact k_sb (sb_s (sb_s (sb_s (sb_s (sb_s (sb_s (sb_s (sb_s sb_nil)))))))) (hJ8 (-1) _ h)
  · refine k_iflt d_KReader_instruction_12 rfl (fun c91 => ?_) (fun c91 => ?_)
    · have h := ipos c91 h
      exact k_sb (sb_s (sb_s (sb_s (sb_s (sb_s (sb_s (sb_s (sb_s sb_nil)))))))) (hJ4 v2 _ h)
    · have h := ineg c91 h
      refine k_aload_n d_KReader_instruction_15 rfl ?_
      refine k_aload_n d_KReader_instruction_16 rfl ?_
      refine k_getI (x := (σ1.1 16 16)) d_KReader_instruction_17 fl_15_379 ob_16 rfl rfl ?_
      refine k_iconst d_KReader_instruction_20 cI_2 ?_
      obtain ⟨p95, h⟩ := h
      refine k_iadd d_KReader_instruction_21 p95 ?_
      refine k_iload_n d_KReader_instruction_22 rfl ?_
      refine k_ldcw d_KReader_instruction_23 ks_15_468 rfl ?_
      refine k_cvi [.inl ((σ1.1 16 16) + 2), .inl v2, .inr 1119] d_KReader_instruction_26 ml_15_457 rfl rfl ob_16 rfl (s_KReader_isNamed hL (by omega) it_1119 h) (fun v93 σ92 h => ?_)
      refine k_ifeq d_KReader_instruction_29 rfl (fun c94 => ?_) (fun c94 => ?_)
      · have h := ipos c94 h
        exact k_sb (sb_s (sb_s (sb_s (sb_s (sb_s (sb_s (sb_s (sb_s sb_nil)))))))) (hJ4 v2 _ h)
      · have h := ineg c94 h
        refine k_iconst d_KReader_instruction_32 cI_m1 ?_
        refine k_istore_n (lv' := [some (.inr 16), some (.inl a1), some (.inl (-1)), none, none, none, none, none]) d_KReader_instruction_33 rfl rfl ?_
        exact k_sb (sb_s (sb_s (sb_s (sb_s (sb_s (sb_s (sb_s (sb_s sb_nil)))))))) (hJ4 (-1) _ h)
theorem d_KReader_entityOf_0 : decode b_KReader_entityOf 0 = .ok (.iconst 0, 1) := by decide +kernel
theorem d_KReader_entityOf_1 : decode b_KReader_entityOf 1 = .ok (.istore_n 3, 1) := by decide +kernel
theorem d_KReader_entityOf_2 : decode b_KReader_entityOf 2 = .ok (.iload_n 3, 1) := by decide +kernel
theorem d_KReader_entityOf_3 : decode b_KReader_entityOf 3 = .ok (.aload_n 0, 1) := by decide +kernel
theorem d_KReader_entityOf_4 : decode b_KReader_entityOf 4 = .ok (.getfield 203, 3) := by decide +kernel
theorem d_KReader_entityOf_7 : decode b_KReader_entityOf 7 = .ok (.if_icmp .ge 29, 3) := by decide +kernel
theorem d_KReader_entityOf_10 : decode b_KReader_entityOf 10 = .ok (.aload_n 0, 1) := by decide +kernel
theorem d_KReader_entityOf_11 : decode b_KReader_entityOf 11 = .ok (.getfield 63, 3) := by decide +kernel
theorem d_KReader_entityOf_14 : decode b_KReader_entityOf 14 = .ok (.iload_n 3, 1) := by decide +kernel
theorem d_KReader_entityOf_15 : decode b_KReader_entityOf 15 = .ok (.iaload, 1) := by decide +kernel
theorem d_KReader_entityOf_16 : decode b_KReader_entityOf 16 = .ok (.iload_n 1, 1) := by decide +kernel
theorem d_KReader_entityOf_17 : decode b_KReader_entityOf 17 = .ok (.if_icmp .ne 13, 3) := by decide +kernel
theorem d_KReader_entityOf_20 : decode b_KReader_entityOf 20 = .ok (.aload_n 0, 1) := by decide +kernel
theorem d_KReader_entityOf_21 : decode b_KReader_entityOf 21 = .ok (.getfield 66, 3) := by decide +kernel
theorem d_KReader_entityOf_24 : decode b_KReader_entityOf 24 = .ok (.iload_n 3, 1) := by decide +kernel
theorem d_KReader_entityOf_25 : decode b_KReader_entityOf 25 = .ok (.baload, 1) := by decide +kernel
theorem d_KReader_entityOf_26 : decode b_KReader_entityOf 26 = .ok (.iload_n 2, 1) := by decide +kernel
theorem d_KReader_entityOf_27 : decode b_KReader_entityOf 27 = .ok (.if_icmp .eq 9, 3) := by decide +kernel
theorem d_KReader_entityOf_30 : decode b_KReader_entityOf 30 = .ok (.iinc 3 1, 3) := by decide +kernel
theorem d_KReader_entityOf_33 : decode b_KReader_entityOf 33 = .ok (.goto (-31), 3) := by decide +kernel
theorem d_KReader_entityOf_36 : decode b_KReader_entityOf 36 = .ok (.iload_n 3, 1) := by decide +kernel
theorem d_KReader_entityOf_37 : decode b_KReader_entityOf 37 = .ok (.aload_n 0, 1) := by decide +kernel
theorem d_KReader_entityOf_38 : decode b_KReader_entityOf 38 = .ok (.getfield 203, 3) := by decide +kernel
theorem d_KReader_entityOf_41 : decode b_KReader_entityOf 41 = .ok (.if_icmp .ge 7, 3) := by decide +kernel
theorem d_KReader_entityOf_44 : decode b_KReader_entityOf 44 = .ok (.iload_n 3, 1) := by decide +kernel
theorem d_KReader_entityOf_45 : decode b_KReader_entityOf 45 = .ok (.goto 4, 3) := by decide +kernel
theorem d_KReader_entityOf_48 : decode b_KReader_entityOf 48 = .ok (.iconst (-1), 1) := by decide +kernel
theorem d_KReader_entityOf_49 : decode b_KReader_entityOf 49 = .ok (.ireturn, 1) := by decide +kernel
/-- KReader_entityOf -/
def w_KReader_entityOf (L : Nat → Nat) (a1 : Int) (a2 : Int) (Q : Int → IS → Prop) (σ : IS) : Prop := WL (fun (K1 : Int → IS → Prop) (s3 : Int) (σ4 : IS) => WJ (fun (s7 : Unit) (σ8 : IS) => Q (if s3 < (σ8.1 16 32) then s3 else ((-1) : Int)) σ8) (fun J5 => if s3 < (σ4.1 16 32) then inL L 182 s3 ∧ (((σ4.2 182 (Int.toNat s3)) = a1 → inL L 183 s3)) ∧ if ¬ (σ4.2 182 (Int.toNat s3)) = a1 ∨ (¬ (σ4.2 183 (Int.toNat s3)) = a2) then inR (s3 + 1) ∧ K1 (s3 + 1) σ4 else J5 () σ4 else J5 () σ4)) 0 σ
set_option maxHeartbeats 4000000 in
set_option maxRecDepth 20000 in
theorem s_KReader_entityOf {L : Nat → Nat} (hL : ∀ r, L r < 2147483648) {d : Nat} (hd : 0 ≤ d) {a1 : Int} {a2 : Int} {Q : Int → IS → Prop} {σ : IS}  (h : w_KReader_entityOf L a1 a2 Q σ) : OkI BF L d 15 b_KReader_entityOf 4 1 0 [] [some (.inr 16), some (.inl a1), some (.inl a2)] σ (qi Q) := by
  unfold w_KReader_entityOf at h
  refine k_sb (lv' := [some (.inr 16), some (.inl a1), some (.inl a2), none]) (sb_s (sb_s (sb_s (sb_e sb_nil)))) ?_
  refine k_iconst d_KReader_entityOf_0 cI_0 ?_
  refine k_istore_n (lv' := [some (.inr 16), some (.inl a1), some (.inl a2), some (.inl 0)]) d_KReader_entityOf_1 rfl rfl ?_
  refine k_sb (lv' := [some (.inr 16), some (.inl a1), some (.inl a2), some (.inl 0)]) (sb_s (sb_s (sb_s (sb_s sb_nil)))) ?_
  refine k_loop (S := Int) (st := fun _ => []) (lv := fun s3 => [some (.inr 16), some (.inl a1), some (.inl a2), some (.inl s3)]) (fun K1 hK2 s3 σ4 h => ?_) 0 _ h
  refine k_iload_n d_KReader_entityOf_2 rfl ?_
  refine k_aload_n d_KReader_entityOf_3 rfl ?_
  refine k_getI (x := (σ4.1 16 32)) d_KReader_entityOf_4 fl_15_203 ob_16 rfl rfl ?_
  refine k_join (S := Unit) (pc' := 36) (st' := fun s7 => []) (lv' := fun s7 => [some (.inr 16), none, none, some (.inl s3)]) (fun s7 σ8 h => ?_) (fun J5 hJ6 h => ?_) h
  · refine k_iload_n d_KReader_entityOf_36 rfl ?_
    refine k_aload_n d_KReader_entityOf_37 rfl ?_
    refine k_getI (x := (σ8.1 16 32)) d_KReader_entityOf_38 fl_15_203 ob_16 rfl rfl ?_
    have hV9 : OkI BF L d 15 b_KReader_entityOf 4 1 49 [.inl (if s3 < (σ8.1 16 32) then s3 else ((-1) : Int))] [some (.inr 16), none, none, some (.inl s3)] σ8 (qi Q) := by
      exact k_iret d_KReader_entityOf_49 (Or.inl rfl) h
    refine k_icge d_KReader_entityOf_41 rfl (fun c10 => ?_) (fun c10 => ?_)
    · have hV12 := k_eqI (if_neg c10) hV9
      refine k_iconst d_KReader_entityOf_48 cI_m1 ?_
      exact hV12
    · have hV11 := k_eqI (if_pos c10) hV9
      refine k_iload_n d_KReader_entityOf_44 rfl ?_
      refine k_goto d_KReader_entityOf_45 rfl ?_
      exact hV11
  · refine k_icge d_KReader_entityOf_7 rfl (fun c13 => ?_) (fun c13 => ?_)
    · have h := ineg c13 h
      exact k_sb (sb_s (sb_n (sb_n (sb_s sb_nil)))) (hJ6 () _ h)
    · have h := ipos c13 h
      refine k_aload_n d_KReader_entityOf_10 rfl ?_
      refine k_getR d_KReader_entityOf_11 fl_15_63 ob_16 rfl ?_
      refine k_iload_n d_KReader_entityOf_14 rfl ?_
      obtain ⟨p23, h⟩ := h
      refine k_ild (x := (σ4.2 182 (Int.toNat s3))) d_KReader_entityOf_15 rI_182 p23 rfl ?_
      refine k_iload_n d_KReader_entityOf_16 rfl ?_
      obtain ⟨pt19, h⟩ := h
      have hX16 : (¬ (σ4.2 182 (Int.toNat s3)) = a1 ∨ (¬ (σ4.2 183 (Int.toNat s3)) = a2)) → OkI BF L d 15 b_KReader_entityOf 4 1 30 [] [some (.inr 16), some (.inl a1), some (.inl a2), some (.inl s3)] σ4 (qi Q) := fun e18 => by
        have h := ipos e18 h
        obtain ⟨p15, h⟩ := h
        refine k_iinc (lv' := [some (.inr 16), some (.inl a1), some (.inl a2), some (.inl (s3 + 1))]) d_KReader_entityOf_30 cI_1 rfl rfl p15 rfl ?_
        refine k_goto d_KReader_entityOf_33 rfl ?_
        exact k_sb (sb_s (sb_s (sb_s (sb_s sb_nil)))) (hK2 (s3 + 1) _ h)
      have hY17 : ¬ (¬ (σ4.2 182 (Int.toNat s3)) = a1 ∨ (¬ (σ4.2 183 (Int.toNat s3)) = a2)) → OkI BF L d 15 b_KReader_entityOf 4 1 36 [] [some (.inr 16), some (.inl a1), some (.inl a2), some (.inl s3)] σ4 (qi Q) := fun e18 => by
        have h := ineg e18 h
        exact k_sb (sb_s (sb_n (sb_n (sb_s sb_nil)))) (hJ6 () _ h)
      have pa20 := pt19
      refine k_icne d_KReader_entityOf_17 rfl (fun c21 => ?_) (fun c21 => ?_)
      · exact hX16 (Or.inl c21)
      · have pa20 := pa20 c21
        have p14 := pa20
        refine k_aload_n d_KReader_entityOf_20 rfl ?_
        refine k_getR d_KReader_entityOf_21 fl_15_66 ob_16 rfl ?_
        refine k_iload_n d_KReader_entityOf_24 rfl ?_
        refine k_bld (x := (σ4.2 183 (Int.toNat s3))) d_KReader_entityOf_25 rB_183 p14 rfl ?_
        refine k_iload_n d_KReader_entityOf_26 rfl ?_
        refine k_iceq d_KReader_entityOf_27 rfl (fun c22 => ?_) (fun c22 => ?_)
        · exact hY17 (fun z => z.elim (fun y => y c21) (fun z => z c22))
        · exact hX16 (Or.inr (c22))
theorem d_KReader_fits_0 : decode b_KReader_fits 0 = .ok (.aload_n 0, 1) := by decide +kernel
theorem d_KReader_fits_1 : decode b_KReader_fits 1 = .ok (.getfield 367, 3) := by decide +kernel
theorem d_KReader_fits_4 : decode b_KReader_fits 4 = .ok (.aload_n 0, 1) := by decide +kernel
theorem d_KReader_fits_5 : decode b_KReader_fits 5 = .ok (.getfield 72, 3) := by decide +kernel
theorem d_KReader_fits_8 : decode b_KReader_fits 8 = .ok (.iload_n 1, 1) := by decide +kernel
theorem d_KReader_fits_9 : decode b_KReader_fits 9 = .ok (.iaload, 1) := by decide +kernel
theorem d_KReader_fits_10 : decode b_KReader_fits 10 = .ok (.iadd, 1) := by decide +kernel
theorem d_KReader_fits_11 : decode b_KReader_fits 11 = .ok (.aload_n 0, 1) := by decide +kernel
theorem d_KReader_fits_12 : decode b_KReader_fits 12 = .ok (.getfield 154, 3) := by decide +kernel
theorem d_KReader_fits_15 : decode b_KReader_fits 15 = .ok (.if_icmp .le 9, 3) := by decide +kernel
theorem d_KReader_fits_18 : decode b_KReader_fits 18 = .ok (.aload_n 0, 1) := by decide +kernel
theorem d_KReader_fits_19 : decode b_KReader_fits 19 = .ok (.iconst 4, 1) := by decide +kernel
theorem d_KReader_fits_20 : decode b_KReader_fits 20 = .ok (.invokevirtual 392, 3) := by decide +kernel
theorem d_KReader_fits_23 : decode b_KReader_fits 23 = .ok (.ireturn, 1) := by decide +kernel
theorem d_KReader_fits_24 : decode b_KReader_fits 24 = .ok (.aload_n 0, 1) := by decide +kernel
theorem d_KReader_fits_25 : decode b_KReader_fits 25 = .ok (.getfield 75, 3) := by decide +kernel
theorem d_KReader_fits_28 : decode b_KReader_fits 28 = .ok (.iload_n 1, 1) := by decide +kernel
theorem d_KReader_fits_29 : decode b_KReader_fits 29 = .ok (.baload, 1) := by decide +kernel
theorem d_KReader_fits_30 : decode b_KReader_fits 30 = .ok (.ifCond .eq 10, 3) := by decide +kernel
theorem d_KReader_fits_33 : decode b_KReader_fits 33 = .ok (.aload_n 0, 1) := by decide +kernel
theorem d_KReader_fits_34 : decode b_KReader_fits 34 = .ok (.bipush 10, 2) := by decide +kernel
theorem d_KReader_fits_36 : decode b_KReader_fits 36 = .ok (.invokevirtual 392, 3) := by decide +kernel
theorem d_KReader_fits_39 : decode b_KReader_fits 39 = .ok (.ireturn, 1) := by decide +kernel
theorem d_KReader_fits_40 : decode b_KReader_fits 40 = .ok (.aload_n 0, 1) := by decide +kernel
theorem d_KReader_fits_41 : decode b_KReader_fits 41 = .ok (.dup, 1) := by decide +kernel
theorem d_KReader_fits_42 : decode b_KReader_fits 42 = .ok (.getfield 367, 3) := by decide +kernel
theorem d_KReader_fits_45 : decode b_KReader_fits 45 = .ok (.aload_n 0, 1) := by decide +kernel
theorem d_KReader_fits_46 : decode b_KReader_fits 46 = .ok (.getfield 72, 3) := by decide +kernel
theorem d_KReader_fits_49 : decode b_KReader_fits 49 = .ok (.iload_n 1, 1) := by decide +kernel
theorem d_KReader_fits_50 : decode b_KReader_fits 50 = .ok (.iaload, 1) := by decide +kernel
theorem d_KReader_fits_51 : decode b_KReader_fits 51 = .ok (.iadd, 1) := by decide +kernel
theorem d_KReader_fits_52 : decode b_KReader_fits 52 = .ok (.putfield 367, 3) := by decide +kernel
theorem d_KReader_fits_55 : decode b_KReader_fits 55 = .ok (.iconst 1, 1) := by decide +kernel
theorem d_KReader_fits_56 : decode b_KReader_fits 56 = .ok (.ireturn, 1) := by decide +kernel
/-- KReader_fits -/
def w_KReader_fits (L : Nat → Nat) (a1 : Int) (Q : Int → IS → Prop) (σ : IS) : Prop := inL L 185 a1 ∧ inR ((σ.1 16 25) + (σ.2 185 (Int.toNat a1))) ∧ if (σ.1 16 0) < ((σ.1 16 25) + (σ.2 185 (Int.toNat a1))) then w_KReader_fail L 4 (fun v10 σ9 => is01 v10 ∧ Q v10 σ9) σ else inL L 186 a1 ∧ if (σ.2 186 (Int.toNat a1)) = 0 then inL L 185 a1 ∧ inR ((σ.1 16 25) + (σ.2 185 (Int.toNat a1))) ∧ Q 1 (pf σ 16 25 ((σ.1 16 25) + (σ.2 185 (Int.toNat a1)))) else w_KReader_fail L 10 (fun v6 σ5 => is01 v6 ∧ Q v6 σ5) σ
set_option maxHeartbeats 4000000 in
set_option maxRecDepth 20000 in
theorem s_KReader_fits {L : Nat → Nat} (hL : ∀ r, L r < 2147483648) {d : Nat} (hd : 1 ≤ d) {a1 : Int} {Q : Int → IS → Prop} {σ : IS}  (h : w_KReader_fits L a1 Q σ) : OkI BF L d 15 b_KReader_fits 2 2 0 [] [some (.inr 16), some (.inl a1)] σ (qi Q) := by
  unfold w_KReader_fits at h
  obtain ⟨d, rfl⟩ : ∃ e, d = e + 1 := ⟨d - 1, by omega⟩
  refine k_sb (lv' := [some (.inr 16), some (.inl a1)]) (sb_s (sb_s sb_nil)) ?_
  refine k_aload_n d_KReader_fits_0 rfl ?_
  refine k_getI (x := (σ.1 16 25)) d_KReader_fits_1 fl_15_367 ob_16 rfl rfl ?_
  refine k_aload_n d_KReader_fits_4 rfl ?_
  refine k_getR d_KReader_fits_5 fl_15_72 ob_16 rfl ?_
  refine k_iload_n d_KReader_fits_8 rfl ?_
  obtain ⟨p13, h⟩ := h
  refine k_ild (x := (σ.2 185 (Int.toNat a1))) d_KReader_fits_9 rI_185 p13 rfl ?_
  obtain ⟨p12, h⟩ := h
  refine k_iadd d_KReader_fits_10 p12 ?_
  refine k_aload_n d_KReader_fits_11 rfl ?_
  refine k_getI (x := (σ.1 16 0)) d_KReader_fits_12 fl_15_154 ob_16 rfl rfl ?_
  refine k_icle d_KReader_fits_15 rfl (fun c1 => ?_) (fun c1 => ?_)
  · have h := ineg c1 h
    refine k_aload_n d_KReader_fits_24 rfl ?_
    refine k_getR d_KReader_fits_25 fl_15_75 ob_16 rfl ?_
    refine k_iload_n d_KReader_fits_28 rfl ?_
    obtain ⟨p8, h⟩ := h
    refine k_bld (x := (σ.2 186 (Int.toNat a1))) d_KReader_fits_29 rB_186 p8 rfl ?_
    refine k_ifeq d_KReader_fits_30 rfl (fun c2 => ?_) (fun c2 => ?_)
    · have h := ipos c2 h
      refine k_aload_n d_KReader_fits_40 rfl ?_
      refine k_dup d_KReader_fits_41 ?_
      refine k_getI (x := (σ.1 16 25)) d_KReader_fits_42 fl_15_367 ob_16 rfl rfl ?_
      refine k_aload_n d_KReader_fits_45 rfl ?_
      refine k_getR d_KReader_fits_46 fl_15_72 ob_16 rfl ?_
      refine k_iload_n d_KReader_fits_49 rfl ?_
      obtain ⟨p4, h⟩ := h
      refine k_ild (x := (σ.2 185 (Int.toNat a1))) d_KReader_fits_50 rI_185 p4 rfl ?_
      obtain ⟨p3, h⟩ := h
      refine k_iadd d_KReader_fits_51 p3 ?_
      refine k_putI d_KReader_fits_52 fl_15_367 ob_16 rfl ?_
      refine k_iconst d_KReader_fits_55 cI_1 ?_
      exact k_iret d_KReader_fits_56 (Or.inr ⟨rfl, Or.inr rfl⟩) h
    · have h := ineg c2 h
      refine k_aload_n d_KReader_fits_33 rfl ?_
      refine k_bipush d_KReader_fits_34 cB_10 ?_
      refine k_cvi [.inl 10] d_KReader_fits_36 ml_15_392 rfl rfl ob_16 rfl (s_KReader_fail hL (by omega)  h) (fun v6 σ5 h => ?_)
      obtain ⟨p7, h⟩ := h
      exact k_iret d_KReader_fits_39 (Or.inr ⟨rfl, p7⟩) h
  · have h := ipos c1 h
    refine k_aload_n d_KReader_fits_18 rfl ?_
    refine k_iconst d_KReader_fits_19 cI_4 ?_
    refine k_cvi [.inl 4] d_KReader_fits_20 ml_15_392 rfl rfl ob_16 rfl (s_KReader_fail hL (by omega)  h) (fun v10 σ9 h => ?_)
    obtain ⟨p11, h⟩ := h
    exact k_iret d_KReader_fits_23 (Or.inr ⟨rfl, p11⟩) h
theorem d_KReader_goThrough_0 : decode b_KReader_goThrough 0 = .ok (.aload_n 0, 1) := by decide +kernel
theorem d_KReader_goThrough_1 : decode b_KReader_goThrough 1 = .ok (.aload_n 0, 1) := by decide +kernel
theorem d_KReader_goThrough_2 : decode b_KReader_goThrough 2 = .ok (.getfield 175, 3) := by decide +kernel
theorem d_KReader_goThrough_5 : decode b_KReader_goThrough 5 = .ok (.iconst 1, 1) := by decide +kernel
theorem d_KReader_goThrough_6 : decode b_KReader_goThrough 6 = .ok (.if_icmp .ne 10, 3) := by decide +kernel
theorem d_KReader_goThrough_9 : decode b_KReader_goThrough 9 = .ok (.aload_n 0, 1) := by decide +kernel
theorem d_KReader_goThrough_10 : decode b_KReader_goThrough 10 = .ok (.getfield 379, 3) := by decide +kernel
theorem d_KReader_goThrough_13 : decode b_KReader_goThrough 13 = .ok (.goto 7, 3) := by decide +kernel
theorem d_KReader_goThrough_16 : decode b_KReader_goThrough 16 = .ok (.aload_n 0, 1) := by decide +kernel
theorem d_KReader_goThrough_17 : decode b_KReader_goThrough 17 = .ok (.getfield 382, 3) := by decide +kernel
theorem d_KReader_goThrough_20 : decode b_KReader_goThrough 20 = .ok (.putfield 382, 3) := by decide +kernel
theorem d_KReader_goThrough_23 : decode b_KReader_goThrough 23 = .ok (.aload_n 0, 1) := by decide +kernel
theorem d_KReader_goThrough_24 : decode b_KReader_goThrough 24 = .ok (.iload_n 2, 1) := by decide +kernel
theorem d_KReader_goThrough_25 : decode b_KReader_goThrough 25 = .ok (.putfield 379, 3) := by decide +kernel
theorem d_KReader_goThrough_28 : decode b_KReader_goThrough 28 = .ok (.aload_n 0, 1) := by decide +kernel
theorem d_KReader_goThrough_29 : decode b_KReader_goThrough 29 = .ok (.getfield 75, 3) := by decide +kernel
theorem d_KReader_goThrough_32 : decode b_KReader_goThrough 32 = .ok (.iload_n 1, 1) := by decide +kernel
theorem d_KReader_goThrough_33 : decode b_KReader_goThrough 33 = .ok (.iconst 1, 1) := by decide +kernel
theorem d_KReader_goThrough_34 : decode b_KReader_goThrough 34 = .ok (.bastore, 1) := by decide +kernel
theorem d_KReader_goThrough_35 : decode b_KReader_goThrough 35 = .ok (.aload_n 0, 1) := by decide +kernel
theorem d_KReader_goThrough_36 : decode b_KReader_goThrough 36 = .ok (.aload_n 0, 1) := by decide +kernel
theorem d_KReader_goThrough_37 : decode b_KReader_goThrough 37 = .ok (.getfield 69, 3) := by decide +kernel
theorem d_KReader_goThrough_40 : decode b_KReader_goThrough 40 = .ok (.iload_n 1, 1) := by decide +kernel
theorem d_KReader_goThrough_41 : decode b_KReader_goThrough 41 = .ok (.iaload, 1) := by decide +kernel
theorem d_KReader_goThrough_42 : decode b_KReader_goThrough 42 = .ok (.aload_n 0, 1) := by decide +kernel
theorem d_KReader_goThrough_43 : decode b_KReader_goThrough 43 = .ok (.getfield 69, 3) := by decide +kernel
theorem d_KReader_goThrough_46 : decode b_KReader_goThrough 46 = .ok (.iload_n 1, 1) := by decide +kernel
theorem d_KReader_goThrough_47 : decode b_KReader_goThrough 47 = .ok (.iaload, 1) := by decide +kernel
theorem d_KReader_goThrough_48 : decode b_KReader_goThrough 48 = .ok (.aload_n 0, 1) := by decide +kernel
theorem d_KReader_goThrough_49 : decode b_KReader_goThrough 49 = .ok (.getfield 72, 3) := by decide +kernel
theorem d_KReader_goThrough_52 : decode b_KReader_goThrough 52 = .ok (.iload_n 1, 1) := by decide +kernel
theorem d_KReader_goThrough_53 : decode b_KReader_goThrough 53 = .ok (.iaload, 1) := by decide +kernel
theorem d_KReader_goThrough_54 : decode b_KReader_goThrough 54 = .ok (.iadd, 1) := by decide +kernel
theorem d_KReader_goThrough_55 : decode b_KReader_goThrough 55 = .ok (.iload_n 1, 1) := by decide +kernel
theorem d_KReader_goThrough_56 : decode b_KReader_goThrough 56 = .ok (.invokevirtual 370, 3) := by decide +kernel
theorem d_KReader_goThrough_59 : decode b_KReader_goThrough 59 = .ok (.return_, 1) := by decide +kernel
/-- KReader_goThrough -/
def w_KReader_goThrough (L : Nat → Nat) (a1 : Int) (a2 : Int) (Q : IS → Prop) (σ : IS) : Prop := inL L 186 a1 ∧ inL L 184 a1 ∧ inL L 184 a1 ∧ inL L 185 a1 ∧ inR ((σ.2 184 (Int.toNat a1)) + (σ.2 185 (Int.toNat a1))) ∧ w_KReader_push L (σ.2 184 (Int.toNat a1)) ((σ.2 184 (Int.toNat a1)) + (σ.2 185 (Int.toNat a1))) a1 (fun σ1 => Q σ1) (pr (pf (pf σ 16 18 (if (σ.1 16 14) = 1 then (σ.1 16 16) else (σ.1 16 18))) 16 16 a2) 186 (Int.toNat a1) 1)
set_option maxHeartbeats 4000000 in
set_option maxRecDepth 20000 in
theorem s_KReader_goThrough {L : Nat → Nat} (hL : ∀ r, L r < 2147483648) {d : Nat} (hd : 1 ≤ d) {a1 : Int} {a2 : Int} {Q : IS → Prop} {σ : IS}  (h : w_KReader_goThrough L a1 a2 Q σ) : OkI BF L d 15 b_KReader_goThrough 3 0 0 [] [some (.inr 16), some (.inl a1), some (.inl a2)] σ (qv Q) := by
  unfold w_KReader_goThrough at h
  obtain ⟨d, rfl⟩ : ∃ e, d = e + 1 := ⟨d - 1, by omega⟩
  refine k_sb (lv' := [some (.inr 16), some (.inl a1), some (.inl a2)]) (sb_s (sb_s (sb_s sb_nil))) ?_
  refine k_aload_n d_KReader_goThrough_0 rfl ?_
  refine k_aload_n d_KReader_goThrough_1 rfl ?_
  refine k_getI (x := (σ.1 16 14)) d_KReader_goThrough_2 fl_15_175 ob_16 rfl rfl ?_
  refine k_iconst d_KReader_goThrough_5 cI_1 ?_
  have hV8 : OkI BF L (d + 1) 15 b_KReader_goThrough 3 0 20 [.inl (if (σ.1 16 14) = 1 then (σ.1 16 16) else (σ.1 16 18)), .inr 16] [some (.inr 16), some (.inl a1), some (.inl a2)] σ (qv Q) := by
    refine k_putI d_KReader_goThrough_20 fl_15_382 ob_16 rfl ?_
    refine k_aload_n d_KReader_goThrough_23 rfl ?_
    refine k_iload_n d_KReader_goThrough_24 rfl ?_
    refine k_putI d_KReader_goThrough_25 fl_15_379 ob_16 rfl ?_
    refine k_aload_n d_KReader_goThrough_28 rfl ?_
    refine k_getR d_KReader_goThrough_29 fl_15_75 ob_16 rfl ?_
    refine k_iload_n d_KReader_goThrough_32 rfl ?_
    refine k_iconst d_KReader_goThrough_33 cI_1 ?_
    obtain ⟨p7, h⟩ := h
    refine k_zst d_KReader_goThrough_34 rz_186 p7 (Or.inr rfl) ?_
    refine k_aload_n d_KReader_goThrough_35 rfl ?_
    refine k_aload_n d_KReader_goThrough_36 rfl ?_
    refine k_getR d_KReader_goThrough_37 fl_15_69 ob_16 rfl ?_
    refine k_iload_n d_KReader_goThrough_40 rfl ?_
    obtain ⟨p6, h⟩ := h
    refine k_ild (x := (σ.2 184 (Int.toNat a1))) d_KReader_goThrough_41 rI_184 p6 rfl ?_
    refine k_aload_n d_KReader_goThrough_42 rfl ?_
    refine k_getR d_KReader_goThrough_43 fl_15_69 ob_16 rfl ?_
    refine k_iload_n d_KReader_goThrough_46 rfl ?_
    obtain ⟨p5, h⟩ := h
    refine k_ild (x := (σ.2 184 (Int.toNat a1))) d_KReader_goThrough_47 rI_184 p5 rfl ?_
    refine k_aload_n d_KReader_goThrough_48 rfl ?_
    refine k_getR d_KReader_goThrough_49 fl_15_72 ob_16 rfl ?_
    refine k_iload_n d_KReader_goThrough_52 rfl ?_
    obtain ⟨p4, h⟩ := h
    refine k_ild (x := (σ.2 185 (Int.toNat a1))) d_KReader_goThrough_53 rI_185 p4 rfl ?_
    obtain ⟨p3, h⟩ := h
    refine k_iadd d_KReader_goThrough_54 p3 ?_
    refine k_iload_n d_KReader_goThrough_55 rfl ?_
    refine k_cvv [.inl (σ.2 184 (Int.toNat a1)), .inl ((σ.2 184 (Int.toNat a1)) + (σ.2 185 (Int.toNat a1))), .inl a1] d_KReader_goThrough_56 ml_15_370 rfl rfl ob_16 rfl (s_KReader_push hL (by omega)  h) (fun σ1 h => ?_)
    exact k_ret d_KReader_goThrough_59 h
  refine k_icne d_KReader_goThrough_6 rfl (fun c9 => ?_) (fun c9 => ?_)
  · have hV11 := k_eqI (if_neg c9) hV8
    refine k_aload_n d_KReader_goThrough_16 rfl ?_
    refine k_getI (x := (σ.1 16 18)) d_KReader_goThrough_17 fl_15_382 ob_16 rfl rfl ?_
    exact hV11
  · have hV10 := k_eqI (if_pos c9) hV8
    refine k_aload_n d_KReader_goThrough_9 rfl ?_
    refine k_getI (x := (σ.1 16 16)) d_KReader_goThrough_10 fl_15_379 ob_16 rfl rfl ?_
    refine k_goto d_KReader_goThrough_13 rfl ?_
    exact hV10
theorem d_KReader_parameterReference_0 : decode b_KReader_parameterReference 0 = .ok (.aload_n 0, 1) := by decide +kernel
theorem d_KReader_parameterReference_1 : decode b_KReader_parameterReference 1 = .ok (.aload_n 0, 1) := by decide +kernel
theorem d_KReader_parameterReference_2 : decode b_KReader_parameterReference 2 = .ok (.getfield 379, 3) := by decide +kernel
theorem d_KReader_parameterReference_5 : decode b_KReader_parameterReference 5 = .ok (.iconst 1, 1) := by decide +kernel
theorem d_KReader_parameterReference_6 : decode b_KReader_parameterReference 6 = .ok (.iadd, 1) := by decide +kernel
theorem d_KReader_parameterReference_7 : decode b_KReader_parameterReference 7 = .ok (.invokevirtual 341, 3) := by decide +kernel
theorem d_KReader_parameterReference_10 : decode b_KReader_parameterReference 10 = .ok (.istore_n 1, 1) := by decide +kernel
theorem d_KReader_parameterReference_11 : decode b_KReader_parameterReference 11 = .ok (.aload_n 0, 1) := by decide +kernel
theorem d_KReader_parameterReference_12 : decode b_KReader_parameterReference 12 = .ok (.iload_n 1, 1) := by decide +kernel
theorem d_KReader_parameterReference_13 : decode b_KReader_parameterReference 13 = .ok (.ldc_w 344, 3) := by decide +kernel
theorem d_KReader_parameterReference_16 : decode b_KReader_parameterReference 16 = .ok (.invokevirtual 329, 3) := by decide +kernel
theorem d_KReader_parameterReference_19 : decode b_KReader_parameterReference 19 = .ok (.istore_n 2, 1) := by decide +kernel
theorem d_KReader_parameterReference_20 : decode b_KReader_parameterReference 20 = .ok (.aload_n 0, 1) := by decide +kernel
theorem d_KReader_parameterReference_21 : decode b_KReader_parameterReference 21 = .ok (.iload_n 2, 1) := by decide +kernel
theorem d_KReader_parameterReference_22 : decode b_KReader_parameterReference 22 = .ok (.invokevirtual 437, 3) := by decide +kernel
theorem d_KReader_parameterReference_25 : decode b_KReader_parameterReference 25 = .ok (.ifCond .ne 4, 3) := by decide +kernel
theorem d_KReader_parameterReference_28 : decode b_KReader_parameterReference 28 = .ok (.return_, 1) := by decide +kernel
theorem d_KReader_parameterReference_29 : decode b_KReader_parameterReference 29 = .ok (.aload_n 0, 1) := by decide +kernel
theorem d_KReader_parameterReference_30 : decode b_KReader_parameterReference 30 = .ok (.aload_n 0, 1) := by decide +kernel
theorem d_KReader_parameterReference_31 : decode b_KReader_parameterReference 31 = .ok (.getfield 150, 3) := by decide +kernel
theorem d_KReader_parameterReference_34 : decode b_KReader_parameterReference 34 = .ok (.getfield 227, 3) := by decide +kernel
theorem d_KReader_parameterReference_37 : decode b_KReader_parameterReference 37 = .ok (.aload_n 0, 1) := by decide +kernel
theorem d_KReader_parameterReference_38 : decode b_KReader_parameterReference 38 = .ok (.getfield 45, 3) := by decide +kernel
theorem d_KReader_parameterReference_41 : decode b_KReader_parameterReference 41 = .ok (.aload_n 0, 1) := by decide +kernel
theorem d_KReader_parameterReference_42 : decode b_KReader_parameterReference 42 = .ok (.getfield 379, 3) := by decide +kernel
theorem d_KReader_parameterReference_45 : decode b_KReader_parameterReference 45 = .ok (.iconst 1, 1) := by decide +kernel
theorem d_KReader_parameterReference_46 : decode b_KReader_parameterReference 46 = .ok (.iadd, 1) := by decide +kernel
theorem d_KReader_parameterReference_47 : decode b_KReader_parameterReference 47 = .ok (.iload_n 1, 1) := by decide +kernel
theorem d_KReader_parameterReference_48 : decode b_KReader_parameterReference 48 = .ok (.aload_n 0, 1) := by decide +kernel
theorem d_KReader_parameterReference_49 : decode b_KReader_parameterReference 49 = .ok (.getfield 379, 3) := by decide +kernel
theorem d_KReader_parameterReference_52 : decode b_KReader_parameterReference 52 = .ok (.isub, 1) := by decide +kernel
theorem d_KReader_parameterReference_53 : decode b_KReader_parameterReference 53 = .ok (.iconst 1, 1) := by decide +kernel
theorem d_KReader_parameterReference_54 : decode b_KReader_parameterReference 54 = .ok (.isub, 1) := by decide +kernel
theorem d_KReader_parameterReference_55 : decode b_KReader_parameterReference 55 = .ok (.invokevirtual 529, 3) := by decide +kernel
theorem d_KReader_parameterReference_58 : decode b_KReader_parameterReference 58 = .ok (.iconst 1, 1) := by decide +kernel
theorem d_KReader_parameterReference_59 : decode b_KReader_parameterReference 59 = .ok (.invokevirtual 532, 3) := by decide +kernel
theorem d_KReader_parameterReference_62 : decode b_KReader_parameterReference 62 = .ok (.istore_n 3, 1) := by decide +kernel
theorem d_KReader_parameterReference_63 : decode b_KReader_parameterReference 63 = .ok (.iload_n 3, 1) := by decide +kernel
theorem d_KReader_parameterReference_64 : decode b_KReader_parameterReference 64 = .ok (.ifCond .ge 11, 3) := by decide +kernel
theorem d_KReader_parameterReference_67 : decode b_KReader_parameterReference 67 = .ok (.aload_n 0, 1) := by decide +kernel
theorem d_KReader_parameterReference_68 : decode b_KReader_parameterReference 68 = .ok (.bipush 9, 2) := by decide +kernel
theorem d_KReader_parameterReference_70 : decode b_KReader_parameterReference 70 = .ok (.invokevirtual 392, 3) := by decide +kernel
theorem d_KReader_parameterReference_73 : decode b_KReader_parameterReference 73 = .ok (.pop, 1) := by decide +kernel
theorem d_KReader_parameterReference_74 : decode b_KReader_parameterReference 74 = .ok (.return_, 1) := by decide +kernel
theorem d_KReader_parameterReference_75 : decode b_KReader_parameterReference 75 = .ok (.aload_n 0, 1) := by decide +kernel
theorem d_KReader_parameterReference_76 : decode b_KReader_parameterReference 76 = .ok (.iload_n 3, 1) := by decide +kernel
theorem d_KReader_parameterReference_77 : decode b_KReader_parameterReference 77 = .ok (.invokevirtual 535, 3) := by decide +kernel
theorem d_KReader_parameterReference_80 : decode b_KReader_parameterReference 80 = .ok (.ifCond .ne 4, 3) := by decide +kernel
theorem d_KReader_parameterReference_83 : decode b_KReader_parameterReference 83 = .ok (.return_, 1) := by decide +kernel
theorem d_KReader_parameterReference_84 : decode b_KReader_parameterReference 84 = .ok (.aload_n 0, 1) := by decide +kernel
theorem d_KReader_parameterReference_85 : decode b_KReader_parameterReference 85 = .ok (.iconst 1, 1) := by decide +kernel
theorem d_KReader_parameterReference_86 : decode b_KReader_parameterReference 86 = .ok (.putfield 191, 3) := by decide +kernel
theorem d_KReader_parameterReference_89 : decode b_KReader_parameterReference 89 = .ok (.aload_n 0, 1) := by decide +kernel
theorem d_KReader_parameterReference_90 : decode b_KReader_parameterReference 90 = .ok (.iload_n 3, 1) := by decide +kernel
theorem d_KReader_parameterReference_91 : decode b_KReader_parameterReference 91 = .ok (.iload_n 2, 1) := by decide +kernel
theorem d_KReader_parameterReference_92 : decode b_KReader_parameterReference 92 = .ok (.invokevirtual 538, 3) := by decide +kernel
theorem d_KReader_parameterReference_95 : decode b_KReader_parameterReference 95 = .ok (.return_, 1) := by decide +kernel
/-- KReader_parameterReference -/
def w_KReader_parameterReference (L : Nat → Nat)  (Q : IS → Prop) (σ : IS) : Prop := inR ((σ.1 16 16) + 1) ∧ w_KReader_name L ((σ.1 16 16) + 1) (fun v2 σ1 => w_KReader_word L v2 1100 (fun v4 σ3 => w_KReader_written L v4 (fun v6 σ5 => if v6 = 0 then Q σ5 else dyD (σ5.1 16 2) ∧ inR ((σ5.1 16 16) + 1) ∧ inR (v2 - (σ5.1 16 16)) ∧ inR ((v2 - (σ5.1 16 16)) - 1) ∧ w_KBook_find L 176 ((σ5.1 16 16) + 1) ((v2 - (σ5.1 16 16)) - 1) (fun v10 σ9 => w_KReader_entityOf L v10 1 (fun v12 σ11 => if v12 < 0 then w_KReader_fail L 9 (fun v20 σ19 => Q σ19) σ11 else w_KReader_fits L v12 (fun v15 σ14 => if v15 = 0 then Q σ14 else w_KReader_goThrough L v12 v4 (fun σ17 => Q σ17) (pf σ14 16 22 1)) σ11) σ9) σ5) σ3) σ1) σ
set_option maxHeartbeats 4000000 in
set_option maxRecDepth 20000 in
theorem s_KReader_parameterReference {L : Nat → Nat} (hL : ∀ r, L r < 2147483648) {d : Nat} (hd : 5 ≤ d)  {Q : IS → Prop} {σ : IS}  (h : w_KReader_parameterReference L  Q σ) : OkI BF L d 15 b_KReader_parameterReference 4 0 0 [] [some (.inr 16)] σ (qv Q) := by
  unfold w_KReader_parameterReference at h
  obtain ⟨d, rfl⟩ : ∃ e, d = e + 1 := ⟨d - 1, by omega⟩
  refine k_sb (lv' := [some (.inr 16), none, none, none]) (sb_s (sb_e (sb_e (sb_e sb_nil)))) ?_
  refine k_aload_n d_KReader_parameterReference_0 rfl ?_
  refine k_aload_n d_KReader_parameterReference_1 rfl ?_
  refine k_getI (x := (σ.1 16 16)) d_KReader_parameterReference_2 fl_15_379 ob_16 rfl rfl ?_
  refine k_iconst d_KReader_parameterReference_5 cI_1 ?_
  obtain ⟨p24, h⟩ := h
  refine k_iadd d_KReader_parameterReference_6 p24 ?_
  refine k_cvi [.inl ((σ.1 16 16) + 1)] d_KReader_parameterReference_7 ml_15_341 rfl rfl ob_16 rfl (s_KReader_name hL (by omega)  h) (fun v2 σ1 h => ?_)
  refine k_istore_n (lv' := [some (.inr 16), some (.inl v2), none, none]) d_KReader_parameterReference_10 rfl rfl ?_
  refine k_aload_n d_KReader_parameterReference_11 rfl ?_
  refine k_iload_n d_KReader_parameterReference_12 rfl ?_
  refine k_ldcw d_KReader_parameterReference_13 ks_15_344 rfl ?_
  refine k_cvi [.inl v2, .inr 1100] d_KReader_parameterReference_16 ml_15_329 rfl rfl ob_16 rfl (s_KReader_word hL (by omega) it_1100 h) (fun v4 σ3 h => ?_)
  refine k_istore_n (lv' := [some (.inr 16), some (.inl v2), some (.inl v4), none]) d_KReader_parameterReference_19 rfl rfl ?_
  refine k_aload_n d_KReader_parameterReference_20 rfl ?_
  refine k_iload_n d_KReader_parameterReference_21 rfl ?_
  refine k_cvi [.inl v4] d_KReader_parameterReference_22 ml_15_437 rfl rfl ob_16 rfl (s_KReader_written hL (by omega)  h) (fun v6 σ5 h => ?_)
  refine k_ifne d_KReader_parameterReference_25 rfl (fun c7 => ?_) (fun c7 => ?_)
  · have h := ineg c7 h
    refine k_aload_n d_KReader_parameterReference_29 rfl ?_
    refine k_aload_n d_KReader_parameterReference_30 rfl ?_
    obtain ⟨y8, h⟩ := h
    refine k_getD (x := (σ5.1 16 2)) d_KReader_parameterReference_31 fl_15_150 ob_16 rfl rfl (dyD_pos y8) ?_
    refine k_getR d_KReader_parameterReference_34 fl_15_227 (doc_ob (dyD_doc y8)) (dfr_0 (dyD_doc y8)) ?_
    refine k_aload_n d_KReader_parameterReference_37 rfl ?_
    refine k_getR d_KReader_parameterReference_38 fl_15_45 ob_16 rfl ?_
    refine k_aload_n d_KReader_parameterReference_41 rfl ?_
    refine k_getI (x := (σ5.1 16 16)) d_KReader_parameterReference_42 fl_15_379 ob_16 rfl rfl ?_
    refine k_iconst d_KReader_parameterReference_45 cI_1 ?_
    obtain ⟨p23, h⟩ := h
    refine k_iadd d_KReader_parameterReference_46 p23 ?_
    refine k_iload_n d_KReader_parameterReference_47 rfl ?_
    refine k_aload_n d_KReader_parameterReference_48 rfl ?_
    refine k_getI (x := (σ5.1 16 16)) d_KReader_parameterReference_49 fl_15_379 ob_16 rfl rfl ?_
    obtain ⟨p22, h⟩ := h
    refine k_isub d_KReader_parameterReference_52 p22 ?_
    refine k_iconst d_KReader_parameterReference_53 cI_1 ?_
    obtain ⟨p21, h⟩ := h
    refine k_isub d_KReader_parameterReference_54 p21 ?_
    refine k_cvi [.inr 176, .inl ((σ5.1 16 16) + 1), .inl ((v2 - (σ5.1 16 16)) - 1)] d_KReader_parameterReference_55 ml_15_529 rfl rfl ob_13 rfl (s_KBook_find hL (by omega) rI_176 h) (fun v10 σ9 h => ?_)
    refine k_iconst d_KReader_parameterReference_58 cI_1 ?_
    refine k_cvi [.inl v10, .inl 1] d_KReader_parameterReference_59 ml_15_532 rfl rfl ob_16 rfl (s_KReader_entityOf hL (by omega)  h) (fun v12 σ11 h => ?_)
    refine k_istore_n (lv' := [some (.inr 16), some (.inl v2), some (.inl v4), some (.inl v12)]) d_KReader_parameterReference_62 rfl rfl ?_
    refine k_iload_n d_KReader_parameterReference_63 rfl ?_
    refine k_ifge d_KReader_parameterReference_64 rfl (fun c13 => ?_) (fun c13 => ?_)
    · have h := ineg c13 h
      refine k_aload_n d_KReader_parameterReference_75 rfl ?_
      refine k_iload_n d_KReader_parameterReference_76 rfl ?_
      refine k_cvi [.inl v12] d_KReader_parameterReference_77 ml_15_535 rfl rfl ob_16 rfl (s_KReader_fits hL (by omega)  h) (fun v15 σ14 h => ?_)
      refine k_ifne d_KReader_parameterReference_80 rfl (fun c16 => ?_) (fun c16 => ?_)
      · have h := ineg c16 h
        refine k_aload_n d_KReader_parameterReference_84 rfl ?_
        refine k_iconst d_KReader_parameterReference_85 cI_1 ?_
        refine k_putZ d_KReader_parameterReference_86 fl_15_191 ob_16 rfl (Or.inr rfl) ?_
        refine k_aload_n d_KReader_parameterReference_89 rfl ?_
        refine k_iload_n d_KReader_parameterReference_90 rfl ?_
        refine k_iload_n d_KReader_parameterReference_91 rfl ?_
        refine k_cvv [.inl v12, .inl v4] d_KReader_parameterReference_92 ml_15_538 rfl rfl ob_16 rfl (s_KReader_goThrough hL (by omega)  h) (fun σ17 h => ?_)
        exact k_ret d_KReader_parameterReference_95 h
      · have h := ipos c16 h
        exact k_ret d_KReader_parameterReference_83 h
    · have h := ipos c13 h
      refine k_aload_n d_KReader_parameterReference_67 rfl ?_
      refine k_bipush d_KReader_parameterReference_68 cB_9 ?_
      refine k_cvi [.inl 9] d_KReader_parameterReference_70 ml_15_392 rfl rfl ob_16 rfl (s_KReader_fail hL (by omega)  h) (fun v20 σ19 h => ?_)
      refine k_pop d_KReader_parameterReference_73 ?_
      exact k_ret d_KReader_parameterReference_74 h
  · have h := ipos c7 h
    exact k_ret d_KReader_parameterReference_28 h
theorem d_KReader_list_0 : decode b_KReader_list 0 = .ok (.aload_n 0, 1) := by decide +kernel
theorem d_KReader_list_1 : decode b_KReader_list 1 = .ok (.getfield 138, 3) := by decide +kernel
theorem d_KReader_list_4 : decode b_KReader_list 4 = .ok (.aload_n 0, 1) := by decide +kernel
theorem d_KReader_list_5 : decode b_KReader_list 5 = .ok (.getfield 218, 3) := by decide +kernel
theorem d_KReader_list_8 : decode b_KReader_list 8 = .ok (.aload_n 0, 1) := by decide +kernel
theorem d_KReader_list_9 : decode b_KReader_list 9 = .ok (.iload_n 1, 1) := by decide +kernel
theorem d_KReader_list_10 : decode b_KReader_list 10 = .ok (.iload_n 2, 1) := by decide +kernel
theorem d_KReader_list_11 : decode b_KReader_list 11 = .ok (.iload_n 1, 1) := by decide +kernel
theorem d_KReader_list_12 : decode b_KReader_list 12 = .ok (.isub, 1) := by decide +kernel
theorem d_KReader_list_13 : decode b_KReader_list 13 = .ok (.invokevirtual 470, 3) := by decide +kernel
theorem d_KReader_list_16 : decode b_KReader_list 16 = .ok (.iastore, 1) := by decide +kernel
theorem d_KReader_list_17 : decode b_KReader_list 17 = .ok (.aload_n 0, 1) := by decide +kernel
theorem d_KReader_list_18 : decode b_KReader_list 18 = .ok (.dup, 1) := by decide +kernel
theorem d_KReader_list_19 : decode b_KReader_list 19 = .ok (.getfield 218, 3) := by decide +kernel
theorem d_KReader_list_22 : decode b_KReader_list 22 = .ok (.iconst 1, 1) := by decide +kernel
theorem d_KReader_list_23 : decode b_KReader_list 23 = .ok (.iadd, 1) := by decide +kernel
theorem d_KReader_list_24 : decode b_KReader_list 24 = .ok (.putfield 218, 3) := by decide +kernel
theorem d_KReader_list_27 : decode b_KReader_list 27 = .ok (.return_, 1) := by decide +kernel
/-- KReader_list -/
def w_KReader_list (L : Nat → Nat) (a1 : Int) (a2 : Int) (Q : IS → Prop) (σ : IS) : Prop := inR (a2 - a1) ∧ w_KReader_keep L a1 (a2 - a1) (fun v2 σ1 => inL L 207 (σ.1 16 58) ∧ inR ((σ1.1 16 58) + 1) ∧ Q (pf (pr σ1 207 (Int.toNat (σ.1 16 58)) v2) 16 58 ((σ1.1 16 58) + 1))) σ
set_option maxHeartbeats 4000000 in
set_option maxRecDepth 20000 in
theorem s_KReader_list {L : Nat → Nat} (hL : ∀ r, L r < 2147483648) {d : Nat} (hd : 4 ≤ d) {a1 : Int} {a2 : Int} {Q : IS → Prop} {σ : IS}  (h : w_KReader_list L a1 a2 Q σ) : OkI BF L d 15 b_KReader_list 3 0 0 [] [some (.inr 16), some (.inl a1), some (.inl a2)] σ (qv Q) := by
  unfold w_KReader_list at h
  obtain ⟨d, rfl⟩ : ∃ e, d = e + 1 := ⟨d - 1, by omega⟩
  refine k_sb (lv' := [some (.inr 16), some (.inl a1), some (.inl a2)]) (sb_s (sb_s (sb_s sb_nil))) ?_
  refine k_aload_n d_KReader_list_0 rfl ?_
  refine k_getR d_KReader_list_1 fl_15_138 ob_16 rfl ?_
  refine k_aload_n d_KReader_list_4 rfl ?_
  refine k_getI (x := (σ.1 16 58)) d_KReader_list_5 fl_15_218 ob_16 rfl rfl ?_
  refine k_aload_n d_KReader_list_8 rfl ?_
  refine k_iload_n d_KReader_list_9 rfl ?_
  refine k_iload_n d_KReader_list_10 rfl ?_
  refine k_iload_n d_KReader_list_11 rfl ?_
  obtain ⟨p5, h⟩ := h
  refine k_isub d_KReader_list_12 p5 ?_
  refine k_cvi [.inl a1, .inl (a2 - a1)] d_KReader_list_13 ml_15_470 rfl rfl ob_16 rfl (s_KReader_keep hL (by omega)  h) (fun v2 σ1 h => ?_)
  obtain ⟨p4, h⟩ := h
  refine k_ist d_KReader_list_16 rI_207 p4 ?_
  refine k_aload_n d_KReader_list_17 rfl ?_
  refine k_dup d_KReader_list_18 ?_
  refine k_getI (x := (σ1.1 16 58)) d_KReader_list_19 fl_15_218 ob_16 rfl rfl ?_
  refine k_iconst d_KReader_list_22 cI_1 ?_
  obtain ⟨p3, h⟩ := h
  refine k_iadd d_KReader_list_23 p3 ?_
  refine k_putI d_KReader_list_24 fl_15_218 ob_16 rfl ?_
  exact k_ret d_KReader_list_27 h
theorem d_KReader_mixed_0 : decode b_KReader_mixed 0 = .ok (.aload_n 0, 1) := by decide +kernel
theorem d_KReader_mixed_1 : decode b_KReader_mixed 1 = .ok (.aload_n 0, 1) := by decide +kernel
theorem d_KReader_mixed_2 : decode b_KReader_mixed 2 = .ok (.aload_n 0, 1) := by decide +kernel
theorem d_KReader_mixed_3 : decode b_KReader_mixed 3 = .ok (.iload_n 1, 1) := by decide +kernel
theorem d_KReader_mixed_4 : decode b_KReader_mixed 4 = .ok (.ldc_w 573, 3) := by decide +kernel
theorem d_KReader_mixed_7 : decode b_KReader_mixed 7 = .ok (.invokevirtual 329, 3) := by decide +kernel
theorem d_KReader_mixed_10 : decode b_KReader_mixed 10 = .ok (.invokevirtual 297, 3) := by decide +kernel
theorem d_KReader_mixed_13 : decode b_KReader_mixed 13 = .ok (.ldc_w 575, 3) := by decide +kernel
theorem d_KReader_mixed_16 : decode b_KReader_mixed 16 = .ok (.invokevirtual 329, 3) := by decide +kernel
theorem d_KReader_mixed_19 : decode b_KReader_mixed 19 = .ok (.istore_n 2, 1) := by decide +kernel
theorem d_KReader_mixed_20 : decode b_KReader_mixed 20 = .ok (.iload_n 2, 1) := by decide +kernel
theorem d_KReader_mixed_21 : decode b_KReader_mixed 21 = .ok (.ifCond .ge 5, 3) := by decide +kernel
theorem d_KReader_mixed_24 : decode b_KReader_mixed 24 = .ok (.iconst (-1), 1) := by decide +kernel
theorem d_KReader_mixed_25 : decode b_KReader_mixed 25 = .ok (.ireturn, 1) := by decide +kernel
theorem d_KReader_mixed_26 : decode b_KReader_mixed 26 = .ok (.iconst 0, 1) := by decide +kernel
theorem d_KReader_mixed_27 : decode b_KReader_mixed 27 = .ok (.istore_n 3, 1) := by decide +kernel
theorem d_KReader_mixed_28 : decode b_KReader_mixed 28 = .ok (.aload_n 0, 1) := by decide +kernel
theorem d_KReader_mixed_29 : decode b_KReader_mixed 29 = .ok (.aload_n 0, 1) := by decide +kernel
theorem d_KReader_mixed_30 : decode b_KReader_mixed 30 = .ok (.iload_n 2, 1) := by decide +kernel
theorem d_KReader_mixed_31 : decode b_KReader_mixed 31 = .ok (.invokevirtual 297, 3) := by decide +kernel
theorem d_KReader_mixed_34 : decode b_KReader_mixed 34 = .ok (.ldc_w 577, 3) := by decide +kernel
theorem d_KReader_mixed_37 : decode b_KReader_mixed 37 = .ok (.invokevirtual 329, 3) := by decide +kernel
theorem d_KReader_mixed_40 : decode b_KReader_mixed 40 = .ok (.istore 4, 2) := by decide +kernel
theorem d_KReader_mixed_42 : decode b_KReader_mixed 42 = .ok (.iload 4, 2) := by decide +kernel
theorem d_KReader_mixed_44 : decode b_KReader_mixed 44 = .ok (.ifCond .lt 51, 3) := by decide +kernel
theorem d_KReader_mixed_47 : decode b_KReader_mixed 47 = .ok (.aload_n 0, 1) := by decide +kernel
theorem d_KReader_mixed_48 : decode b_KReader_mixed 48 = .ok (.iload 4, 2) := by decide +kernel
theorem d_KReader_mixed_50 : decode b_KReader_mixed 50 = .ok (.invokevirtual 297, 3) := by decide +kernel
theorem d_KReader_mixed_53 : decode b_KReader_mixed 53 = .ok (.istore 5, 2) := by decide +kernel
theorem d_KReader_mixed_55 : decode b_KReader_mixed 55 = .ok (.aload_n 0, 1) := by decide +kernel
theorem d_KReader_mixed_56 : decode b_KReader_mixed 56 = .ok (.iload 5, 2) := by decide +kernel
theorem d_KReader_mixed_58 : decode b_KReader_mixed 58 = .ok (.invokevirtual 341, 3) := by decide +kernel
theorem d_KReader_mixed_61 : decode b_KReader_mixed 61 = .ok (.istore_n 2, 1) := by decide +kernel
theorem d_KReader_mixed_62 : decode b_KReader_mixed 62 = .ok (.iload_n 2, 1) := by decide +kernel
theorem d_KReader_mixed_63 : decode b_KReader_mixed 63 = .ok (.ifCond .ge 5, 3) := by decide +kernel
theorem d_KReader_mixed_66 : decode b_KReader_mixed 66 = .ok (.iconst (-1), 1) := by decide +kernel
theorem d_KReader_mixed_67 : decode b_KReader_mixed 67 = .ok (.ireturn, 1) := by decide +kernel
theorem d_KReader_mixed_68 : decode b_KReader_mixed 68 = .ok (.aload_n 0, 1) := by decide +kernel
theorem d_KReader_mixed_69 : decode b_KReader_mixed 69 = .ok (.iload 5, 2) := by decide +kernel
theorem d_KReader_mixed_71 : decode b_KReader_mixed 71 = .ok (.iload_n 2, 1) := by decide +kernel
theorem d_KReader_mixed_72 : decode b_KReader_mixed 72 = .ok (.invokevirtual 579, 3) := by decide +kernel
theorem d_KReader_mixed_75 : decode b_KReader_mixed 75 = .ok (.iinc 3 1, 3) := by decide +kernel
theorem d_KReader_mixed_78 : decode b_KReader_mixed 78 = .ok (.aload_n 0, 1) := by decide +kernel
theorem d_KReader_mixed_79 : decode b_KReader_mixed 79 = .ok (.aload_n 0, 1) := by decide +kernel
theorem d_KReader_mixed_80 : decode b_KReader_mixed 80 = .ok (.iload_n 2, 1) := by decide +kernel
theorem d_KReader_mixed_81 : decode b_KReader_mixed 81 = .ok (.invokevirtual 297, 3) := by decide +kernel
theorem d_KReader_mixed_84 : decode b_KReader_mixed 84 = .ok (.ldc_w 577, 3) := by decide +kernel
theorem d_KReader_mixed_87 : decode b_KReader_mixed 87 = .ok (.invokevirtual 329, 3) := by decide +kernel
theorem d_KReader_mixed_90 : decode b_KReader_mixed 90 = .ok (.istore 4, 2) := by decide +kernel
theorem d_KReader_mixed_92 : decode b_KReader_mixed 92 = .ok (.goto (-50), 3) := by decide +kernel
theorem d_KReader_mixed_95 : decode b_KReader_mixed 95 = .ok (.aload_n 0, 1) := by decide +kernel
theorem d_KReader_mixed_96 : decode b_KReader_mixed 96 = .ok (.aload_n 0, 1) := by decide +kernel
theorem d_KReader_mixed_97 : decode b_KReader_mixed 97 = .ok (.iload_n 2, 1) := by decide +kernel
theorem d_KReader_mixed_98 : decode b_KReader_mixed 98 = .ok (.invokevirtual 297, 3) := by decide +kernel
theorem d_KReader_mixed_101 : decode b_KReader_mixed 101 = .ok (.ldc_w 582, 3) := by decide +kernel
theorem d_KReader_mixed_104 : decode b_KReader_mixed 104 = .ok (.invokevirtual 329, 3) := by decide +kernel
theorem d_KReader_mixed_107 : decode b_KReader_mixed 107 = .ok (.istore_n 2, 1) := by decide +kernel
theorem d_KReader_mixed_108 : decode b_KReader_mixed 108 = .ok (.aload_n 0, 1) := by decide +kernel
theorem d_KReader_mixed_109 : decode b_KReader_mixed 109 = .ok (.iload_n 2, 1) := by decide +kernel
theorem d_KReader_mixed_110 : decode b_KReader_mixed 110 = .ok (.ldc_w 584, 3) := by decide +kernel
theorem d_KReader_mixed_113 : decode b_KReader_mixed 113 = .ok (.invokevirtual 329, 3) := by decide +kernel
theorem d_KReader_mixed_116 : decode b_KReader_mixed 116 = .ok (.istore 5, 2) := by decide +kernel
theorem d_KReader_mixed_118 : decode b_KReader_mixed 118 = .ok (.iload 5, 2) := by decide +kernel
theorem d_KReader_mixed_120 : decode b_KReader_mixed 120 = .ok (.ifCond .lt 8, 3) := by decide +kernel
theorem d_KReader_mixed_123 : decode b_KReader_mixed 123 = .ok (.iload 5, 2) := by decide +kernel
theorem d_KReader_mixed_125 : decode b_KReader_mixed 125 = .ok (.goto 12, 3) := by decide +kernel
theorem d_KReader_mixed_128 : decode b_KReader_mixed 128 = .ok (.iload_n 3, 1) := by decide +kernel
theorem d_KReader_mixed_129 : decode b_KReader_mixed 129 = .ok (.ifCond .ne 7, 3) := by decide +kernel
theorem d_KReader_mixed_132 : decode b_KReader_mixed 132 = .ok (.iload_n 2, 1) := by decide +kernel
theorem d_KReader_mixed_133 : decode b_KReader_mixed 133 = .ok (.goto 4, 3) := by decide +kernel
theorem d_KReader_mixed_136 : decode b_KReader_mixed 136 = .ok (.iconst (-1), 1) := by decide +kernel
theorem d_KReader_mixed_137 : decode b_KReader_mixed 137 = .ok (.ireturn, 1) := by decide +kernel
/-- KReader_mixed -/
def w_KReader_mixed (L : Nat → Nat) (a1 : Int) (Q : Int → IS → Prop) (σ : IS) : Prop := w_KReader_word L a1 1127 (fun v2 σ1 => w_KReader_anySpaces L v2 (fun v4 σ3 => w_KReader_word L v4 1128 (fun v6 σ5 => if v6 < 0 then Q (-1) σ5 else w_KReader_anySpaces L v6 (fun v9 σ8 => w_KReader_word L v9 1129 (fun v11 σ10 => WL (fun (K12 : Int × Int × Int → IS → Prop) (s14 : Int × Int × Int) (σ15 : IS) => if s14.2.2 < 0 then w_KReader_anySpaces L s14.1 (fun v18 σ17 => w_KReader_word L v18 1130 (fun v20 σ19 => w_KReader_word L v20 1131 (fun v22 σ21 => Q (if v22 < 0 then (if s14.2.1 = 0 then v20 else ((-1) : Int)) else v22) σ21) σ19) σ17) σ15 else w_KReader_anySpaces L s14.2.2 (fun v31 σ30 => w_KReader_name L v31 (fun v33 σ32 => if v33 < 0 then Q (-1) σ32 else w_KReader_list L v31 v33 (fun σ35 => inR (s14.2.1 + 1) ∧ w_KReader_anySpaces L v33 (fun v38 σ37 => w_KReader_word L v38 1129 (fun v40 σ39 => K12 (v33, (s14.2.1 + 1), v40) σ39) σ37) σ35) σ32) σ30) σ15) (v6, 0, v11) σ10) σ8) σ5) σ3) σ1) σ
set_option maxHeartbeats 4000000 in
set_option maxRecDepth 20000 in
theorem s_KReader_mixed {L : Nat → Nat} (hL : ∀ r, L r < 2147483648) {d : Nat} (hd : 5 ≤ d) {a1 : Int} {Q : Int → IS → Prop} {σ : IS}  (h : w_KReader_mixed L a1 Q σ) : OkI BF L d 15 b_KReader_mixed 6 1 0 [] [some (.inr 16), some (.inl a1)] σ (qi Q) := by
  unfold w_KReader_mixed at h
  obtain ⟨d, rfl⟩ : ∃ e, d = e + 1 := ⟨d - 1, by omega⟩
  refine k_sb (lv' := [some (.inr 16), some (.inl a1), none, none, none, none]) (sb_s (sb_s (sb_e (sb_e (sb_e (sb_e sb_nil)))))) ?_
  refine k_aload_n d_KReader_mixed_0 rfl ?_
  refine k_aload_n d_KReader_mixed_1 rfl ?_
  refine k_aload_n d_KReader_mixed_2 rfl ?_
  refine k_iload_n d_KReader_mixed_3 rfl ?_
  refine k_ldcw d_KReader_mixed_4 ks_15_573 rfl ?_
  refine k_cvi [.inl a1, .inr 1127] d_KReader_mixed_7 ml_15_329 rfl rfl ob_16 rfl (s_KReader_word hL (by omega) it_1127 h) (fun v2 σ1 h => ?_)
  refine k_cvi [.inl v2] d_KReader_mixed_10 ml_15_297 rfl rfl ob_16 rfl (s_KReader_anySpaces hL (by omega)  h) (fun v4 σ3 h => ?_)
  refine k_ldcw d_KReader_mixed_13 ks_15_575 rfl ?_
  refine k_cvi [.inl v4, .inr 1128] d_KReader_mixed_16 ml_15_329 rfl rfl ob_16 rfl (s_KReader_word hL (by omega) it_1128 h) (fun v6 σ5 h => ?_)
  refine k_istore_n (lv' := [some (.inr 16), some (.inl a1), some (.inl v6), none, none, none]) d_KReader_mixed_19 rfl rfl ?_
  refine k_iload_n d_KReader_mixed_20 rfl ?_
  refine k_ifge d_KReader_mixed_21 rfl (fun c7 => ?_) (fun c7 => ?_)
  · have h := ineg c7 h
    refine k_iconst d_KReader_mixed_26 cI_0 ?_
    refine k_istore_n (lv' := [some (.inr 16), some (.inl a1), some (.inl v6), some (.inl 0), none, none]) d_KReader_mixed_27 rfl rfl ?_
    refine k_aload_n d_KReader_mixed_28 rfl ?_
    refine k_aload_n d_KReader_mixed_29 rfl ?_
    refine k_iload_n d_KReader_mixed_30 rfl ?_
    refine k_cvi [.inl v6] d_KReader_mixed_31 ml_15_297 rfl rfl ob_16 rfl (s_KReader_anySpaces hL (by omega)  h) (fun v9 σ8 h => ?_)
    refine k_ldcw d_KReader_mixed_34 ks_15_577 rfl ?_
    refine k_cvi [.inl v9, .inr 1129] d_KReader_mixed_37 ml_15_329 rfl rfl ob_16 rfl (s_KReader_word hL (by omega) it_1129 h) (fun v11 σ10 h => ?_)
    refine k_istore (lv' := [some (.inr 16), some (.inl a1), some (.inl v6), some (.inl 0), some (.inl v11), none]) d_KReader_mixed_40 rfl rfl ?_
    refine k_sb (lv' := [some (.inr 16), none, some (.inl v6), some (.inl 0), some (.inl v11), none]) (sb_s (sb_n (sb_s (sb_s (sb_s (sb_s sb_nil)))))) ?_
    refine k_loop (S := Int × Int × Int) (st := fun _ => []) (lv := fun s14 => [some (.inr 16), none, some (.inl s14.1), some (.inl s14.2.1), some (.inl s14.2.2), none]) (fun K12 hK13 s14 σ15 h => ?_) (v6, 0, v11) _ h
    refine k_iload d_KReader_mixed_42 rfl ?_
    refine k_iflt d_KReader_mixed_44 rfl (fun c16 => ?_) (fun c16 => ?_)
    · have h := ipos c16 h
      refine k_aload_n d_KReader_mixed_95 rfl ?_
      refine k_aload_n d_KReader_mixed_96 rfl ?_
      refine k_iload_n d_KReader_mixed_97 rfl ?_
      refine k_cvi [.inl s14.1] d_KReader_mixed_98 ml_15_297 rfl rfl ob_16 rfl (s_KReader_anySpaces hL (by omega)  h) (fun v18 σ17 h => ?_)
      refine k_ldcw d_KReader_mixed_101 ks_15_582 rfl ?_
      refine k_cvi [.inl v18, .inr 1130] d_KReader_mixed_104 ml_15_329 rfl rfl ob_16 rfl (s_KReader_word hL (by omega) it_1130 h) (fun v20 σ19 h => ?_)
      refine k_istore_n (lv' := [some (.inr 16), none, some (.inl v20), some (.inl s14.2.1), some (.inl s14.2.2), none]) d_KReader_mixed_107 rfl rfl ?_
      refine k_aload_n d_KReader_mixed_108 rfl ?_
      refine k_iload_n d_KReader_mixed_109 rfl ?_
      refine k_ldcw d_KReader_mixed_110 ks_15_584 rfl ?_
      refine k_cvi [.inl v20, .inr 1131] d_KReader_mixed_113 ml_15_329 rfl rfl ob_16 rfl (s_KReader_word hL (by omega) it_1131 h) (fun v22 σ21 h => ?_)
      refine k_istore (lv' := [some (.inr 16), none, some (.inl v20), some (.inl s14.2.1), some (.inl s14.2.2), some (.inl v22)]) d_KReader_mixed_116 rfl rfl ?_
      refine k_iload d_KReader_mixed_118 rfl ?_
      have hV23 : OkI BF L (d + 1) 15 b_KReader_mixed 6 1 137 [.inl (if v22 < 0 then (if s14.2.1 = 0 then v20 else ((-1) : Int)) else v22)] [some (.inr 16), none, some (.inl v20), some (.inl s14.2.1), some (.inl s14.2.2), some (.inl v22)] σ21 (qi Q) := by
        exact k_iret d_KReader_mixed_137 (Or.inl rfl) h
      refine k_iflt d_KReader_mixed_120 rfl (fun c24 => ?_) (fun c24 => ?_)
      · have hV25 := k_eqI (if_pos c24) hV23
        refine k_iload_n d_KReader_mixed_128 rfl ?_
        refine k_ifne d_KReader_mixed_129 rfl (fun c26 => ?_) (fun c26 => ?_)
        · have hV28 := k_eqI (if_neg c26) hV25
          refine k_iconst d_KReader_mixed_136 cI_m1 ?_
          exact hV28
        · have hV27 := k_eqI (if_pos c26) hV25
          refine k_iload_n d_KReader_mixed_132 rfl ?_
          refine k_goto d_KReader_mixed_133 rfl ?_
          exact hV27
      · have hV29 := k_eqI (if_neg c24) hV23
        refine k_iload d_KReader_mixed_123 rfl ?_
        refine k_goto d_KReader_mixed_125 rfl ?_
        exact hV29
    · have h := ineg c16 h
      refine k_aload_n d_KReader_mixed_47 rfl ?_
      refine k_iload d_KReader_mixed_48 rfl ?_
      refine k_cvi [.inl s14.2.2] d_KReader_mixed_50 ml_15_297 rfl rfl ob_16 rfl (s_KReader_anySpaces hL (by omega)  h) (fun v31 σ30 h => ?_)
      refine k_istore (lv' := [some (.inr 16), none, some (.inl s14.1), some (.inl s14.2.1), some (.inl s14.2.2), some (.inl v31)]) d_KReader_mixed_53 rfl rfl ?_
      refine k_aload_n d_KReader_mixed_55 rfl ?_
      refine k_iload d_KReader_mixed_56 rfl ?_
      refine k_cvi [.inl v31] d_KReader_mixed_58 ml_15_341 rfl rfl ob_16 rfl (s_KReader_name hL (by omega)  h) (fun v33 σ32 h => ?_)
      refine k_istore_n (lv' := [some (.inr 16), none, some (.inl v33), some (.inl s14.2.1), some (.inl s14.2.2), some (.inl v31)]) d_KReader_mixed_61 rfl rfl ?_
      refine k_iload_n d_KReader_mixed_62 rfl ?_
      refine k_ifge d_KReader_mixed_63 rfl (fun c34 => ?_) (fun c34 => ?_)
      · have h := ineg c34 h
        refine k_aload_n d_KReader_mixed_68 rfl ?_
        refine k_iload d_KReader_mixed_69 rfl ?_
        refine k_iload_n d_KReader_mixed_71 rfl ?_
        refine k_cvv [.inl v31, .inl v33] d_KReader_mixed_72 ml_15_579 rfl rfl ob_16 rfl (s_KReader_list hL (by omega)  h) (fun σ35 h => ?_)
        obtain ⟨p41, h⟩ := h
        refine k_iinc (lv' := [some (.inr 16), none, some (.inl v33), some (.inl (s14.2.1 + 1)), some (.inl s14.2.2), some (.inl v31)]) d_KReader_mixed_75 cI_1 rfl rfl p41 rfl ?_
        refine k_aload_n d_KReader_mixed_78 rfl ?_
        refine k_aload_n d_KReader_mixed_79 rfl ?_
        refine k_iload_n d_KReader_mixed_80 rfl ?_
        refine k_cvi [.inl v33] d_KReader_mixed_81 ml_15_297 rfl rfl ob_16 rfl (s_KReader_anySpaces hL (by omega)  h) (fun v38 σ37 h => ?_)
        refine k_ldcw d_KReader_mixed_84 ks_15_577 rfl ?_
        refine k_cvi [.inl v38, .inr 1129] d_KReader_mixed_87 ml_15_329 rfl rfl ob_16 rfl (s_KReader_word hL (by omega) it_1129 h) (fun v40 σ39 h => ?_)
        refine k_istore (lv' := [some (.inr 16), none, some (.inl v33), some (.inl (s14.2.1 + 1)), some (.inl v40), some (.inl v31)]) d_KReader_mixed_90 rfl rfl ?_
        refine k_goto d_KReader_mixed_92 rfl ?_
        exact k_sb (sb_s (sb_s (sb_s (sb_s (sb_s (sb_n sb_nil)))))) (hK13 (v33, (s14.2.1 + 1), v40) _ h)
      · have h := ipos c34 h
        refine k_iconst d_KReader_mixed_66 cI_m1 ?_
        exact k_iret d_KReader_mixed_67 (Or.inl rfl) h
  · have h := ipos c7 h
    refine k_iconst d_KReader_mixed_24 cI_m1 ?_
    exact k_iret d_KReader_mixed_25 (Or.inl rfl) h
theorem d_KReader_often_0 : decode b_KReader_often 0 = .ok (.aload_n 0, 1) := by decide +kernel
theorem d_KReader_often_1 : decode b_KReader_often 1 = .ok (.iload_n 1, 1) := by decide +kernel
theorem d_KReader_often_2 : decode b_KReader_often 2 = .ok (.invokevirtual 282, 3) := by decide +kernel
theorem d_KReader_often_5 : decode b_KReader_often 5 = .ok (.istore_n 2, 1) := by decide +kernel
theorem d_KReader_often_6 : decode b_KReader_often 6 = .ok (.iload_n 2, 1) := by decide +kernel
theorem d_KReader_often_7 : decode b_KReader_often 7 = .ok (.bipush 63, 2) := by decide +kernel
theorem d_KReader_often_9 : decode b_KReader_often 9 = .ok (.if_icmp .eq 15, 3) := by decide +kernel
theorem d_KReader_often_12 : decode b_KReader_often 12 = .ok (.iload_n 2, 1) := by decide +kernel
theorem d_KReader_often_13 : decode b_KReader_often 13 = .ok (.bipush 42, 2) := by decide +kernel
theorem d_KReader_often_15 : decode b_KReader_often 15 = .ok (.if_icmp .eq 9, 3) := by decide +kernel
theorem d_KReader_often_18 : decode b_KReader_often 18 = .ok (.iload_n 2, 1) := by decide +kernel
theorem d_KReader_often_19 : decode b_KReader_often 19 = .ok (.bipush 43, 2) := by decide +kernel
theorem d_KReader_often_21 : decode b_KReader_often 21 = .ok (.if_icmp .ne 9, 3) := by decide +kernel
theorem d_KReader_often_24 : decode b_KReader_often 24 = .ok (.iload_n 1, 1) := by decide +kernel
theorem d_KReader_often_25 : decode b_KReader_often 25 = .ok (.iconst 1, 1) := by decide +kernel
theorem d_KReader_often_26 : decode b_KReader_often 26 = .ok (.iadd, 1) := by decide +kernel
theorem d_KReader_often_27 : decode b_KReader_often 27 = .ok (.goto 4, 3) := by decide +kernel
theorem d_KReader_often_30 : decode b_KReader_often 30 = .ok (.iload_n 1, 1) := by decide +kernel
theorem d_KReader_often_31 : decode b_KReader_often 31 = .ok (.ireturn, 1) := by decide +kernel
/-- KReader_often -/
def w_KReader_often (L : Nat → Nat) (a1 : Int) (Q : Int → IS → Prop) (σ : IS) : Prop := w_KReader_look L a1 (fun v2 σ1 => (((v2 = 63 → inR (a1 + 1)) ∧ (¬ v2 = 63 → ((v2 = 42 → inR (a1 + 1)) ∧ (¬ v2 = 42 → (v2 = 43 → inR (a1 + 1))))))) ∧ Q (if v2 = 63 then (a1 + 1) else (if v2 = 42 then (a1 + 1) else (if v2 = 43 then (a1 + 1) else a1))) σ1) σ
set_option maxHeartbeats 4000000 in
set_option maxRecDepth 20000 in
theorem s_KReader_often {L : Nat → Nat} (hL : ∀ r, L r < 2147483648) {d : Nat} (hd : 1 ≤ d) {a1 : Int} {Q : Int → IS → Prop} {σ : IS}  (h : w_KReader_often L a1 Q σ) : OkI BF L d 15 b_KReader_often 3 1 0 [] [some (.inr 16), some (.inl a1)] σ (qi Q) := by
  unfold w_KReader_often at h
  obtain ⟨d, rfl⟩ : ∃ e, d = e + 1 := ⟨d - 1, by omega⟩
  refine k_sb (lv' := [some (.inr 16), some (.inl a1), none]) (sb_s (sb_s (sb_e sb_nil))) ?_
  refine k_aload_n d_KReader_often_0 rfl ?_
  refine k_iload_n d_KReader_often_1 rfl ?_
  refine k_cvi [.inl a1] d_KReader_often_2 ml_15_282 rfl rfl ob_16 rfl (s_KReader_look hL (by omega)  h) (fun v2 σ1 h => ?_)
  refine k_istore_n (lv' := [some (.inr 16), some (.inl a1), some (.inl v2)]) d_KReader_often_5 rfl rfl ?_
  refine k_iload_n d_KReader_often_6 rfl ?_
  refine k_bipush d_KReader_often_7 cB_63 ?_
  obtain ⟨pt7, h⟩ := h
  have hV6 : OkI BF L (d + 1) 15 b_KReader_often 3 1 31 [.inl (if v2 = 63 then (a1 + 1) else (if v2 = 42 then (a1 + 1) else (if v2 = 43 then (a1 + 1) else a1)))] [some (.inr 16), some (.inl a1), some (.inl v2)] σ1 (qi Q) := by
    exact k_iret d_KReader_often_31 (Or.inl rfl) h
  obtain ⟨pa8, pb9⟩ := pt7
  refine k_iceq d_KReader_often_9 rfl (fun c10 => ?_) (fun c10 => ?_)
  · have pa8 := pa8 c10
    have hV11 := k_eqI (if_pos c10) hV6
    have p3 := pa8
    refine k_iload_n d_KReader_often_24 rfl ?_
    refine k_iconst d_KReader_often_25 cI_1 ?_
    refine k_iadd d_KReader_often_26 p3 ?_
    refine k_goto d_KReader_often_27 rfl ?_
    exact hV11
  · have pb9 := pb9 c10
    have hV12 := k_eqI (if_neg c10) hV6
    obtain ⟨pa13, pb14⟩ := pb9
    refine k_iload_n d_KReader_often_12 rfl ?_
    refine k_bipush d_KReader_often_13 cB_42 ?_
    refine k_iceq d_KReader_often_15 rfl (fun c15 => ?_) (fun c15 => ?_)
    · have pa13 := pa13 c15
      have hV16 := k_eqI (if_pos c15) hV12
      have p4 := pa13
      refine k_iload_n d_KReader_often_24 rfl ?_
      refine k_iconst d_KReader_often_25 cI_1 ?_
      refine k_iadd d_KReader_often_26 p4 ?_
      refine k_goto d_KReader_often_27 rfl ?_
      exact hV16
    · have pb14 := pb14 c15
      have hV17 := k_eqI (if_neg c15) hV12
      have pa18 := pb14
      refine k_iload_n d_KReader_often_18 rfl ?_
      refine k_bipush d_KReader_often_19 cB_43 ?_
      refine k_icne d_KReader_often_21 rfl (fun c19 => ?_) (fun c19 => ?_)
      · have hV21 := k_eqI (if_neg c19) hV17
        refine k_iload_n d_KReader_often_30 rfl ?_
        exact hV21
      · have pa18 := pa18 c19
        have hV20 := k_eqI (if_pos c19) hV17
        have p5 := pa18
        refine k_iload_n d_KReader_often_24 rfl ?_
        refine k_iconst d_KReader_often_25 cI_1 ?_
        refine k_iadd d_KReader_often_26 p5 ?_
        refine k_goto d_KReader_often_27 rfl ?_
        exact hV20
theorem d_KReader_model_0 : decode b_KReader_model 0 = .ok (.iconst 0, 1) := by decide +kernel
theorem d_KReader_model_1 : decode b_KReader_model 1 = .ok (.istore_n 2, 1) := by decide +kernel
theorem d_KReader_model_2 : decode b_KReader_model 2 = .ok (.iload_n 1, 1) := by decide +kernel
theorem d_KReader_model_3 : decode b_KReader_model 3 = .ok (.istore_n 3, 1) := by decide +kernel
theorem d_KReader_model_4 : decode b_KReader_model 4 = .ok (.iconst 1, 1) := by decide +kernel
theorem d_KReader_model_5 : decode b_KReader_model 5 = .ok (.istore 4, 2) := by decide +kernel
theorem d_KReader_model_7 : decode b_KReader_model 7 = .ok (.iload_n 3, 1) := by decide +kernel
theorem d_KReader_model_8 : decode b_KReader_model 8 = .ok (.ifCond .lt 244, 3) := by decide +kernel
theorem d_KReader_model_11 : decode b_KReader_model 11 = .ok (.iload_n 2, 1) := by decide +kernel
theorem d_KReader_model_12 : decode b_KReader_model 12 = .ok (.ifCond .gt 8, 3) := by decide +kernel
theorem d_KReader_model_15 : decode b_KReader_model 15 = .ok (.iload 4, 2) := by decide +kernel
theorem d_KReader_model_17 : decode b_KReader_model 17 = .ok (.ifCond .eq 235, 3) := by decide +kernel
theorem d_KReader_model_20 : decode b_KReader_model 20 = .ok (.aload_n 0, 1) := by decide +kernel
theorem d_KReader_model_21 : decode b_KReader_model 21 = .ok (.iload_n 3, 1) := by decide +kernel
theorem d_KReader_model_22 : decode b_KReader_model 22 = .ok (.invokevirtual 282, 3) := by decide +kernel
theorem d_KReader_model_25 : decode b_KReader_model 25 = .ok (.istore 5, 2) := by decide +kernel
theorem d_KReader_model_27 : decode b_KReader_model 27 = .ok (.iload 4, 2) := by decide +kernel
theorem d_KReader_model_29 : decode b_KReader_model 29 = .ok (.ifCond .eq 53, 3) := by decide +kernel
theorem d_KReader_model_32 : decode b_KReader_model 32 = .ok (.iload 5, 2) := by decide +kernel
theorem d_KReader_model_34 : decode b_KReader_model 34 = .ok (.bipush 40, 2) := by decide +kernel
theorem d_KReader_model_36 : decode b_KReader_model 36 = .ok (.if_icmp .ne 46, 3) := by decide +kernel
theorem d_KReader_model_39 : decode b_KReader_model 39 = .ok (.aload_n 0, 1) := by decide +kernel
theorem d_KReader_model_40 : decode b_KReader_model 40 = .ok (.getfield 41, 3) := by decide +kernel
theorem d_KReader_model_43 : decode b_KReader_model 43 = .ok (.iload_n 2, 1) := by decide +kernel
theorem d_KReader_model_44 : decode b_KReader_model 44 = .ok (.iconst 0, 1) := by decide +kernel
theorem d_KReader_model_45 : decode b_KReader_model 45 = .ok (.bastore, 1) := by decide +kernel
theorem d_KReader_model_46 : decode b_KReader_model 46 = .ok (.iinc 2 1, 3) := by decide +kernel
theorem d_KReader_model_49 : decode b_KReader_model 49 = .ok (.aload_n 0, 1) := by decide +kernel
theorem d_KReader_model_50 : decode b_KReader_model 50 = .ok (.aload_n 0, 1) := by decide +kernel
theorem d_KReader_model_51 : decode b_KReader_model 51 = .ok (.getfield 545, 3) := by decide +kernel
theorem d_KReader_model_54 : decode b_KReader_model 54 = .ok (.ifCond .ne 9, 3) := by decide +kernel
theorem d_KReader_model_57 : decode b_KReader_model 57 = .ok (.iload_n 2, 1) := by decide +kernel
theorem d_KReader_model_58 : decode b_KReader_model 58 = .ok (.bipush 60, 2) := by decide +kernel
theorem d_KReader_model_60 : decode b_KReader_model 60 = .ok (.if_icmp .le 7, 3) := by decide +kernel
theorem d_KReader_model_63 : decode b_KReader_model 63 = .ok (.iconst 1, 1) := by decide +kernel
theorem d_KReader_model_64 : decode b_KReader_model 64 = .ok (.goto 4, 3) := by decide +kernel
theorem d_KReader_model_67 : decode b_KReader_model 67 = .ok (.iconst 0, 1) := by decide +kernel
theorem d_KReader_model_68 : decode b_KReader_model 68 = .ok (.putfield 545, 3) := by decide +kernel
theorem d_KReader_model_71 : decode b_KReader_model 71 = .ok (.aload_n 0, 1) := by decide +kernel
theorem d_KReader_model_72 : decode b_KReader_model 72 = .ok (.iload_n 3, 1) := by decide +kernel
theorem d_KReader_model_73 : decode b_KReader_model 73 = .ok (.iconst 1, 1) := by decide +kernel
theorem d_KReader_model_74 : decode b_KReader_model 74 = .ok (.iadd, 1) := by decide +kernel
theorem d_KReader_model_75 : decode b_KReader_model 75 = .ok (.invokevirtual 297, 3) := by decide +kernel
theorem d_KReader_model_78 : decode b_KReader_model 78 = .ok (.istore_n 3, 1) := by decide +kernel
theorem d_KReader_model_79 : decode b_KReader_model 79 = .ok (.goto 170, 3) := by decide +kernel
theorem d_KReader_model_82 : decode b_KReader_model 82 = .ok (.iload 4, 2) := by decide +kernel
theorem d_KReader_model_84 : decode b_KReader_model 84 = .ok (.ifCond .eq 54, 3) := by decide +kernel
theorem d_KReader_model_87 : decode b_KReader_model 87 = .ok (.iload_n 2, 1) := by decide +kernel
theorem d_KReader_model_88 : decode b_KReader_model 88 = .ok (.ifCond .ne 7, 3) := by decide +kernel
theorem d_KReader_model_91 : decode b_KReader_model 91 = .ok (.iconst (-1), 1) := by decide +kernel
theorem d_KReader_model_92 : decode b_KReader_model 92 = .ok (.goto 8, 3) := by decide +kernel
theorem d_KReader_model_95 : decode b_KReader_model 95 = .ok (.aload_n 0, 1) := by decide +kernel
theorem d_KReader_model_96 : decode b_KReader_model 96 = .ok (.iload_n 3, 1) := by decide +kernel
theorem d_KReader_model_97 : decode b_KReader_model 97 = .ok (.invokevirtual 341, 3) := by decide +kernel
theorem d_KReader_model_100 : decode b_KReader_model 100 = .ok (.istore 6, 2) := by decide +kernel
theorem d_KReader_model_102 : decode b_KReader_model 102 = .ok (.aload_n 0, 1) := by decide +kernel
theorem d_KReader_model_103 : decode b_KReader_model 103 = .ok (.dup, 1) := by decide +kernel
theorem d_KReader_model_104 : decode b_KReader_model 104 = .ok (.getfield 542, 3) := by decide +kernel
theorem d_KReader_model_107 : decode b_KReader_model 107 = .ok (.iconst 1, 1) := by decide +kernel
theorem d_KReader_model_108 : decode b_KReader_model 108 = .ok (.iadd, 1) := by decide +kernel
theorem d_KReader_model_109 : decode b_KReader_model 109 = .ok (.putfield 542, 3) := by decide +kernel
theorem d_KReader_model_112 : decode b_KReader_model 112 = .ok (.iload 6, 2) := by decide +kernel
theorem d_KReader_model_114 : decode b_KReader_model 114 = .ok (.ifCond .ge 7, 3) := by decide +kernel
theorem d_KReader_model_117 : decode b_KReader_model 117 = .ok (.iconst (-1), 1) := by decide +kernel
theorem d_KReader_model_118 : decode b_KReader_model 118 = .ok (.goto 13, 3) := by decide +kernel
theorem d_KReader_model_121 : decode b_KReader_model 121 = .ok (.aload_n 0, 1) := by decide +kernel
theorem d_KReader_model_122 : decode b_KReader_model 122 = .ok (.aload_n 0, 1) := by decide +kernel
theorem d_KReader_model_123 : decode b_KReader_model 123 = .ok (.iload 6, 2) := by decide +kernel
theorem d_KReader_model_125 : decode b_KReader_model 125 = .ok (.invokevirtual 586, 3) := by decide +kernel
theorem d_KReader_model_128 : decode b_KReader_model 128 = .ok (.invokevirtual 297, 3) := by decide +kernel
theorem d_KReader_model_131 : decode b_KReader_model 131 = .ok (.istore_n 3, 1) := by decide +kernel
theorem d_KReader_model_132 : decode b_KReader_model 132 = .ok (.iconst 0, 1) := by decide +kernel
theorem d_KReader_model_133 : decode b_KReader_model 133 = .ok (.istore 4, 2) := by decide +kernel
theorem d_KReader_model_135 : decode b_KReader_model 135 = .ok (.goto 114, 3) := by decide +kernel
theorem d_KReader_model_138 : decode b_KReader_model 138 = .ok (.iload 5, 2) := by decide +kernel
theorem d_KReader_model_140 : decode b_KReader_model 140 = .ok (.bipush 41, 2) := by decide +kernel
theorem d_KReader_model_142 : decode b_KReader_model 142 = .ok (.if_icmp .ne 31, 3) := by decide +kernel
theorem d_KReader_model_145 : decode b_KReader_model 145 = .ok (.iinc 2 (-1), 3) := by decide +kernel
theorem d_KReader_model_148 : decode b_KReader_model 148 = .ok (.aload_n 0, 1) := by decide +kernel
theorem d_KReader_model_149 : decode b_KReader_model 149 = .ok (.iload_n 3, 1) := by decide +kernel
theorem d_KReader_model_150 : decode b_KReader_model 150 = .ok (.iconst 1, 1) := by decide +kernel
theorem d_KReader_model_151 : decode b_KReader_model 151 = .ok (.iadd, 1) := by decide +kernel
theorem d_KReader_model_152 : decode b_KReader_model 152 = .ok (.invokevirtual 586, 3) := by decide +kernel
theorem d_KReader_model_155 : decode b_KReader_model 155 = .ok (.istore_n 3, 1) := by decide +kernel
theorem d_KReader_model_156 : decode b_KReader_model 156 = .ok (.iload_n 2, 1) := by decide +kernel
theorem d_KReader_model_157 : decode b_KReader_model 157 = .ok (.ifCond .le 11, 3) := by decide +kernel
theorem d_KReader_model_160 : decode b_KReader_model 160 = .ok (.aload_n 0, 1) := by decide +kernel
theorem d_KReader_model_161 : decode b_KReader_model 161 = .ok (.iload_n 3, 1) := by decide +kernel
theorem d_KReader_model_162 : decode b_KReader_model 162 = .ok (.invokevirtual 297, 3) := by decide +kernel
theorem d_KReader_model_165 : decode b_KReader_model 165 = .ok (.goto 4, 3) := by decide +kernel
theorem d_KReader_model_168 : decode b_KReader_model 168 = .ok (.iload_n 3, 1) := by decide +kernel
theorem d_KReader_model_169 : decode b_KReader_model 169 = .ok (.istore_n 3, 1) := by decide +kernel
theorem d_KReader_model_170 : decode b_KReader_model 170 = .ok (.goto 79, 3) := by decide +kernel
theorem d_KReader_model_173 : decode b_KReader_model 173 = .ok (.iload 5, 2) := by decide +kernel
theorem d_KReader_model_175 : decode b_KReader_model 175 = .ok (.bipush 124, 2) := by decide +kernel
theorem d_KReader_model_177 : decode b_KReader_model 177 = .ok (.if_icmp .eq 10, 3) := by decide +kernel
theorem d_KReader_model_180 : decode b_KReader_model 180 = .ok (.iload 5, 2) := by decide +kernel
theorem d_KReader_model_182 : decode b_KReader_model 182 = .ok (.bipush 44, 2) := by decide +kernel
theorem d_KReader_model_184 : decode b_KReader_model 184 = .ok (.if_icmp .ne 31, 3) := by decide +kernel
theorem d_KReader_model_187 : decode b_KReader_model 187 = .ok (.aload_n 0, 1) := by decide +kernel
theorem d_KReader_model_188 : decode b_KReader_model 188 = .ok (.getfield 41, 3) := by decide +kernel
theorem d_KReader_model_191 : decode b_KReader_model 191 = .ok (.iload_n 2, 1) := by decide +kernel
theorem d_KReader_model_192 : decode b_KReader_model 192 = .ok (.iconst 1, 1) := by decide +kernel
theorem d_KReader_model_193 : decode b_KReader_model 193 = .ok (.isub, 1) := by decide +kernel
theorem d_KReader_model_194 : decode b_KReader_model 194 = .ok (.baload, 1) := by decide +kernel
theorem d_KReader_model_195 : decode b_KReader_model 195 = .ok (.ifCond .eq 16, 3) := by decide +kernel
theorem d_KReader_model_198 : decode b_KReader_model 198 = .ok (.aload_n 0, 1) := by decide +kernel
theorem d_KReader_model_199 : decode b_KReader_model 199 = .ok (.getfield 41, 3) := by decide +kernel
theorem d_KReader_model_202 : decode b_KReader_model 202 = .ok (.iload_n 2, 1) := by decide +kernel
theorem d_KReader_model_203 : decode b_KReader_model 203 = .ok (.iconst 1, 1) := by decide +kernel
theorem d_KReader_model_204 : decode b_KReader_model 204 = .ok (.isub, 1) := by decide +kernel
theorem d_KReader_model_205 : decode b_KReader_model 205 = .ok (.baload, 1) := by decide +kernel
theorem d_KReader_model_206 : decode b_KReader_model 206 = .ok (.iload 5, 2) := by decide +kernel
theorem d_KReader_model_208 : decode b_KReader_model 208 = .ok (.if_icmp .ne 7, 3) := by decide +kernel
theorem d_KReader_model_211 : decode b_KReader_model 211 = .ok (.iconst 1, 1) := by decide +kernel
theorem d_KReader_model_212 : decode b_KReader_model 212 = .ok (.goto 4, 3) := by decide +kernel
theorem d_KReader_model_215 : decode b_KReader_model 215 = .ok (.iconst 0, 1) := by decide +kernel
theorem d_KReader_model_216 : decode b_KReader_model 216 = .ok (.istore 6, 2) := by decide +kernel
theorem d_KReader_model_218 : decode b_KReader_model 218 = .ok (.aload_n 0, 1) := by decide +kernel
theorem d_KReader_model_219 : decode b_KReader_model 219 = .ok (.getfield 41, 3) := by decide +kernel
theorem d_KReader_model_222 : decode b_KReader_model 222 = .ok (.iload_n 2, 1) := by decide +kernel
theorem d_KReader_model_223 : decode b_KReader_model 223 = .ok (.iconst 1, 1) := by decide +kernel
theorem d_KReader_model_224 : decode b_KReader_model 224 = .ok (.isub, 1) := by decide +kernel
theorem d_KReader_model_225 : decode b_KReader_model 225 = .ok (.iload 5, 2) := by decide +kernel
theorem d_KReader_model_227 : decode b_KReader_model 227 = .ok (.i2b, 1) := by decide +kernel
theorem d_KReader_model_228 : decode b_KReader_model 228 = .ok (.bastore, 1) := by decide +kernel
theorem d_KReader_model_229 : decode b_KReader_model 229 = .ok (.iconst 1, 1) := by decide +kernel
theorem d_KReader_model_230 : decode b_KReader_model 230 = .ok (.istore 4, 2) := by decide +kernel
theorem d_KReader_model_232 : decode b_KReader_model 232 = .ok (.iload 6, 2) := by decide +kernel
theorem d_KReader_model_234 : decode b_KReader_model 234 = .ok (.ifCond .eq 13, 3) := by decide +kernel
theorem d_KReader_model_237 : decode b_KReader_model 237 = .ok (.aload_n 0, 1) := by decide +kernel
theorem d_KReader_model_238 : decode b_KReader_model 238 = .ok (.iload_n 3, 1) := by decide +kernel
theorem d_KReader_model_239 : decode b_KReader_model 239 = .ok (.iconst 1, 1) := by decide +kernel
theorem d_KReader_model_240 : decode b_KReader_model 240 = .ok (.iadd, 1) := by decide +kernel
theorem d_KReader_model_241 : decode b_KReader_model 241 = .ok (.invokevirtual 297, 3) := by decide +kernel
theorem d_KReader_model_244 : decode b_KReader_model 244 = .ok (.goto 4, 3) := by decide +kernel
theorem d_KReader_model_247 : decode b_KReader_model 247 = .ok (.iconst (-1), 1) := by decide +kernel
theorem d_KReader_model_248 : decode b_KReader_model 248 = .ok (.istore_n 3, 1) := by decide +kernel
theorem d_KReader_model_249 : decode b_KReader_model 249 = .ok (.goto (-242), 3) := by decide +kernel
theorem d_KReader_model_252 : decode b_KReader_model 252 = .ok (.iload_n 3, 1) := by decide +kernel
theorem d_KReader_model_253 : decode b_KReader_model 253 = .ok (.ireturn, 1) := by decide +kernel
/-- KReader_model -/
def w_KReader_model (L : Nat → Nat) (a1 : Int) (Q : Int → IS → Prop) (σ : IS) : Prop := WL (fun (K1 : Int × Int × Int → IS → Prop) (s3 : Int × Int × Int) (σ4 : IS) => WJ (fun (s7 : Unit) (σ8 : IS) => Q s3.2.1 σ8) (fun J5 => if s3.2.1 < 0 then J5 () σ4 else if 0 < s3.1 ∨ (¬ s3.2.2 = 0) then w_KReader_look L s3.2.1 (fun v11 σ10 => WJ (fun (s14 : Int × Int × Int) (σ15 : IS) => K1 (s14.1, s14.2.1, s14.2.2) σ15) (fun J12 => if ¬ s3.2.2 = 0 ∧ (v11 = 40) then inL L 175 s3.1 ∧ inR (s3.1 + 1) ∧ inR (s3.2.1 + 1) ∧ w_KReader_anySpaces L (s3.2.1 + 1) (fun v17 σ16 => J12 ((s3.1 + 1), v17, s3.2.2) σ16) (pf (pr σ10 175 (Int.toNat s3.1) 0) 16 77 (if (σ10.1 16 77) = 0 then (if 60 < (s3.1 + 1) then (1 : Int) else (0 : Int)) else (1 : Int))) else if s3.2.2 = 0 then if v11 = 41 then inR (s3.1 + (-1)) ∧ inR (s3.2.1 + 1) ∧ w_KReader_often L (s3.2.1 + 1) (fun v76 σ75 => WJ (fun (s79 : Int) (σ80 : IS) => J12 ((s3.1 + (-1)), s79, s3.2.2) σ80) (fun J77 => if 0 < (s3.1 + (-1)) then w_KReader_anySpaces L v76 (fun v83 σ82 => J77 v83 σ82) σ75 else J77 v76 σ75)) σ10 else (((v11 = 124 → (inR (s3.1 - 1) ∧ inL L 175 (s3.1 - 1) ∧ (¬ (σ10.2 175 (Int.toNat (s3.1 - 1))) = 0 → (inR (s3.1 - 1) ∧ inL L 175 (s3.1 - 1))))) ∧ (¬ v11 = 124 → (v11 = 44 → (inR (s3.1 - 1) ∧ inL L 175 (s3.1 - 1) ∧ (¬ (σ10.2 175 (Int.toNat (s3.1 - 1))) = 0 → (inR (s3.1 - 1) ∧ inL L 175 (s3.1 - 1)))))))) ∧ LETI (if v11 = 124 then (if (σ10.2 175 (Int.toNat (s3.1 - 1))) = 0 then (1 : Int) else (if (σ10.2 175 (Int.toNat (s3.1 - 1))) = v11 then (1 : Int) else (0 : Int))) else (if v11 = 44 then (if (σ10.2 175 (Int.toNat (s3.1 - 1))) = 0 then (1 : Int) else (if (σ10.2 175 (Int.toNat (s3.1 - 1))) = v11 then (1 : Int) else (0 : Int))) else (0 : Int))) (fun t38 => inR (s3.1 - 1) ∧ inL L 175 (s3.1 - 1) ∧ WJ (fun (s42 : Int) (σ43 : IS) => J12 (s3.1, s42, 1) σ43) (fun J40 => if t38 = 0 then J40 (-1) (pr σ10 175 (Int.toNat (s3.1 - 1)) (nb v11)) else inR (s3.2.1 + 1) ∧ w_KReader_anySpaces L (s3.2.1 + 1) (fun v46 σ45 => J40 v46 σ45) (pr σ10 175 (Int.toNat (s3.1 - 1)) (nb v11)))) else WJ (fun (s88 : Int) (σ89 : IS) => inR ((σ89.1 16 76) + 1) ∧ WJ (fun (s92 : Int) (σ93 : IS) => J12 (s3.1, s92, 0) σ93) (fun J90 => if s88 < 0 then J90 (-1) (pf σ89 16 76 ((σ89.1 16 76) + 1)) else w_KReader_often L s88 (fun v96 σ95 => w_KReader_anySpaces L v96 (fun v98 σ97 => J90 v98 σ97) σ95) (pf σ89 16 76 ((σ89.1 16 76) + 1)))) (fun J86 => if s3.1 = 0 then J86 (-1) σ10 else w_KReader_name L s3.2.1 (fun v102 σ101 => J86 v102 σ101) σ10))) σ4 else J5 () σ4)) (0, a1, 1) σ
set_option maxHeartbeats 4000000 in
set_option maxRecDepth 20000 in
theorem s_KReader_model {L : Nat → Nat} (hL : ∀ r, L r < 2147483648) {d : Nat} (hd : 5 ≤ d) {a1 : Int} {Q : Int → IS → Prop} {σ : IS}  (h : w_KReader_model L a1 Q σ) : OkI BF L d 15 b_KReader_model 7 1 0 [] [some (.inr 16), some (.inl a1)] σ (qi Q) := by
  unfold w_KReader_model at h
  obtain ⟨d, rfl⟩ : ∃ e, d = e + 1 := ⟨d - 1, by omega⟩
  refine k_sb (lv' := [some (.inr 16), some (.inl a1), none, none, none, none, none]) (sb_s (sb_s (sb_e (sb_e (sb_e (sb_e (sb_e sb_nil))))))) ?_
  refine k_iconst d_KReader_model_0 cI_0 ?_
  refine k_istore_n (lv' := [some (.inr 16), some (.inl a1), some (.inl 0), none, none, none, none]) d_KReader_model_1 rfl rfl ?_
  refine k_iload_n d_KReader_model_2 rfl ?_
  refine k_istore_n (lv' := [some (.inr 16), some (.inl a1), some (.inl 0), some (.inl a1), none, none, none]) d_KReader_model_3 rfl rfl ?_
  refine k_iconst d_KReader_model_4 cI_1 ?_
  refine k_istore (lv' := [some (.inr 16), some (.inl a1), some (.inl 0), some (.inl a1), some (.inl 1), none, none]) d_KReader_model_5 rfl rfl ?_
  refine k_sb (lv' := [some (.inr 16), none, some (.inl 0), some (.inl a1), some (.inl 1), none, none]) (sb_s (sb_n (sb_s (sb_s (sb_s (sb_s (sb_s sb_nil))))))) ?_
  refine k_loop (S := Int × Int × Int) (st := fun _ => []) (lv := fun s3 => [some (.inr 16), none, some (.inl s3.1), some (.inl s3.2.1), some (.inl s3.2.2), none, none]) (fun K1 hK2 s3 σ4 h => ?_) (0, a1, 1) _ h
  refine k_iload_n d_KReader_model_7 rfl ?_
  refine k_join (S := Unit) (pc' := 252) (st' := fun s7 => []) (lv' := fun s7 => [none, none, none, some (.inl s3.2.1), none, none, none]) (fun s7 σ8 h => ?_) (fun J5 hJ6 h => ?_) h
  · refine k_iload_n d_KReader_model_252 rfl ?_
    exact k_iret d_KReader_model_253 (Or.inl rfl) h
  · refine k_iflt d_KReader_model_8 rfl (fun c9 => ?_) (fun c9 => ?_)
    · have h := ipos c9 h
      exact k_sb (sb_n (sb_s (sb_n (sb_s (sb_n (sb_s (sb_s sb_nil))))))) (hJ6 () _ h)
    · have h := ineg c9 h
      refine k_iload_n d_KReader_model_11 rfl ?_
      have hX108 : (0 < s3.1 ∨ (¬ s3.2.2 = 0)) → OkI BF L (d + 1) 15 b_KReader_model 7 1 20 [] [some (.inr 16), none, some (.inl s3.1), some (.inl s3.2.1), some (.inl s3.2.2), none, none] σ4 (qi Q) := fun e110 => by
        have h := ipos e110 h
        refine k_aload_n d_KReader_model_20 rfl ?_
        refine k_iload_n d_KReader_model_21 rfl ?_
        refine k_cvi [.inl s3.2.1] d_KReader_model_22 ml_15_282 rfl rfl ob_16 rfl (s_KReader_look hL (by omega)  h) (fun v11 σ10 h => ?_)
        refine k_istore (lv' := [some (.inr 16), none, some (.inl s3.1), some (.inl s3.2.1), some (.inl s3.2.2), some (.inl v11), none]) d_KReader_model_25 rfl rfl ?_
        refine k_iload d_KReader_model_27 rfl ?_
        refine k_join (S := Int × Int × Int) (pc' := 249) (st' := fun s14 => []) (lv' := fun s14 => [some (.inr 16), none, some (.inl s14.1), some (.inl s14.2.1), some (.inl s14.2.2), none, none]) (fun s14 σ15 h => ?_) (fun J12 hJ13 h => ?_) h
        · refine k_goto d_KReader_model_249 rfl ?_
          exact k_sb (sb_s (sb_s (sb_s (sb_s (sb_s (sb_s (sb_s sb_nil))))))) (hK2 (s14.1, s14.2.1, s14.2.2) _ h)
        · have hX103 : (¬ s3.2.2 = 0 ∧ (v11 = 40)) → OkI BF L (d + 1) 15 b_KReader_model 7 1 39 [] [some (.inr 16), none, some (.inl s3.1), some (.inl s3.2.1), some (.inl s3.2.2), some (.inl v11), none] σ10 (qi Q) := fun e105 => by
            have h := ipos e105 h
            refine k_aload_n d_KReader_model_39 rfl ?_
            refine k_getR d_KReader_model_40 fl_15_41 ob_16 rfl ?_
            refine k_iload_n d_KReader_model_43 rfl ?_
            refine k_iconst d_KReader_model_44 cI_0 ?_
            obtain ⟨p27, h⟩ := h
            refine k_bst d_KReader_model_45 rb_175 p27 (by decide) ?_
            obtain ⟨p26, h⟩ := h
            refine k_iinc (lv' := [some (.inr 16), none, some (.inl (s3.1 + 1)), some (.inl s3.2.1), some (.inl s3.2.2), some (.inl v11), none]) d_KReader_model_46 cI_1 rfl rfl p26 rfl ?_
            refine k_aload_n d_KReader_model_49 rfl ?_
            refine k_aload_n d_KReader_model_50 rfl ?_
            refine k_getI (x := (σ10.1 16 77)) d_KReader_model_51 fl_15_545 ob_16 rfl rfl ?_
            have hV19 : OkI BF L (d + 1) 15 b_KReader_model 7 1 68 [.inl (if (σ10.1 16 77) = 0 then (if 60 < (s3.1 + 1) then (1 : Int) else (0 : Int)) else (1 : Int)), .inr 16] [some (.inr 16), none, some (.inl (s3.1 + 1)), some (.inl s3.2.1), some (.inl s3.2.2), some (.inl v11), none] (pr σ10 175 (Int.toNat s3.1) 0) (qi Q) := by
              refine k_putZ d_KReader_model_68 fl_15_545 ob_16 rfl (it01 (it01 (Or.inr rfl) (Or.inl rfl)) (Or.inr rfl)) ?_
              refine k_aload_n d_KReader_model_71 rfl ?_
              refine k_iload_n d_KReader_model_72 rfl ?_
              refine k_iconst d_KReader_model_73 cI_1 ?_
              obtain ⟨p18, h⟩ := h
              refine k_iadd d_KReader_model_74 p18 ?_
              refine k_cvi [.inl (s3.2.1 + 1)] d_KReader_model_75 ml_15_297 rfl rfl ob_16 rfl (s_KReader_anySpaces hL (by omega)  h) (fun v17 σ16 h => ?_)
              refine k_istore_n (lv' := [some (.inr 16), none, some (.inl (s3.1 + 1)), some (.inl v17), some (.inl s3.2.2), some (.inl v11), none]) d_KReader_model_78 rfl rfl ?_
              refine k_goto d_KReader_model_79 rfl ?_
              exact k_sb (sb_s (sb_s (sb_s (sb_s (sb_s (sb_n (sb_s sb_nil))))))) (hJ13 ((s3.1 + 1), v17, s3.2.2) _ h)
            refine k_ifne d_KReader_model_54 rfl (fun c20 => ?_) (fun c20 => ?_)
            · have hV25 := k_eqI (if_neg c20) hV19
              refine k_iconst d_KReader_model_63 cI_1 ?_
              refine k_goto d_KReader_model_64 rfl ?_
              exact hV25
            · have hV21 := k_eqI (if_pos c20) hV19
              refine k_iload_n d_KReader_model_57 rfl ?_
              refine k_bipush d_KReader_model_58 cB_60 ?_
              refine k_icle d_KReader_model_60 rfl (fun c22 => ?_) (fun c22 => ?_)
              · have hV24 := k_eqI (if_neg c22) hV21
                refine k_iconst d_KReader_model_67 cI_0 ?_
                exact hV24
              · have hV23 := k_eqI (if_pos c22) hV21
                refine k_iconst d_KReader_model_63 cI_1 ?_
                refine k_goto d_KReader_model_64 rfl ?_
                exact hV23
          have hY104 : ¬ (¬ s3.2.2 = 0 ∧ (v11 = 40)) → OkI BF L (d + 1) 15 b_KReader_model 7 1 82 [] [some (.inr 16), none, some (.inl s3.1), some (.inl s3.2.1), some (.inl s3.2.2), some (.inl v11), none] σ10 (qi Q) := fun e105 => by
            have h := ineg e105 h
            refine k_iload d_KReader_model_82 rfl ?_
            refine k_ifeq d_KReader_model_84 rfl (fun c28 => ?_) (fun c28 => ?_)
            · have h := ipos c28 h
              refine k_iload d_KReader_model_138 rfl ?_
              refine k_bipush d_KReader_model_140 cB_41 ?_
              refine k_icne d_KReader_model_142 rfl (fun c29 => ?_) (fun c29 => ?_)
              · have h := ineg c29 h
                refine k_iload d_KReader_model_173 rfl ?_
                refine k_bipush d_KReader_model_175 cB_124 ?_
                obtain ⟨pt51, h⟩ := h
                have hV50 : OkI BF L (d + 1) 15 b_KReader_model 7 1 216 [.inl (if v11 = 124 then (if (σ10.2 175 (Int.toNat (s3.1 - 1))) = 0 then (1 : Int) else (if (σ10.2 175 (Int.toNat (s3.1 - 1))) = v11 then (1 : Int) else (0 : Int))) else (if v11 = 44 then (if (σ10.2 175 (Int.toNat (s3.1 - 1))) = 0 then (1 : Int) else (if (σ10.2 175 (Int.toNat (s3.1 - 1))) = v11 then (1 : Int) else (0 : Int))) else (0 : Int)))] [some (.inr 16), none, some (.inl s3.1), some (.inl s3.2.1), some (.inl s3.2.2), some (.inl v11), none] σ10 (qi Q) := by
                  refine k_letI (fun t38 ht39 h => ?_) h
                  refine k_istore (lv' := [some (.inr 16), none, some (.inl s3.1), some (.inl s3.2.1), some (.inl s3.2.2), some (.inl v11), some (.inl t38)]) d_KReader_model_216 rfl rfl ?_
                  refine k_aload_n d_KReader_model_218 rfl ?_
                  refine k_getR d_KReader_model_219 fl_15_41 ob_16 rfl ?_
                  refine k_iload_n d_KReader_model_222 rfl ?_
                  refine k_iconst d_KReader_model_223 cI_1 ?_
                  obtain ⟨p49, h⟩ := h
                  refine k_isub d_KReader_model_224 p49 ?_
                  refine k_iload d_KReader_model_225 rfl ?_
                  refine k_i2b d_KReader_model_227 ?_
                  obtain ⟨p48, h⟩ := h
                  refine k_bst d_KReader_model_228 rb_175 p48 (nb_in _) ?_
                  refine k_iconst d_KReader_model_229 cI_1 ?_
                  refine k_istore (lv' := [some (.inr 16), none, some (.inl s3.1), some (.inl s3.2.1), some (.inl 1), some (.inl v11), some (.inl t38)]) d_KReader_model_230 rfl rfl ?_
                  refine k_iload d_KReader_model_232 rfl ?_
                  refine k_join (S := Int) (pc' := 248) (st' := fun s42 => [.inl s42]) (lv' := fun s42 => [some (.inr 16), none, some (.inl s3.1), none, some (.inl 1), none, none]) (fun s42 σ43 h => ?_) (fun J40 hJ41 h => ?_) h
                  · refine k_istore_n (lv' := [some (.inr 16), none, some (.inl s3.1), some (.inl s42), some (.inl 1), none, none]) d_KReader_model_248 rfl rfl ?_
                    exact k_sb (sb_s (sb_s (sb_s (sb_s (sb_s (sb_s (sb_s sb_nil))))))) (hJ13 (s3.1, s42, 1) _ h)
                  · refine k_ifeq d_KReader_model_234 rfl (fun c44 => ?_) (fun c44 => ?_)
                    · have h := ipos c44 h
                      refine k_iconst d_KReader_model_247 cI_m1 ?_
                      exact k_sb (sb_s (sb_s (sb_s (sb_n (sb_s (sb_n (sb_n sb_nil))))))) (hJ41 (-1) _ h)
                    · have h := ineg c44 h
                      refine k_aload_n d_KReader_model_237 rfl ?_
                      refine k_iload_n d_KReader_model_238 rfl ?_
                      refine k_iconst d_KReader_model_239 cI_1 ?_
                      obtain ⟨p47, h⟩ := h
                      refine k_iadd d_KReader_model_240 p47 ?_
                      refine k_cvi [.inl (s3.2.1 + 1)] d_KReader_model_241 ml_15_297 rfl rfl ob_16 rfl (s_KReader_anySpaces hL (by omega)  h) (fun v46 σ45 h => ?_)
                      refine k_goto d_KReader_model_244 rfl ?_
                      exact k_sb (sb_s (sb_s (sb_s (sb_n (sb_s (sb_n (sb_n sb_nil))))))) (hJ41 v46 _ h)
                obtain ⟨pa52, pb53⟩ := pt51
                refine k_iceq d_KReader_model_177 rfl (fun c54 => ?_) (fun c54 => ?_)
                · have pa52 := pa52 c54
                  have hV55 := k_eqI (if_pos c54) hV50
                  obtain ⟨p30, p31, pb56⟩ := pa52
                  refine k_aload_n d_KReader_model_187 rfl ?_
                  refine k_getR d_KReader_model_188 fl_15_41 ob_16 rfl ?_
                  refine k_iload_n d_KReader_model_191 rfl ?_
                  refine k_iconst d_KReader_model_192 cI_1 ?_
                  refine k_isub d_KReader_model_193 p30 ?_
                  refine k_bld (x := (σ10.2 175 (Int.toNat (s3.1 - 1)))) d_KReader_model_194 rB_175 p31 rfl ?_
                  refine k_ifeq d_KReader_model_195 rfl (fun c57 => ?_) (fun c57 => ?_)
                  · have hV58 := k_eqI (if_pos c57) hV55
                    refine k_iconst d_KReader_model_211 cI_1 ?_
                    refine k_goto d_KReader_model_212 rfl ?_
                    exact hV58
                  · have pb56 := pb56 c57
                    have hV59 := k_eqI (if_neg c57) hV55
                    obtain ⟨p32, p33⟩ := pb56
                    refine k_aload_n d_KReader_model_198 rfl ?_
                    refine k_getR d_KReader_model_199 fl_15_41 ob_16 rfl ?_
                    refine k_iload_n d_KReader_model_202 rfl ?_
                    refine k_iconst d_KReader_model_203 cI_1 ?_
                    refine k_isub d_KReader_model_204 p32 ?_
                    refine k_bld (x := (σ10.2 175 (Int.toNat (s3.1 - 1)))) d_KReader_model_205 rB_175 p33 rfl ?_
                    refine k_iload d_KReader_model_206 rfl ?_
                    refine k_icne d_KReader_model_208 rfl (fun c60 => ?_) (fun c60 => ?_)
                    · have hV62 := k_eqI (if_neg c60) hV59
                      refine k_iconst d_KReader_model_215 cI_0 ?_
                      exact hV62
                    · have hV61 := k_eqI (if_pos c60) hV59
                      refine k_iconst d_KReader_model_211 cI_1 ?_
                      refine k_goto d_KReader_model_212 rfl ?_
                      exact hV61
                · have pb53 := pb53 c54
                  have hV63 := k_eqI (if_neg c54) hV50
                  have pa64 := pb53
                  refine k_iload d_KReader_model_180 rfl ?_
                  refine k_bipush d_KReader_model_182 cB_44 ?_
                  refine k_icne d_KReader_model_184 rfl (fun c65 => ?_) (fun c65 => ?_)
                  · have hV74 := k_eqI (if_neg c65) hV63
                    refine k_iconst d_KReader_model_215 cI_0 ?_
                    exact hV74
                  · have pa64 := pa64 c65
                    have hV66 := k_eqI (if_pos c65) hV63
                    obtain ⟨p34, p35, pb67⟩ := pa64
                    refine k_aload_n d_KReader_model_187 rfl ?_
                    refine k_getR d_KReader_model_188 fl_15_41 ob_16 rfl ?_
                    refine k_iload_n d_KReader_model_191 rfl ?_
                    refine k_iconst d_KReader_model_192 cI_1 ?_
                    refine k_isub d_KReader_model_193 p34 ?_
                    refine k_bld (x := (σ10.2 175 (Int.toNat (s3.1 - 1)))) d_KReader_model_194 rB_175 p35 rfl ?_
                    refine k_ifeq d_KReader_model_195 rfl (fun c68 => ?_) (fun c68 => ?_)
                    · have hV69 := k_eqI (if_pos c68) hV66
                      refine k_iconst d_KReader_model_211 cI_1 ?_
                      refine k_goto d_KReader_model_212 rfl ?_
                      exact hV69
                    · have pb67 := pb67 c68
                      have hV70 := k_eqI (if_neg c68) hV66
                      obtain ⟨p36, p37⟩ := pb67
                      refine k_aload_n d_KReader_model_198 rfl ?_
                      refine k_getR d_KReader_model_199 fl_15_41 ob_16 rfl ?_
                      refine k_iload_n d_KReader_model_202 rfl ?_
                      refine k_iconst d_KReader_model_203 cI_1 ?_
                      refine k_isub d_KReader_model_204 p36 ?_
                      refine k_bld (x := (σ10.2 175 (Int.toNat (s3.1 - 1)))) d_KReader_model_205 rB_175 p37 rfl ?_
                      refine k_iload d_KReader_model_206 rfl ?_
                      refine k_icne d_KReader_model_208 rfl (fun c71 => ?_) (fun c71 => ?_)
                      · have hV73 := k_eqI (if_neg c71) hV70
                        refine k_iconst d_KReader_model_215 cI_0 ?_
                        exact hV73
                      · have hV72 := k_eqI (if_pos c71) hV70
                        refine k_iconst d_KReader_model_211 cI_1 ?_
                        refine k_goto d_KReader_model_212 rfl ?_
                        exact hV72
              · have h := ipos c29 h
                obtain ⟨p85, h⟩ := h
                refine k_iinc (lv' := [some (.inr 16), none, some (.inl (s3.1 + (-1))), some (.inl s3.2.1), some (.inl s3.2.2), some (.inl v11), none]) d_KReader_model_145 cI_m1 rfl rfl p85 rfl ?_
                refine k_aload_n d_KReader_model_148 rfl ?_
                refine k_iload_n d_KReader_model_149 rfl ?_
                refine k_iconst d_KReader_model_150 cI_1 ?_
                obtain ⟨p84, h⟩ := h
                refine k_iadd d_KReader_model_151 p84 ?_
                refine k_cvi [.inl (s3.2.1 + 1)] d_KReader_model_152 ml_15_586 rfl rfl ob_16 rfl (s_KReader_often hL (by omega)  h) (fun v76 σ75 h => ?_)
                refine k_istore_n (lv' := [some (.inr 16), none, some (.inl (s3.1 + (-1))), some (.inl v76), some (.inl s3.2.2), some (.inl v11), none]) d_KReader_model_155 rfl rfl ?_
                refine k_iload_n d_KReader_model_156 rfl ?_
                refine k_join (S := Int) (pc' := 169) (st' := fun s79 => [.inl s79]) (lv' := fun s79 => [some (.inr 16), none, some (.inl (s3.1 + (-1))), none, some (.inl s3.2.2), none, none]) (fun s79 σ80 h => ?_) (fun J77 hJ78 h => ?_) h
                · refine k_istore_n (lv' := [some (.inr 16), none, some (.inl (s3.1 + (-1))), some (.inl s79), some (.inl s3.2.2), none, none]) d_KReader_model_169 rfl rfl ?_
                  refine k_goto d_KReader_model_170 rfl ?_
                  exact k_sb (sb_s (sb_s (sb_s (sb_s (sb_s (sb_s (sb_s sb_nil))))))) (hJ13 ((s3.1 + (-1)), s79, s3.2.2) _ h)
                · refine k_ifle d_KReader_model_157 rfl (fun c81 => ?_) (fun c81 => ?_)
                  · have h := ineg c81 h
                    refine k_iload_n d_KReader_model_168 rfl ?_
                    exact k_sb (sb_s (sb_s (sb_s (sb_n (sb_s (sb_n (sb_s sb_nil))))))) (hJ78 v76 _ h)
                  · have h := ipos c81 h
                    refine k_aload_n d_KReader_model_160 rfl ?_
                    refine k_iload_n d_KReader_model_161 rfl ?_
                    refine k_cvi [.inl v76] d_KReader_model_162 ml_15_297 rfl rfl ob_16 rfl (s_KReader_anySpaces hL (by omega)  h) (fun v83 σ82 h => ?_)
                    refine k_goto d_KReader_model_165 rfl ?_
                    exact k_sb (sb_s (sb_s (sb_s (sb_n (sb_s (sb_n (sb_s sb_nil))))))) (hJ78 v83 _ h)
            · have h := ineg c28 h
              refine k_iload_n d_KReader_model_87 rfl ?_
              refine k_join (S := Int) (pc' := 100) (st' := fun s88 => [.inl s88]) (lv' := fun s88 => [some (.inr 16), none, some (.inl s3.1), none, none, none, none]) (fun s88 σ89 h => ?_) (fun J86 hJ87 h => ?_) h
              · refine k_istore (lv' := [some (.inr 16), none, some (.inl s3.1), none, none, none, some (.inl s88)]) d_KReader_model_100 rfl rfl ?_
                refine k_aload_n d_KReader_model_102 rfl ?_
                refine k_dup d_KReader_model_103 ?_
                refine k_getI (x := (σ89.1 16 76)) d_KReader_model_104 fl_15_542 ob_16 rfl rfl ?_
                refine k_iconst d_KReader_model_107 cI_1 ?_
                obtain ⟨p99, h⟩ := h
                refine k_iadd d_KReader_model_108 p99 ?_
                refine k_putI d_KReader_model_109 fl_15_542 ob_16 rfl ?_
                refine k_iload d_KReader_model_112 rfl ?_
                refine k_join (S := Int) (pc' := 131) (st' := fun s92 => [.inl s92]) (lv' := fun s92 => [some (.inr 16), none, some (.inl s3.1), none, none, none, none]) (fun s92 σ93 h => ?_) (fun J90 hJ91 h => ?_) h
                · refine k_istore_n (lv' := [some (.inr 16), none, some (.inl s3.1), some (.inl s92), none, none, none]) d_KReader_model_131 rfl rfl ?_
                  refine k_iconst d_KReader_model_132 cI_0 ?_
                  refine k_istore (lv' := [some (.inr 16), none, some (.inl s3.1), some (.inl s92), some (.inl 0), none, none]) d_KReader_model_133 rfl rfl ?_
                  refine k_goto d_KReader_model_135 rfl ?_
                  exact k_sb (sb_s (sb_s (sb_s (sb_s (sb_s (sb_s (sb_s sb_nil))))))) (hJ13 (s3.1, s92, 0) _ h)
                · refine k_ifge d_KReader_model_114 rfl (fun c94 => ?_) (fun c94 => ?_)
                  · have h := ineg c94 h
                    refine k_aload_n d_KReader_model_121 rfl ?_
                    refine k_aload_n d_KReader_model_122 rfl ?_
                    refine k_iload d_KReader_model_123 rfl ?_
                    refine k_cvi [.inl s88] d_KReader_model_125 ml_15_586 rfl rfl ob_16 rfl (s_KReader_often hL (by omega)  h) (fun v96 σ95 h => ?_)
                    refine k_cvi [.inl v96] d_KReader_model_128 ml_15_297 rfl rfl ob_16 rfl (s_KReader_anySpaces hL (by omega)  h) (fun v98 σ97 h => ?_)
                    exact k_sb (sb_s (sb_s (sb_s (sb_s (sb_s (sb_s (sb_n sb_nil))))))) (hJ91 v98 _ h)
                  · have h := ipos c94 h
                    refine k_iconst d_KReader_model_117 cI_m1 ?_
                    refine k_goto d_KReader_model_118 rfl ?_
                    exact k_sb (sb_s (sb_s (sb_s (sb_s (sb_s (sb_s (sb_n sb_nil))))))) (hJ91 (-1) _ h)
              · refine k_ifne d_KReader_model_88 rfl (fun c100 => ?_) (fun c100 => ?_)
                · have h := ineg c100 h
                  refine k_aload_n d_KReader_model_95 rfl ?_
                  refine k_iload_n d_KReader_model_96 rfl ?_
                  refine k_cvi [.inl s3.2.1] d_KReader_model_97 ml_15_341 rfl rfl ob_16 rfl (s_KReader_name hL (by omega)  h) (fun v102 σ101 h => ?_)
                  exact k_sb (sb_s (sb_s (sb_s (sb_n (sb_n (sb_n (sb_s sb_nil))))))) (hJ87 v102 _ h)
                · have h := ipos c100 h
                  refine k_iconst d_KReader_model_91 cI_m1 ?_
                  refine k_goto d_KReader_model_92 rfl ?_
                  exact k_sb (sb_s (sb_s (sb_s (sb_n (sb_n (sb_n (sb_s sb_nil))))))) (hJ87 (-1) _ h)
          refine k_ifeq d_KReader_model_29 rfl (fun c106 => ?_) (fun c106 => ?_)
          · exact hY104 (fun z => z.1 c106)
          · refine k_iload d_KReader_model_32 rfl ?_
            refine k_bipush d_KReader_model_34 cB_40 ?_
            refine k_icne d_KReader_model_36 rfl (fun c107 => ?_) (fun c107 => ?_)
            · exact hY104 (fun z => (c107) z.2)
            · exact hX103 (⟨c106, c107⟩)
      have hY109 : ¬ (0 < s3.1 ∨ (¬ s3.2.2 = 0)) → OkI BF L (d + 1) 15 b_KReader_model 7 1 252 [] [some (.inr 16), none, some (.inl s3.1), some (.inl s3.2.1), some (.inl s3.2.2), none, none] σ4 (qi Q) := fun e110 => by
        have h := ineg e110 h
        exact k_sb (sb_n (sb_s (sb_n (sb_s (sb_n (sb_s (sb_s sb_nil))))))) (hJ6 () _ h)
      refine k_ifgt d_KReader_model_12 rfl (fun c111 => ?_) (fun c111 => ?_)
      · exact hX108 (Or.inl c111)
      · refine k_iload d_KReader_model_15 rfl ?_
        refine k_ifeq d_KReader_model_17 rfl (fun c112 => ?_) (fun c112 => ?_)
        · exact hY109 (fun z => z.elim c111 (fun z => z c112))
        · exact hX108 (Or.inr (c112))
theorem d_KReader_contentOf_0 : decode b_KReader_contentOf 0 = .ok (.iconst 0, 1) := by decide +kernel
theorem d_KReader_contentOf_1 : decode b_KReader_contentOf 1 = .ok (.istore_n 2, 1) := by decide +kernel
theorem d_KReader_contentOf_2 : decode b_KReader_contentOf 2 = .ok (.iload_n 2, 1) := by decide +kernel
theorem d_KReader_contentOf_3 : decode b_KReader_contentOf 3 = .ok (.aload_n 0, 1) := by decide +kernel
theorem d_KReader_contentOf_4 : decode b_KReader_contentOf 4 = .ok (.getfield 209, 3) := by decide +kernel
theorem d_KReader_contentOf_7 : decode b_KReader_contentOf 7 = .ok (.if_icmp .ge 19, 3) := by decide +kernel
theorem d_KReader_contentOf_10 : decode b_KReader_contentOf 10 = .ok (.aload_n 0, 1) := by decide +kernel
theorem d_KReader_contentOf_11 : decode b_KReader_contentOf 11 = .ok (.getfield 84, 3) := by decide +kernel
theorem d_KReader_contentOf_14 : decode b_KReader_contentOf 14 = .ok (.iload_n 2, 1) := by decide +kernel
theorem d_KReader_contentOf_15 : decode b_KReader_contentOf 15 = .ok (.iaload, 1) := by decide +kernel
theorem d_KReader_contentOf_16 : decode b_KReader_contentOf 16 = .ok (.iload_n 1, 1) := by decide +kernel
theorem d_KReader_contentOf_17 : decode b_KReader_contentOf 17 = .ok (.if_icmp .eq 9, 3) := by decide +kernel
theorem d_KReader_contentOf_20 : decode b_KReader_contentOf 20 = .ok (.iinc 2 1, 3) := by decide +kernel
theorem d_KReader_contentOf_23 : decode b_KReader_contentOf 23 = .ok (.goto (-21), 3) := by decide +kernel
theorem d_KReader_contentOf_26 : decode b_KReader_contentOf 26 = .ok (.iload_n 2, 1) := by decide +kernel
theorem d_KReader_contentOf_27 : decode b_KReader_contentOf 27 = .ok (.aload_n 0, 1) := by decide +kernel
theorem d_KReader_contentOf_28 : decode b_KReader_contentOf 28 = .ok (.getfield 209, 3) := by decide +kernel
theorem d_KReader_contentOf_31 : decode b_KReader_contentOf 31 = .ok (.if_icmp .ge 7, 3) := by decide +kernel
theorem d_KReader_contentOf_34 : decode b_KReader_contentOf 34 = .ok (.iload_n 2, 1) := by decide +kernel
theorem d_KReader_contentOf_35 : decode b_KReader_contentOf 35 = .ok (.goto 4, 3) := by decide +kernel
theorem d_KReader_contentOf_38 : decode b_KReader_contentOf 38 = .ok (.iconst (-1), 1) := by decide +kernel
theorem d_KReader_contentOf_39 : decode b_KReader_contentOf 39 = .ok (.ireturn, 1) := by decide +kernel
/-- KReader_contentOf -/
def w_KReader_contentOf (L : Nat → Nat) (a1 : Int) (Q : Int → IS → Prop) (σ : IS) : Prop := WL (fun (K1 : Int → IS → Prop) (s3 : Int) (σ4 : IS) => ((s3 < (σ4.1 16 40) → inL L 189 s3)) ∧ if s3 < (σ4.1 16 40) ∧ (¬ (σ4.2 189 (Int.toNat s3)) = a1) then inR (s3 + 1) ∧ K1 (s3 + 1) σ4 else Q (if s3 < (σ4.1 16 40) then s3 else ((-1) : Int)) σ4) 0 σ
set_option maxHeartbeats 4000000 in
set_option maxRecDepth 20000 in
theorem s_KReader_contentOf {L : Nat → Nat} (hL : ∀ r, L r < 2147483648) {d : Nat} (hd : 0 ≤ d) {a1 : Int} {Q : Int → IS → Prop} {σ : IS}  (h : w_KReader_contentOf L a1 Q σ) : OkI BF L d 15 b_KReader_contentOf 3 1 0 [] [some (.inr 16), some (.inl a1)] σ (qi Q) := by
  unfold w_KReader_contentOf at h
  refine k_sb (lv' := [some (.inr 16), some (.inl a1), none]) (sb_s (sb_s (sb_e sb_nil))) ?_
  refine k_iconst d_KReader_contentOf_0 cI_0 ?_
  refine k_istore_n (lv' := [some (.inr 16), some (.inl a1), some (.inl 0)]) d_KReader_contentOf_1 rfl rfl ?_
  refine k_sb (lv' := [some (.inr 16), some (.inl a1), some (.inl 0)]) (sb_s (sb_s (sb_s sb_nil))) ?_
  refine k_loop (S := Int) (st := fun _ => []) (lv := fun s3 => [some (.inr 16), some (.inl a1), some (.inl s3)]) (fun K1 hK2 s3 σ4 h => ?_) 0 _ h
  refine k_iload_n d_KReader_contentOf_2 rfl ?_
  refine k_aload_n d_KReader_contentOf_3 rfl ?_
  refine k_getI (x := (σ4.1 16 40)) d_KReader_contentOf_4 fl_15_209 ob_16 rfl rfl ?_
  obtain ⟨pt14, h⟩ := h
  have hX11 : (s3 < (σ4.1 16 40) ∧ (¬ (σ4.2 189 (Int.toNat s3)) = a1)) → OkI BF L d 15 b_KReader_contentOf 3 1 20 [] [some (.inr 16), some (.inl a1), some (.inl s3)] σ4 (qi Q) := fun e13 => by
    have h := ipos e13 h
    obtain ⟨p6, h⟩ := h
    refine k_iinc (lv' := [some (.inr 16), some (.inl a1), some (.inl (s3 + 1))]) d_KReader_contentOf_20 cI_1 rfl rfl p6 rfl ?_
    refine k_goto d_KReader_contentOf_23 rfl ?_
    exact k_sb (sb_s (sb_s (sb_s sb_nil))) (hK2 (s3 + 1) _ h)
  have hY12 : ¬ (s3 < (σ4.1 16 40) ∧ (¬ (σ4.2 189 (Int.toNat s3)) = a1)) → OkI BF L d 15 b_KReader_contentOf 3 1 26 [] [some (.inr 16), some (.inl a1), some (.inl s3)] σ4 (qi Q) := fun e13 => by
    have h := ineg e13 h
    refine k_iload_n d_KReader_contentOf_26 rfl ?_
    refine k_aload_n d_KReader_contentOf_27 rfl ?_
    refine k_getI (x := (σ4.1 16 40)) d_KReader_contentOf_28 fl_15_209 ob_16 rfl rfl ?_
    have hV7 : OkI BF L d 15 b_KReader_contentOf 3 1 39 [.inl (if s3 < (σ4.1 16 40) then s3 else ((-1) : Int))] [some (.inr 16), some (.inl a1), some (.inl s3)] σ4 (qi Q) := by
      exact k_iret d_KReader_contentOf_39 (Or.inl rfl) h
    refine k_icge d_KReader_contentOf_31 rfl (fun c8 => ?_) (fun c8 => ?_)
    · have hV10 := k_eqI (if_neg c8) hV7
      refine k_iconst d_KReader_contentOf_38 cI_m1 ?_
      exact hV10
    · have hV9 := k_eqI (if_pos c8) hV7
      refine k_iload_n d_KReader_contentOf_34 rfl ?_
      refine k_goto d_KReader_contentOf_35 rfl ?_
      exact hV9
  have pa15 := pt14
  refine k_icge d_KReader_contentOf_7 rfl (fun c16 => ?_) (fun c16 => ?_)
  · exact hY12 (fun z => c16 z.1)
  · have pa15 := pa15 c16
    have p5 := pa15
    refine k_aload_n d_KReader_contentOf_10 rfl ?_
    refine k_getR d_KReader_contentOf_11 fl_15_84 ob_16 rfl ?_
    refine k_iload_n d_KReader_contentOf_14 rfl ?_
    refine k_ild (x := (σ4.2 189 (Int.toNat s3))) d_KReader_contentOf_15 rI_189 p5 rfl ?_
    refine k_iload_n d_KReader_contentOf_16 rfl ?_
    refine k_iceq d_KReader_contentOf_17 rfl (fun c17 => ?_) (fun c17 => ?_)
    · exact hY12 (fun z => (fun z => z c17) z.2)
    · exact hX11 (⟨c16, c17⟩)
theorem d_KReader_doubles_0 : decode b_KReader_doubles 0 = .ok (.iconst 0, 1) := by decide +kernel
theorem d_KReader_doubles_1 : decode b_KReader_doubles 1 = .ok (.istore_n 3, 1) := by decide +kernel
theorem d_KReader_doubles_2 : decode b_KReader_doubles 2 = .ok (.iconst 0, 1) := by decide +kernel
theorem d_KReader_doubles_3 : decode b_KReader_doubles 3 = .ok (.istore 4, 2) := by decide +kernel
theorem d_KReader_doubles_5 : decode b_KReader_doubles 5 = .ok (.iload 4, 2) := by decide +kernel
theorem d_KReader_doubles_7 : decode b_KReader_doubles 7 = .ok (.iload_n 2, 1) := by decide +kernel
theorem d_KReader_doubles_8 : decode b_KReader_doubles 8 = .ok (.if_icmp .ge 74, 3) := by decide +kernel
theorem d_KReader_doubles_11 : decode b_KReader_doubles 11 = .ok (.iconst 0, 1) := by decide +kernel
theorem d_KReader_doubles_12 : decode b_KReader_doubles 12 = .ok (.istore 5, 2) := by decide +kernel
theorem d_KReader_doubles_14 : decode b_KReader_doubles 14 = .ok (.iconst 0, 1) := by decide +kernel
theorem d_KReader_doubles_15 : decode b_KReader_doubles 15 = .ok (.istore 6, 2) := by decide +kernel
theorem d_KReader_doubles_17 : decode b_KReader_doubles 17 = .ok (.iload 6, 2) := by decide +kernel
theorem d_KReader_doubles_19 : decode b_KReader_doubles 19 = .ok (.iload 4, 2) := by decide +kernel
theorem d_KReader_doubles_21 : decode b_KReader_doubles 21 = .ok (.if_icmp .ge 42, 3) := by decide +kernel
theorem d_KReader_doubles_24 : decode b_KReader_doubles 24 = .ok (.iload 5, 2) := by decide +kernel
theorem d_KReader_doubles_26 : decode b_KReader_doubles 26 = .ok (.ifCond .ne 24, 3) := by decide +kernel
theorem d_KReader_doubles_29 : decode b_KReader_doubles 29 = .ok (.aload_n 0, 1) := by decide +kernel
theorem d_KReader_doubles_30 : decode b_KReader_doubles 30 = .ok (.getfield 138, 3) := by decide +kernel
theorem d_KReader_doubles_33 : decode b_KReader_doubles 33 = .ok (.iload_n 1, 1) := by decide +kernel
theorem d_KReader_doubles_34 : decode b_KReader_doubles 34 = .ok (.iload 6, 2) := by decide +kernel
theorem d_KReader_doubles_36 : decode b_KReader_doubles 36 = .ok (.iadd, 1) := by decide +kernel
theorem d_KReader_doubles_37 : decode b_KReader_doubles 37 = .ok (.iaload, 1) := by decide +kernel
theorem d_KReader_doubles_38 : decode b_KReader_doubles 38 = .ok (.aload_n 0, 1) := by decide +kernel
theorem d_KReader_doubles_39 : decode b_KReader_doubles 39 = .ok (.getfield 138, 3) := by decide +kernel
theorem d_KReader_doubles_42 : decode b_KReader_doubles 42 = .ok (.iload_n 1, 1) := by decide +kernel
theorem d_KReader_doubles_43 : decode b_KReader_doubles 43 = .ok (.iload 4, 2) := by decide +kernel
theorem d_KReader_doubles_45 : decode b_KReader_doubles 45 = .ok (.iadd, 1) := by decide +kernel
theorem d_KReader_doubles_46 : decode b_KReader_doubles 46 = .ok (.iaload, 1) := by decide +kernel
theorem d_KReader_doubles_47 : decode b_KReader_doubles 47 = .ok (.if_icmp .ne 7, 3) := by decide +kernel
theorem d_KReader_doubles_50 : decode b_KReader_doubles 50 = .ok (.iconst 1, 1) := by decide +kernel
theorem d_KReader_doubles_51 : decode b_KReader_doubles 51 = .ok (.goto 4, 3) := by decide +kernel
theorem d_KReader_doubles_54 : decode b_KReader_doubles 54 = .ok (.iconst 0, 1) := by decide +kernel
theorem d_KReader_doubles_55 : decode b_KReader_doubles 55 = .ok (.istore 5, 2) := by decide +kernel
theorem d_KReader_doubles_57 : decode b_KReader_doubles 57 = .ok (.iinc 6 1, 3) := by decide +kernel
theorem d_KReader_doubles_60 : decode b_KReader_doubles 60 = .ok (.goto (-43), 3) := by decide +kernel
theorem d_KReader_doubles_63 : decode b_KReader_doubles 63 = .ok (.iload_n 3, 1) := by decide +kernel
theorem d_KReader_doubles_64 : decode b_KReader_doubles 64 = .ok (.iload 5, 2) := by decide +kernel
theorem d_KReader_doubles_66 : decode b_KReader_doubles 66 = .ok (.ifCond .eq 7, 3) := by decide +kernel
theorem d_KReader_doubles_69 : decode b_KReader_doubles 69 = .ok (.iconst 1, 1) := by decide +kernel
theorem d_KReader_doubles_70 : decode b_KReader_doubles 70 = .ok (.goto 4, 3) := by decide +kernel
theorem d_KReader_doubles_73 : decode b_KReader_doubles 73 = .ok (.iconst 0, 1) := by decide +kernel
theorem d_KReader_doubles_74 : decode b_KReader_doubles 74 = .ok (.iadd, 1) := by decide +kernel
theorem d_KReader_doubles_75 : decode b_KReader_doubles 75 = .ok (.istore_n 3, 1) := by decide +kernel
theorem d_KReader_doubles_76 : decode b_KReader_doubles 76 = .ok (.iinc 4 1, 3) := by decide +kernel
theorem d_KReader_doubles_79 : decode b_KReader_doubles 79 = .ok (.goto (-74), 3) := by decide +kernel
theorem d_KReader_doubles_82 : decode b_KReader_doubles 82 = .ok (.iload_n 3, 1) := by decide +kernel
theorem d_KReader_doubles_83 : decode b_KReader_doubles 83 = .ok (.ireturn, 1) := by decide +kernel
/-- KReader_doubles -/
def w_KReader_doubles (L : Nat → Nat) (a1 : Int) (a2 : Int) (Q : Int → IS → Prop) (σ : IS) : Prop := WL (fun (K1 : Int × Int → IS → Prop) (s3 : Int × Int) (σ4 : IS) => if s3.2 < a2 then WL (fun (K6 : Int × Int → IS → Prop) (s8 : Int × Int) (σ9 : IS) => if s8.2 < s3.2 then ((s8.1 = 0 → (inR (a1 + s8.2) ∧ inL L 207 (a1 + s8.2) ∧ inR (a1 + s3.2) ∧ inL L 207 (a1 + s3.2)))) ∧ inR (s8.2 + 1) ∧ K6 ((if s8.1 = 0 then (if (σ9.2 207 (Int.toNat (a1 + s8.2))) = (σ9.2 207 (Int.toNat (a1 + s3.2))) then (1 : Int) else (0 : Int)) else (1 : Int)), (s8.2 + 1)) σ9 else inR (s3.1 + (if s8.1 = 0 then (0 : Int) else (1 : Int))) ∧ inR (s3.2 + 1) ∧ K1 ((s3.1 + (if s8.1 = 0 then (0 : Int) else (1 : Int))), (s3.2 + 1)) σ9) (0, 0) σ4 else Q s3.1 σ4) (0, 0) σ
set_option maxHeartbeats 4000000 in
set_option maxRecDepth 20000 in
theorem s_KReader_doubles {L : Nat → Nat} (hL : ∀ r, L r < 2147483648) {d : Nat} (hd : 0 ≤ d) {a1 : Int} {a2 : Int} {Q : Int → IS → Prop} {σ : IS}  (h : w_KReader_doubles L a1 a2 Q σ) : OkI BF L d 15 b_KReader_doubles 7 1 0 [] [some (.inr 16), some (.inl a1), some (.inl a2)] σ (qi Q) := by
  unfold w_KReader_doubles at h
  refine k_sb (lv' := [some (.inr 16), some (.inl a1), some (.inl a2), none, none, none, none]) (sb_s (sb_s (sb_s (sb_e (sb_e (sb_e (sb_e sb_nil))))))) ?_
  refine k_iconst d_KReader_doubles_0 cI_0 ?_
  refine k_istore_n (lv' := [some (.inr 16), some (.inl a1), some (.inl a2), some (.inl 0), none, none, none]) d_KReader_doubles_1 rfl rfl ?_
  refine k_iconst d_KReader_doubles_2 cI_0 ?_
  refine k_istore (lv' := [some (.inr 16), some (.inl a1), some (.inl a2), some (.inl 0), some (.inl 0), none, none]) d_KReader_doubles_3 rfl rfl ?_
  refine k_sb (lv' := [some (.inr 16), some (.inl a1), some (.inl a2), some (.inl 0), some (.inl 0), none, none]) (sb_s (sb_s (sb_s (sb_s (sb_s (sb_s (sb_s sb_nil))))))) ?_
  refine k_loop (S := Int × Int) (st := fun _ => []) (lv := fun s3 => [some (.inr 16), some (.inl a1), some (.inl a2), some (.inl s3.1), some (.inl s3.2), none, none]) (fun K1 hK2 s3 σ4 h => ?_) (0, 0) _ h
  refine k_iload d_KReader_doubles_5 rfl ?_
  refine k_iload_n d_KReader_doubles_7 rfl ?_
  refine k_icge d_KReader_doubles_8 rfl (fun c5 => ?_) (fun c5 => ?_)
  · have h := ineg c5 h
    refine k_iload_n d_KReader_doubles_82 rfl ?_
    exact k_iret d_KReader_doubles_83 (Or.inl rfl) h
  · have h := ipos c5 h
    refine k_iconst d_KReader_doubles_11 cI_0 ?_
    refine k_istore (lv' := [some (.inr 16), some (.inl a1), some (.inl a2), some (.inl s3.1), some (.inl s3.2), some (.inl 0), none]) d_KReader_doubles_12 rfl rfl ?_
    refine k_iconst d_KReader_doubles_14 cI_0 ?_
    refine k_istore (lv' := [some (.inr 16), some (.inl a1), some (.inl a2), some (.inl s3.1), some (.inl s3.2), some (.inl 0), some (.inl 0)]) d_KReader_doubles_15 rfl rfl ?_
    refine k_sb (lv' := [some (.inr 16), some (.inl a1), some (.inl a2), some (.inl s3.1), some (.inl s3.2), some (.inl 0), some (.inl 0)]) (sb_s (sb_s (sb_s (sb_s (sb_s (sb_s (sb_s sb_nil))))))) ?_
    refine k_loop (S := Int × Int) (st := fun _ => []) (lv := fun s8 => [some (.inr 16), some (.inl a1), some (.inl a2), some (.inl s3.1), some (.inl s3.2), some (.inl s8.1), some (.inl s8.2)]) (fun K6 hK7 s8 σ9 h => ?_) (0, 0) _ h
    refine k_iload d_KReader_doubles_17 rfl ?_
    refine k_iload d_KReader_doubles_19 rfl ?_
    refine k_icge d_KReader_doubles_21 rfl (fun c10 => ?_) (fun c10 => ?_)
    · have h := ineg c10 h
      refine k_iload_n d_KReader_doubles_63 rfl ?_
      refine k_iload d_KReader_doubles_64 rfl ?_
      have hV13 : OkI BF L d 15 b_KReader_doubles 7 1 74 [.inl (if s8.1 = 0 then (0 : Int) else (1 : Int)), .inl s3.1] [some (.inr 16), some (.inl a1), some (.inl a2), some (.inl s3.1), some (.inl s3.2), some (.inl s8.1), some (.inl s8.2)] σ9 (qi Q) := by
        obtain ⟨p12, h⟩ := h
        refine k_iadd d_KReader_doubles_74 p12 ?_
        refine k_istore_n (lv' := [some (.inr 16), some (.inl a1), some (.inl a2), some (.inl (s3.1 + (if s8.1 = 0 then (0 : Int) else (1 : Int)))), some (.inl s3.2), some (.inl s8.1), some (.inl s8.2)]) d_KReader_doubles_75 rfl rfl ?_
        obtain ⟨p11, h⟩ := h
        refine k_iinc (lv' := [some (.inr 16), some (.inl a1), some (.inl a2), some (.inl (s3.1 + (if s8.1 = 0 then (0 : Int) else (1 : Int)))), some (.inl (s3.2 + 1)), some (.inl s8.1), some (.inl s8.2)]) d_KReader_doubles_76 cI_1 rfl rfl p11 rfl ?_
        refine k_goto d_KReader_doubles_79 rfl ?_
        exact k_sb (sb_s (sb_s (sb_s (sb_s (sb_s (sb_n (sb_n sb_nil))))))) (hK2 ((s3.1 + (if s8.1 = 0 then (0 : Int) else (1 : Int))), (s3.2 + 1)) _ h)
      refine k_ifeq d_KReader_doubles_66 rfl (fun c14 => ?_) (fun c14 => ?_)
      · have hV15 := k_eqI (if_pos c14) hV13
        refine k_iconst d_KReader_doubles_73 cI_0 ?_
        exact hV15
      · have hV16 := k_eqI (if_neg c14) hV13
        refine k_iconst d_KReader_doubles_69 cI_1 ?_
        refine k_goto d_KReader_doubles_70 rfl ?_
        exact hV16
    · have h := ipos c10 h
      refine k_iload d_KReader_doubles_24 rfl ?_
      obtain ⟨pt23, h⟩ := h
      have hV22 : OkI BF L d 15 b_KReader_doubles 7 1 55 [.inl (if s8.1 = 0 then (if (σ9.2 207 (Int.toNat (a1 + s8.2))) = (σ9.2 207 (Int.toNat (a1 + s3.2))) then (1 : Int) else (0 : Int)) else (1 : Int))] [some (.inr 16), some (.inl a1), some (.inl a2), some (.inl s3.1), some (.inl s3.2), some (.inl s8.1), some (.inl s8.2)] σ9 (qi Q) := by
        refine k_istore (lv' := [some (.inr 16), some (.inl a1), some (.inl a2), some (.inl s3.1), some (.inl s3.2), some (.inl (if s8.1 = 0 then (if (σ9.2 207 (Int.toNat (a1 + s8.2))) = (σ9.2 207 (Int.toNat (a1 + s3.2))) then (1 : Int) else (0 : Int)) else (1 : Int))), some (.inl s8.2)]) d_KReader_doubles_55 rfl rfl ?_
        obtain ⟨p21, h⟩ := h
        refine k_iinc (lv' := [some (.inr 16), some (.inl a1), some (.inl a2), some (.inl s3.1), some (.inl s3.2), some (.inl (if s8.1 = 0 then (if (σ9.2 207 (Int.toNat (a1 + s8.2))) = (σ9.2 207 (Int.toNat (a1 + s3.2))) then (1 : Int) else (0 : Int)) else (1 : Int))), some (.inl (s8.2 + 1))]) d_KReader_doubles_57 cI_1 rfl rfl p21 rfl ?_
        refine k_goto d_KReader_doubles_60 rfl ?_
        exact k_sb (sb_s (sb_s (sb_s (sb_s (sb_s (sb_s (sb_s sb_nil))))))) (hK7 ((if s8.1 = 0 then (if (σ9.2 207 (Int.toNat (a1 + s8.2))) = (σ9.2 207 (Int.toNat (a1 + s3.2))) then (1 : Int) else (0 : Int)) else (1 : Int)), (s8.2 + 1)) _ h)
      have pa24 := pt23
      refine k_ifne d_KReader_doubles_26 rfl (fun c25 => ?_) (fun c25 => ?_)
      · have hV30 := k_eqI (if_neg c25) hV22
        refine k_iconst d_KReader_doubles_50 cI_1 ?_
        refine k_goto d_KReader_doubles_51 rfl ?_
        exact hV30
      · have pa24 := pa24 c25
        have hV26 := k_eqI (if_pos c25) hV22
        obtain ⟨p17, p18, p19, p20⟩ := pa24
        refine k_aload_n d_KReader_doubles_29 rfl ?_
        refine k_getR d_KReader_doubles_30 fl_15_138 ob_16 rfl ?_
        refine k_iload_n d_KReader_doubles_33 rfl ?_
        refine k_iload d_KReader_doubles_34 rfl ?_
        refine k_iadd d_KReader_doubles_36 p17 ?_
        refine k_ild (x := (σ9.2 207 (Int.toNat (a1 + s8.2)))) d_KReader_doubles_37 rI_207 p18 rfl ?_
        refine k_aload_n d_KReader_doubles_38 rfl ?_
        refine k_getR d_KReader_doubles_39 fl_15_138 ob_16 rfl ?_
        refine k_iload_n d_KReader_doubles_42 rfl ?_
        refine k_iload d_KReader_doubles_43 rfl ?_
        refine k_iadd d_KReader_doubles_45 p19 ?_
        refine k_ild (x := (σ9.2 207 (Int.toNat (a1 + s3.2)))) d_KReader_doubles_46 rI_207 p20 rfl ?_
        refine k_icne d_KReader_doubles_47 rfl (fun c27 => ?_) (fun c27 => ?_)
        · have hV29 := k_eqI (if_neg c27) hV26
          refine k_iconst d_KReader_doubles_54 cI_0 ?_
          exact hV29
        · have hV28 := k_eqI (if_pos c27) hV26
          refine k_iconst d_KReader_doubles_50 cI_1 ?_
          refine k_goto d_KReader_doubles_51 rfl ?_
          exact hV28
theorem d_KReader_newNode_0 : decode b_KReader_newNode 0 = .ok (.aload_n 0, 1) := by decide +kernel
theorem d_KReader_newNode_1 : decode b_KReader_newNode 1 = .ok (.getfield 212, 3) := by decide +kernel
theorem d_KReader_newNode_4 : decode b_KReader_newNode 4 = .ok (.istore 4, 2) := by decide +kernel
theorem d_KReader_newNode_6 : decode b_KReader_newNode 6 = .ok (.aload_n 0, 1) := by decide +kernel
theorem d_KReader_newNode_7 : decode b_KReader_newNode 7 = .ok (.dup, 1) := by decide +kernel
theorem d_KReader_newNode_8 : decode b_KReader_newNode 8 = .ok (.getfield 212, 3) := by decide +kernel
theorem d_KReader_newNode_11 : decode b_KReader_newNode 11 = .ok (.iconst 1, 1) := by decide +kernel
theorem d_KReader_newNode_12 : decode b_KReader_newNode 12 = .ok (.iadd, 1) := by decide +kernel
theorem d_KReader_newNode_13 : decode b_KReader_newNode 13 = .ok (.putfield 212, 3) := by decide +kernel
theorem d_KReader_newNode_16 : decode b_KReader_newNode 16 = .ok (.aload_n 0, 1) := by decide +kernel
theorem d_KReader_newNode_17 : decode b_KReader_newNode 17 = .ok (.getfield 96, 3) := by decide +kernel
theorem d_KReader_newNode_20 : decode b_KReader_newNode 20 = .ok (.iload 4, 2) := by decide +kernel
theorem d_KReader_newNode_22 : decode b_KReader_newNode 22 = .ok (.iload_n 1, 1) := by decide +kernel
theorem d_KReader_newNode_23 : decode b_KReader_newNode 23 = .ok (.i2b, 1) := by decide +kernel
theorem d_KReader_newNode_24 : decode b_KReader_newNode 24 = .ok (.bastore, 1) := by decide +kernel
theorem d_KReader_newNode_25 : decode b_KReader_newNode 25 = .ok (.aload_n 0, 1) := by decide +kernel
theorem d_KReader_newNode_26 : decode b_KReader_newNode 26 = .ok (.getfield 99, 3) := by decide +kernel
theorem d_KReader_newNode_29 : decode b_KReader_newNode 29 = .ok (.iload 4, 2) := by decide +kernel
theorem d_KReader_newNode_31 : decode b_KReader_newNode 31 = .ok (.iconst 0, 1) := by decide +kernel
theorem d_KReader_newNode_32 : decode b_KReader_newNode 32 = .ok (.bastore, 1) := by decide +kernel
theorem d_KReader_newNode_33 : decode b_KReader_newNode 33 = .ok (.aload_n 0, 1) := by decide +kernel
theorem d_KReader_newNode_34 : decode b_KReader_newNode 34 = .ok (.getfield 102, 3) := by decide +kernel
theorem d_KReader_newNode_37 : decode b_KReader_newNode 37 = .ok (.iload 4, 2) := by decide +kernel
theorem d_KReader_newNode_39 : decode b_KReader_newNode 39 = .ok (.iconst (-1), 1) := by decide +kernel
theorem d_KReader_newNode_40 : decode b_KReader_newNode 40 = .ok (.iastore, 1) := by decide +kernel
theorem d_KReader_newNode_41 : decode b_KReader_newNode 41 = .ok (.aload_n 0, 1) := by decide +kernel
theorem d_KReader_newNode_42 : decode b_KReader_newNode 42 = .ok (.getfield 105, 3) := by decide +kernel
theorem d_KReader_newNode_45 : decode b_KReader_newNode 45 = .ok (.iload 4, 2) := by decide +kernel
theorem d_KReader_newNode_47 : decode b_KReader_newNode 47 = .ok (.iconst (-1), 1) := by decide +kernel
theorem d_KReader_newNode_48 : decode b_KReader_newNode 48 = .ok (.iastore, 1) := by decide +kernel
theorem d_KReader_newNode_49 : decode b_KReader_newNode 49 = .ok (.aload_n 0, 1) := by decide +kernel
theorem d_KReader_newNode_50 : decode b_KReader_newNode 50 = .ok (.getfield 108, 3) := by decide +kernel
theorem d_KReader_newNode_53 : decode b_KReader_newNode 53 = .ok (.iload 4, 2) := by decide +kernel
theorem d_KReader_newNode_55 : decode b_KReader_newNode 55 = .ok (.iconst (-1), 1) := by decide +kernel
theorem d_KReader_newNode_56 : decode b_KReader_newNode 56 = .ok (.iastore, 1) := by decide +kernel
theorem d_KReader_newNode_57 : decode b_KReader_newNode 57 = .ok (.aload_n 0, 1) := by decide +kernel
theorem d_KReader_newNode_58 : decode b_KReader_newNode 58 = .ok (.getfield 111, 3) := by decide +kernel
theorem d_KReader_newNode_61 : decode b_KReader_newNode 61 = .ok (.iload 4, 2) := by decide +kernel
theorem d_KReader_newNode_63 : decode b_KReader_newNode 63 = .ok (.iload_n 2, 1) := by decide +kernel
theorem d_KReader_newNode_64 : decode b_KReader_newNode 64 = .ok (.iastore, 1) := by decide +kernel
theorem d_KReader_newNode_65 : decode b_KReader_newNode 65 = .ok (.iload_n 3, 1) := by decide +kernel
theorem d_KReader_newNode_66 : decode b_KReader_newNode 66 = .ok (.ifCond .lt 14, 3) := by decide +kernel
theorem d_KReader_newNode_69 : decode b_KReader_newNode 69 = .ok (.aload_n 0, 1) := by decide +kernel
theorem d_KReader_newNode_70 : decode b_KReader_newNode 70 = .ok (.getfield 108, 3) := by decide +kernel
theorem d_KReader_newNode_73 : decode b_KReader_newNode 73 = .ok (.iload_n 3, 1) := by decide +kernel
theorem d_KReader_newNode_74 : decode b_KReader_newNode 74 = .ok (.iload 4, 2) := by decide +kernel
theorem d_KReader_newNode_76 : decode b_KReader_newNode 76 = .ok (.iastore, 1) := by decide +kernel
theorem d_KReader_newNode_77 : decode b_KReader_newNode 77 = .ok (.goto 15, 3) := by decide +kernel
theorem d_KReader_newNode_80 : decode b_KReader_newNode 80 = .ok (.iload_n 2, 1) := by decide +kernel
theorem d_KReader_newNode_81 : decode b_KReader_newNode 81 = .ok (.ifCond .lt 11, 3) := by decide +kernel
theorem d_KReader_newNode_84 : decode b_KReader_newNode 84 = .ok (.aload_n 0, 1) := by decide +kernel
theorem d_KReader_newNode_85 : decode b_KReader_newNode 85 = .ok (.getfield 105, 3) := by decide +kernel
theorem d_KReader_newNode_88 : decode b_KReader_newNode 88 = .ok (.iload_n 2, 1) := by decide +kernel
theorem d_KReader_newNode_89 : decode b_KReader_newNode 89 = .ok (.iload 4, 2) := by decide +kernel
theorem d_KReader_newNode_91 : decode b_KReader_newNode 91 = .ok (.iastore, 1) := by decide +kernel
theorem d_KReader_newNode_92 : decode b_KReader_newNode 92 = .ok (.iload 4, 2) := by decide +kernel
theorem d_KReader_newNode_94 : decode b_KReader_newNode 94 = .ok (.ireturn, 1) := by decide +kernel
/-- KReader_newNode -/
def w_KReader_newNode (L : Nat → Nat) (a1 : Int) (a2 : Int) (a3 : Int) (Q : Int → IS → Prop) (σ : IS) : Prop := inR ((σ.1 16 47) + 1) ∧ inL L 193 (σ.1 16 47) ∧ inL L 194 (σ.1 16 47) ∧ inL L 195 (σ.1 16 47) ∧ inL L 196 (σ.1 16 47) ∧ inL L 197 (σ.1 16 47) ∧ inL L 198 (σ.1 16 47) ∧ WJ (fun (s3 : Unit) (σ4 : IS) => Q (σ.1 16 47) σ4) (fun J1 => if a3 < 0 then if a2 < 0 then J1 () (pr (pr (pr (pr (pr (pr (pf σ 16 47 ((σ.1 16 47) + 1)) 193 (Int.toNat (σ.1 16 47)) (nb a1)) 194 (Int.toNat (σ.1 16 47)) 0) 195 (Int.toNat (σ.1 16 47)) (-1)) 196 (Int.toNat (σ.1 16 47)) (-1)) 197 (Int.toNat (σ.1 16 47)) (-1)) 198 (Int.toNat (σ.1 16 47)) a2) else inL L 196 a2 ∧ J1 () (pr (pr (pr (pr (pr (pr (pr (pf σ 16 47 ((σ.1 16 47) + 1)) 193 (Int.toNat (σ.1 16 47)) (nb a1)) 194 (Int.toNat (σ.1 16 47)) 0) 195 (Int.toNat (σ.1 16 47)) (-1)) 196 (Int.toNat (σ.1 16 47)) (-1)) 197 (Int.toNat (σ.1 16 47)) (-1)) 198 (Int.toNat (σ.1 16 47)) a2) 196 (Int.toNat a2) (σ.1 16 47)) else inL L 197 a3 ∧ J1 () (pr (pr (pr (pr (pr (pr (pr (pf σ 16 47 ((σ.1 16 47) + 1)) 193 (Int.toNat (σ.1 16 47)) (nb a1)) 194 (Int.toNat (σ.1 16 47)) 0) 195 (Int.toNat (σ.1 16 47)) (-1)) 196 (Int.toNat (σ.1 16 47)) (-1)) 197 (Int.toNat (σ.1 16 47)) (-1)) 198 (Int.toNat (σ.1 16 47)) a2) 197 (Int.toNat a3) (σ.1 16 47)))
set_option maxHeartbeats 4000000 in
set_option maxRecDepth 20000 in
theorem s_KReader_newNode {L : Nat → Nat} (hL : ∀ r, L r < 2147483648) {d : Nat} (hd : 0 ≤ d) {a1 : Int} {a2 : Int} {a3 : Int} {Q : Int → IS → Prop} {σ : IS}  (h : w_KReader_newNode L a1 a2 a3 Q σ) : OkI BF L d 15 b_KReader_newNode 5 1 0 [] [some (.inr 16), some (.inl a1), some (.inl a2), some (.inl a3)] σ (qi Q) := by
  unfold w_KReader_newNode at h
  refine k_sb (lv' := [some (.inr 16), some (.inl a1), some (.inl a2), some (.inl a3), none]) (sb_s (sb_s (sb_s (sb_s (sb_e sb_nil))))) ?_
  refine k_aload_n d_KReader_newNode_0 rfl ?_
  refine k_getI (x := (σ.1 16 47)) d_KReader_newNode_1 fl_15_212 ob_16 rfl rfl ?_
  refine k_istore (lv' := [some (.inr 16), some (.inl a1), some (.inl a2), some (.inl a3), some (.inl (σ.1 16 47))]) d_KReader_newNode_4 rfl rfl ?_
  refine k_aload_n d_KReader_newNode_6 rfl ?_
  refine k_dup d_KReader_newNode_7 ?_
  refine k_getI (x := (σ.1 16 47)) d_KReader_newNode_8 fl_15_212 ob_16 rfl rfl ?_
  refine k_iconst d_KReader_newNode_11 cI_1 ?_
  obtain ⟨p15, h⟩ := h
  refine k_iadd d_KReader_newNode_12 p15 ?_
  refine k_putI d_KReader_newNode_13 fl_15_212 ob_16 rfl ?_
  refine k_aload_n d_KReader_newNode_16 rfl ?_
  refine k_getR d_KReader_newNode_17 fl_15_96 ob_16 rfl ?_
  refine k_iload d_KReader_newNode_20 rfl ?_
  refine k_iload_n d_KReader_newNode_22 rfl ?_
  refine k_i2b d_KReader_newNode_23 ?_
  obtain ⟨p14, h⟩ := h
  refine k_bst d_KReader_newNode_24 rb_193 p14 (nb_in _) ?_
  refine k_aload_n d_KReader_newNode_25 rfl ?_
  refine k_getR d_KReader_newNode_26 fl_15_99 ob_16 rfl ?_
  refine k_iload d_KReader_newNode_29 rfl ?_
  refine k_iconst d_KReader_newNode_31 cI_0 ?_
  obtain ⟨p13, h⟩ := h
  refine k_bst d_KReader_newNode_32 rb_194 p13 (by decide) ?_
  refine k_aload_n d_KReader_newNode_33 rfl ?_
  refine k_getR d_KReader_newNode_34 fl_15_102 ob_16 rfl ?_
  refine k_iload d_KReader_newNode_37 rfl ?_
  refine k_iconst d_KReader_newNode_39 cI_m1 ?_
  obtain ⟨p12, h⟩ := h
  refine k_ist d_KReader_newNode_40 rI_195 p12 ?_
  refine k_aload_n d_KReader_newNode_41 rfl ?_
  refine k_getR d_KReader_newNode_42 fl_15_105 ob_16 rfl ?_
  refine k_iload d_KReader_newNode_45 rfl ?_
  refine k_iconst d_KReader_newNode_47 cI_m1 ?_
  obtain ⟨p11, h⟩ := h
  refine k_ist d_KReader_newNode_48 rI_196 p11 ?_
  refine k_aload_n d_KReader_newNode_49 rfl ?_
  refine k_getR d_KReader_newNode_50 fl_15_108 ob_16 rfl ?_
  refine k_iload d_KReader_newNode_53 rfl ?_
  refine k_iconst d_KReader_newNode_55 cI_m1 ?_
  obtain ⟨p10, h⟩ := h
  refine k_ist d_KReader_newNode_56 rI_197 p10 ?_
  refine k_aload_n d_KReader_newNode_57 rfl ?_
  refine k_getR d_KReader_newNode_58 fl_15_111 ob_16 rfl ?_
  refine k_iload d_KReader_newNode_61 rfl ?_
  refine k_iload_n d_KReader_newNode_63 rfl ?_
  obtain ⟨p9, h⟩ := h
  refine k_ist d_KReader_newNode_64 rI_198 p9 ?_
  refine k_iload_n d_KReader_newNode_65 rfl ?_
  refine k_join (S := Unit) (pc' := 92) (st' := fun s3 => []) (lv' := fun s3 => [none, none, none, none, some (.inl (σ.1 16 47))]) (fun s3 σ4 h => ?_) (fun J1 hJ2 h => ?_) h
  · refine k_iload d_KReader_newNode_92 rfl ?_
    exact k_iret d_KReader_newNode_94 (Or.inl rfl) h
  · refine k_iflt d_KReader_newNode_66 rfl (fun c5 => ?_) (fun c5 => ?_)
    · have h := ipos c5 h
      refine k_iload_n d_KReader_newNode_80 rfl ?_
      refine k_iflt d_KReader_newNode_81 rfl (fun c6 => ?_) (fun c6 => ?_)
      · have h := ipos c6 h
        exact k_sb (sb_n (sb_n (sb_n (sb_n (sb_s sb_nil))))) (hJ2 () _ h)
      · have h := ineg c6 h
        refine k_aload_n d_KReader_newNode_84 rfl ?_
        refine k_getR d_KReader_newNode_85 fl_15_105 ob_16 rfl ?_
        refine k_iload_n d_KReader_newNode_88 rfl ?_
        refine k_iload d_KReader_newNode_89 rfl ?_
        obtain ⟨p7, h⟩ := h
        refine k_ist d_KReader_newNode_91 rI_196 p7 ?_
        exact k_sb (sb_n (sb_n (sb_n (sb_n (sb_s sb_nil))))) (hJ2 () _ h)
    · have h := ineg c5 h
      refine k_aload_n d_KReader_newNode_69 rfl ?_
      refine k_getR d_KReader_newNode_70 fl_15_108 ob_16 rfl ?_
      refine k_iload_n d_KReader_newNode_73 rfl ?_
      refine k_iload d_KReader_newNode_74 rfl ?_
      obtain ⟨p8, h⟩ := h
      refine k_ist d_KReader_newNode_76 rI_197 p8 ?_
      refine k_goto d_KReader_newNode_77 rfl ?_
      exact k_sb (sb_n (sb_n (sb_n (sb_n (sb_s sb_nil))))) (hJ2 () _ h)
theorem d_KReader_build_0 : decode b_KReader_build 0 = .ok (.iconst (-1), 1) := by decide +kernel
theorem d_KReader_build_1 : decode b_KReader_build 1 = .ok (.istore_n 3, 1) := by decide +kernel
theorem d_KReader_build_2 : decode b_KReader_build 2 = .ok (.iconst (-1), 1) := by decide +kernel
theorem d_KReader_build_3 : decode b_KReader_build 3 = .ok (.istore 4, 2) := by decide +kernel
theorem d_KReader_build_5 : decode b_KReader_build 5 = .ok (.iconst 0, 1) := by decide +kernel
theorem d_KReader_build_6 : decode b_KReader_build 6 = .ok (.istore 5, 2) := by decide +kernel
theorem d_KReader_build_8 : decode b_KReader_build 8 = .ok (.iload_n 1, 1) := by decide +kernel
theorem d_KReader_build_9 : decode b_KReader_build 9 = .ok (.istore 6, 2) := by decide +kernel
theorem d_KReader_build_11 : decode b_KReader_build 11 = .ok (.iload 6, 2) := by decide +kernel
theorem d_KReader_build_13 : decode b_KReader_build 13 = .ok (.iload_n 2, 1) := by decide +kernel
theorem d_KReader_build_14 : decode b_KReader_build 14 = .ok (.if_icmp .ge 173, 3) := by decide +kernel
theorem d_KReader_build_17 : decode b_KReader_build 17 = .ok (.aload_n 0, 1) := by decide +kernel
theorem d_KReader_build_18 : decode b_KReader_build 18 = .ok (.getfield 45, 3) := by decide +kernel
theorem d_KReader_build_21 : decode b_KReader_build 21 = .ok (.iload 6, 2) := by decide +kernel
theorem d_KReader_build_23 : decode b_KReader_build 23 = .ok (.iaload, 1) := by decide +kernel
theorem d_KReader_build_24 : decode b_KReader_build 24 = .ok (.istore 7, 2) := by decide +kernel
theorem d_KReader_build_26 : decode b_KReader_build 26 = .ok (.iload 7, 2) := by decide +kernel
theorem d_KReader_build_28 : decode b_KReader_build 28 = .ok (.bipush 40, 2) := by decide +kernel
theorem d_KReader_build_30 : decode b_KReader_build 30 = .ok (.if_icmp .ne 18, 3) := by decide +kernel
theorem d_KReader_build_33 : decode b_KReader_build 33 = .ok (.aload_n 0, 1) := by decide +kernel
theorem d_KReader_build_34 : decode b_KReader_build 34 = .ok (.iconst 1, 1) := by decide +kernel
theorem d_KReader_build_35 : decode b_KReader_build 35 = .ok (.iload_n 3, 1) := by decide +kernel
theorem d_KReader_build_36 : decode b_KReader_build 36 = .ok (.iload 4, 2) := by decide +kernel
theorem d_KReader_build_38 : decode b_KReader_build 38 = .ok (.invokevirtual 588, 3) := by decide +kernel
theorem d_KReader_build_41 : decode b_KReader_build 41 = .ok (.istore_n 3, 1) := by decide +kernel
theorem d_KReader_build_42 : decode b_KReader_build 42 = .ok (.iconst (-1), 1) := by decide +kernel
theorem d_KReader_build_43 : decode b_KReader_build 43 = .ok (.istore 4, 2) := by decide +kernel
theorem d_KReader_build_45 : decode b_KReader_build 45 = .ok (.goto 136, 3) := by decide +kernel
theorem d_KReader_build_48 : decode b_KReader_build 48 = .ok (.iload 7, 2) := by decide +kernel
theorem d_KReader_build_50 : decode b_KReader_build 50 = .ok (.bipush 41, 2) := by decide +kernel
theorem d_KReader_build_52 : decode b_KReader_build 52 = .ok (.if_icmp .ne 16, 3) := by decide +kernel
theorem d_KReader_build_55 : decode b_KReader_build 55 = .ok (.iload_n 3, 1) := by decide +kernel
theorem d_KReader_build_56 : decode b_KReader_build 56 = .ok (.istore 4, 2) := by decide +kernel
theorem d_KReader_build_58 : decode b_KReader_build 58 = .ok (.aload_n 0, 1) := by decide +kernel
theorem d_KReader_build_59 : decode b_KReader_build 59 = .ok (.getfield 111, 3) := by decide +kernel
theorem d_KReader_build_62 : decode b_KReader_build 62 = .ok (.iload_n 3, 1) := by decide +kernel
theorem d_KReader_build_63 : decode b_KReader_build 63 = .ok (.iaload, 1) := by decide +kernel
theorem d_KReader_build_64 : decode b_KReader_build 64 = .ok (.istore_n 3, 1) := by decide +kernel
theorem d_KReader_build_65 : decode b_KReader_build 65 = .ok (.goto 116, 3) := by decide +kernel
theorem d_KReader_build_68 : decode b_KReader_build 68 = .ok (.iload 7, 2) := by decide +kernel
theorem d_KReader_build_70 : decode b_KReader_build 70 = .ok (.bipush 124, 2) := by decide +kernel
theorem d_KReader_build_72 : decode b_KReader_build 72 = .ok (.if_icmp .ne 13, 3) := by decide +kernel
theorem d_KReader_build_75 : decode b_KReader_build 75 = .ok (.aload_n 0, 1) := by decide +kernel
theorem d_KReader_build_76 : decode b_KReader_build 76 = .ok (.getfield 96, 3) := by decide +kernel
theorem d_KReader_build_79 : decode b_KReader_build 79 = .ok (.iload_n 3, 1) := by decide +kernel
theorem d_KReader_build_80 : decode b_KReader_build 80 = .ok (.iconst 2, 1) := by decide +kernel
theorem d_KReader_build_81 : decode b_KReader_build 81 = .ok (.bastore, 1) := by decide +kernel
theorem d_KReader_build_82 : decode b_KReader_build 82 = .ok (.goto 99, 3) := by decide +kernel
theorem d_KReader_build_85 : decode b_KReader_build 85 = .ok (.iload 7, 2) := by decide +kernel
theorem d_KReader_build_87 : decode b_KReader_build 87 = .ok (.bipush 63, 2) := by decide +kernel
theorem d_KReader_build_89 : decode b_KReader_build 89 = .ok (.if_icmp .eq 17, 3) := by decide +kernel
theorem d_KReader_build_92 : decode b_KReader_build 92 = .ok (.iload 7, 2) := by decide +kernel
theorem d_KReader_build_94 : decode b_KReader_build 94 = .ok (.bipush 42, 2) := by decide +kernel
theorem d_KReader_build_96 : decode b_KReader_build 96 = .ok (.if_icmp .eq 10, 3) := by decide +kernel
theorem d_KReader_build_99 : decode b_KReader_build 99 = .ok (.iload 7, 2) := by decide +kernel
theorem d_KReader_build_101 : decode b_KReader_build 101 = .ok (.bipush 43, 2) := by decide +kernel
theorem d_KReader_build_103 : decode b_KReader_build 103 = .ok (.if_icmp .ne 16, 3) := by decide +kernel
theorem d_KReader_build_106 : decode b_KReader_build 106 = .ok (.aload_n 0, 1) := by decide +kernel
theorem d_KReader_build_107 : decode b_KReader_build 107 = .ok (.getfield 99, 3) := by decide +kernel
theorem d_KReader_build_110 : decode b_KReader_build 110 = .ok (.iload 4, 2) := by decide +kernel
theorem d_KReader_build_112 : decode b_KReader_build 112 = .ok (.iload 7, 2) := by decide +kernel
theorem d_KReader_build_114 : decode b_KReader_build 114 = .ok (.i2b, 1) := by decide +kernel
theorem d_KReader_build_115 : decode b_KReader_build 115 = .ok (.bastore, 1) := by decide +kernel
theorem d_KReader_build_116 : decode b_KReader_build 116 = .ok (.goto 65, 3) := by decide +kernel
theorem d_KReader_build_119 : decode b_KReader_build 119 = .ok (.iload 7, 2) := by decide +kernel
theorem d_KReader_build_121 : decode b_KReader_build 121 = .ok (.invokestatic 300, 3) := by decide +kernel
theorem d_KReader_build_124 : decode b_KReader_build 124 = .ok (.ifCond .eq 57, 3) := by decide +kernel
theorem d_KReader_build_127 : decode b_KReader_build 127 = .ok (.aload_n 0, 1) := by decide +kernel
theorem d_KReader_build_128 : decode b_KReader_build 128 = .ok (.iload 6, 2) := by decide +kernel
theorem d_KReader_build_130 : decode b_KReader_build 130 = .ok (.invokevirtual 341, 3) := by decide +kernel
theorem d_KReader_build_133 : decode b_KReader_build 133 = .ok (.istore 8, 2) := by decide +kernel
theorem d_KReader_build_135 : decode b_KReader_build 135 = .ok (.aload_n 0, 1) := by decide +kernel
theorem d_KReader_build_136 : decode b_KReader_build 136 = .ok (.iconst 0, 1) := by decide +kernel
theorem d_KReader_build_137 : decode b_KReader_build 137 = .ok (.iload_n 3, 1) := by decide +kernel
theorem d_KReader_build_138 : decode b_KReader_build 138 = .ok (.iload 4, 2) := by decide +kernel
theorem d_KReader_build_140 : decode b_KReader_build 140 = .ok (.invokevirtual 588, 3) := by decide +kernel
theorem d_KReader_build_143 : decode b_KReader_build 143 = .ok (.istore 4, 2) := by decide +kernel
theorem d_KReader_build_145 : decode b_KReader_build 145 = .ok (.aload_n 0, 1) := by decide +kernel
theorem d_KReader_build_146 : decode b_KReader_build 146 = .ok (.getfield 102, 3) := by decide +kernel
theorem d_KReader_build_149 : decode b_KReader_build 149 = .ok (.iload 4, 2) := by decide +kernel
theorem d_KReader_build_151 : decode b_KReader_build 151 = .ok (.aload_n 0, 1) := by decide +kernel
theorem d_KReader_build_152 : decode b_KReader_build 152 = .ok (.iload 6, 2) := by decide +kernel
theorem d_KReader_build_154 : decode b_KReader_build 154 = .ok (.iload 8, 2) := by decide +kernel
theorem d_KReader_build_156 : decode b_KReader_build 156 = .ok (.iload 6, 2) := by decide +kernel
theorem d_KReader_build_158 : decode b_KReader_build 158 = .ok (.isub, 1) := by decide +kernel
theorem d_KReader_build_159 : decode b_KReader_build 159 = .ok (.invokevirtual 470, 3) := by decide +kernel
theorem d_KReader_build_162 : decode b_KReader_build 162 = .ok (.iastore, 1) := by decide +kernel
theorem d_KReader_build_163 : decode b_KReader_build 163 = .ok (.aload_n 0, 1) := by decide +kernel
theorem d_KReader_build_164 : decode b_KReader_build 164 = .ok (.getfield 105, 3) := by decide +kernel
theorem d_KReader_build_167 : decode b_KReader_build 167 = .ok (.iload 4, 2) := by decide +kernel
theorem d_KReader_build_169 : decode b_KReader_build 169 = .ok (.iload 5, 2) := by decide +kernel
theorem d_KReader_build_171 : decode b_KReader_build 171 = .ok (.iastore, 1) := by decide +kernel
theorem d_KReader_build_172 : decode b_KReader_build 172 = .ok (.iinc 5 1, 3) := by decide +kernel
theorem d_KReader_build_175 : decode b_KReader_build 175 = .ok (.iload 8, 2) := by decide +kernel
theorem d_KReader_build_177 : decode b_KReader_build 177 = .ok (.iconst 1, 1) := by decide +kernel
theorem d_KReader_build_178 : decode b_KReader_build 178 = .ok (.isub, 1) := by decide +kernel
theorem d_KReader_build_179 : decode b_KReader_build 179 = .ok (.istore 6, 2) := by decide +kernel
theorem d_KReader_build_181 : decode b_KReader_build 181 = .ok (.iinc 6 1, 3) := by decide +kernel
theorem d_KReader_build_184 : decode b_KReader_build 184 = .ok (.goto (-173), 3) := by decide +kernel
theorem d_KReader_build_187 : decode b_KReader_build 187 = .ok (.return_, 1) := by decide +kernel
/-- KReader_build -/
def w_KReader_build (L : Nat → Nat) (a1 : Int) (a2 : Int) (Q : IS → Prop) (σ : IS) : Prop := WL (fun (K1 : Int × Int × Int × Int → IS → Prop) (s3 : Int × Int × Int × Int) (σ4 : IS) => if s3.2.2.2 < a2 then inL L 176 s3.2.2.2 ∧ WJ (fun (s8 : Int × Int × Int × Int) (σ9 : IS) => inR (s8.2.2.2 + 1) ∧ K1 (s8.1, s8.2.1, s8.2.2.1, (s8.2.2.2 + 1)) σ9) (fun J6 => if (σ4.2 176 (Int.toNat s3.2.2.2)) = 40 then w_KReader_newNode L 1 s3.1 s3.2.1 (fun v38 σ37 => J6 (v38, (-1), s3.2.2.1, s3.2.2.2) σ37) σ4 else if (σ4.2 176 (Int.toNat s3.2.2.2)) = 41 then inL L 198 s3.1 ∧ J6 ((σ4.2 198 (Int.toNat s3.1)), s3.1, s3.2.2.1, s3.2.2.2) σ4 else if (σ4.2 176 (Int.toNat s3.2.2.2)) = 124 then inL L 193 s3.1 ∧ J6 (s3.1, s3.2.1, s3.2.2.1, s3.2.2.2) (pr σ4 193 (Int.toNat s3.1) 2) else if ¬ (σ4.2 176 (Int.toNat s3.2.2.2)) = 63 ∧ (¬ (σ4.2 176 (Int.toNat s3.2.2.2)) = 42 ∧ (¬ (σ4.2 176 (Int.toNat s3.2.2.2)) = 43)) then w_K_isStart L (σ4.2 176 (Int.toNat s3.2.2.2)) (fun v15 σ14 => if v15 = 0 then J6 (s3.1, s3.2.1, s3.2.2.1, s3.2.2.2) σ14 else w_KReader_name L s3.2.2.2 (fun v18 σ17 => w_KReader_newNode L 0 s3.1 s3.2.1 (fun v20 σ19 => inR (v18 - s3.2.2.2) ∧ w_KReader_keep L s3.2.2.2 (v18 - s3.2.2.2) (fun v22 σ21 => inL L 195 v20 ∧ inL L 196 v20 ∧ inR (s3.2.2.1 + 1) ∧ inR (v18 - 1) ∧ J6 (s3.1, v20, (s3.2.2.1 + 1), (v18 - 1)) (pr (pr σ21 195 (Int.toNat v20) v22) 196 (Int.toNat v20) s3.2.2.1)) σ19) σ17) σ14) σ4 else inL L 194 s3.2.1 ∧ J6 (s3.1, s3.2.1, s3.2.2.1, s3.2.2.2) (pr σ4 194 (Int.toNat s3.2.1) (nb (σ4.2 176 (Int.toNat s3.2.2.2))))) else Q σ4) ((-1), (-1), 0, a1) σ
set_option maxHeartbeats 4000000 in
set_option maxRecDepth 20000 in
theorem s_KReader_build {L : Nat → Nat} (hL : ∀ r, L r < 2147483648) {d : Nat} (hd : 5 ≤ d) {a1 : Int} {a2 : Int} {Q : IS → Prop} {σ : IS}  (h : w_KReader_build L a1 a2 Q σ) : OkI BF L d 15 b_KReader_build 9 0 0 [] [some (.inr 16), some (.inl a1), some (.inl a2)] σ (qv Q) := by
  unfold w_KReader_build at h
  obtain ⟨d, rfl⟩ : ∃ e, d = e + 1 := ⟨d - 1, by omega⟩
  refine k_sb (lv' := [some (.inr 16), some (.inl a1), some (.inl a2), none, none, none, none, none, none]) (sb_s (sb_s (sb_s (sb_e (sb_e (sb_e (sb_e (sb_e (sb_e sb_nil))))))))) ?_
  refine k_iconst d_KReader_build_0 cI_m1 ?_
  refine k_istore_n (lv' := [some (.inr 16), some (.inl a1), some (.inl a2), some (.inl (-1)), none, none, none, none, none]) d_KReader_build_1 rfl rfl ?_
  refine k_iconst d_KReader_build_2 cI_m1 ?_
  refine k_istore (lv' := [some (.inr 16), some (.inl a1), some (.inl a2), some (.inl (-1)), some (.inl (-1)), none, none, none, none]) d_KReader_build_3 rfl rfl ?_
  refine k_iconst d_KReader_build_5 cI_0 ?_
  refine k_istore (lv' := [some (.inr 16), some (.inl a1), some (.inl a2), some (.inl (-1)), some (.inl (-1)), some (.inl 0), none, none, none]) d_KReader_build_6 rfl rfl ?_
  refine k_iload_n d_KReader_build_8 rfl ?_
  refine k_istore (lv' := [some (.inr 16), some (.inl a1), some (.inl a2), some (.inl (-1)), some (.inl (-1)), some (.inl 0), some (.inl a1), none, none]) d_KReader_build_9 rfl rfl ?_
  refine k_sb (lv' := [some (.inr 16), none, some (.inl a2), some (.inl (-1)), some (.inl (-1)), some (.inl 0), some (.inl a1), none, none]) (sb_s (sb_n (sb_s (sb_s (sb_s (sb_s (sb_s (sb_s (sb_s sb_nil))))))))) ?_
  refine k_loop (S := Int × Int × Int × Int) (st := fun _ => []) (lv := fun s3 => [some (.inr 16), none, some (.inl a2), some (.inl s3.1), some (.inl s3.2.1), some (.inl s3.2.2.1), some (.inl s3.2.2.2), none, none]) (fun K1 hK2 s3 σ4 h => ?_) ((-1), (-1), 0, a1) _ h
  refine k_iload d_KReader_build_11 rfl ?_
  refine k_iload_n d_KReader_build_13 rfl ?_
  refine k_icge d_KReader_build_14 rfl (fun c5 => ?_) (fun c5 => ?_)
  · have h := ineg c5 h
    exact k_ret d_KReader_build_187 h
  · have h := ipos c5 h
    refine k_aload_n d_KReader_build_17 rfl ?_
    refine k_getR d_KReader_build_18 fl_15_45 ob_16 rfl ?_
    refine k_iload d_KReader_build_21 rfl ?_
    obtain ⟨p39, h⟩ := h
    refine k_ild (x := (σ4.2 176 (Int.toNat s3.2.2.2))) d_KReader_build_23 rI_176 p39 rfl ?_
    refine k_istore (lv' := [some (.inr 16), none, some (.inl a2), some (.inl s3.1), some (.inl s3.2.1), some (.inl s3.2.2.1), some (.inl s3.2.2.2), some (.inl (σ4.2 176 (Int.toNat s3.2.2.2))), none]) d_KReader_build_24 rfl rfl ?_
    refine k_iload d_KReader_build_26 rfl ?_
    refine k_bipush d_KReader_build_28 cB_40 ?_
    refine k_join (S := Int × Int × Int × Int) (pc' := 181) (st' := fun s8 => []) (lv' := fun s8 => [some (.inr 16), none, some (.inl a2), some (.inl s8.1), some (.inl s8.2.1), some (.inl s8.2.2.1), some (.inl s8.2.2.2), none, none]) (fun s8 σ9 h => ?_) (fun J6 hJ7 h => ?_) h
    · obtain ⟨p10, h⟩ := h
      refine k_iinc (lv' := [some (.inr 16), none, some (.inl a2), some (.inl s8.1), some (.inl s8.2.1), some (.inl s8.2.2.1), some (.inl (s8.2.2.2 + 1)), none, none]) d_KReader_build_181 cI_1 rfl rfl p10 rfl ?_
      refine k_goto d_KReader_build_184 rfl ?_
      exact k_sb (sb_s (sb_s (sb_s (sb_s (sb_s (sb_s (sb_s (sb_s (sb_s sb_nil))))))))) (hK2 (s8.1, s8.2.1, s8.2.2.1, (s8.2.2.2 + 1)) _ h)
    · refine k_icne d_KReader_build_30 rfl (fun c11 => ?_) (fun c11 => ?_)
      · have h := ineg c11 h
        refine k_iload d_KReader_build_48 rfl ?_
        refine k_bipush d_KReader_build_50 cB_41 ?_
        refine k_icne d_KReader_build_52 rfl (fun c12 => ?_) (fun c12 => ?_)
        · have h := ineg c12 h
          refine k_iload d_KReader_build_68 rfl ?_
          refine k_bipush d_KReader_build_70 cB_124 ?_
          refine k_icne d_KReader_build_72 rfl (fun c13 => ?_) (fun c13 => ?_)
          · have h := ineg c13 h
            refine k_iload d_KReader_build_85 rfl ?_
            refine k_bipush d_KReader_build_87 cB_63 ?_
            have hX29 : (¬ (σ4.2 176 (Int.toNat s3.2.2.2)) = 63 ∧ (¬ (σ4.2 176 (Int.toNat s3.2.2.2)) = 42 ∧ (¬ (σ4.2 176 (Int.toNat s3.2.2.2)) = 43))) → OkI BF L (d + 1) 15 b_KReader_build 9 0 119 [] [some (.inr 16), none, some (.inl a2), some (.inl s3.1), some (.inl s3.2.1), some (.inl s3.2.2.1), some (.inl s3.2.2.2), some (.inl (σ4.2 176 (Int.toNat s3.2.2.2))), none] σ4 (qv Q) := fun e31 => by
              have h := ipos e31 h
              refine k_iload d_KReader_build_119 rfl ?_
              refine k_csi [.inl (σ4.2 176 (Int.toNat s3.2.2.2))] d_KReader_build_121 ml_15_300 (Or.inr rfl) rfl rfl rfl (s_K_isStart hL (by omega)  h) (fun v15 σ14 h => ?_)
              refine k_ifeq d_KReader_build_124 rfl (fun c16 => ?_) (fun c16 => ?_)
              · have h := ipos c16 h
                exact k_sb (sb_s (sb_s (sb_s (sb_s (sb_s (sb_s (sb_s (sb_n (sb_s sb_nil))))))))) (hJ7 (s3.1, s3.2.1, s3.2.2.1, s3.2.2.2) _ h)
              · have h := ineg c16 h
                refine k_aload_n d_KReader_build_127 rfl ?_
                refine k_iload d_KReader_build_128 rfl ?_
                refine k_cvi [.inl s3.2.2.2] d_KReader_build_130 ml_15_341 rfl rfl ob_16 rfl (s_KReader_name hL (by omega)  h) (fun v18 σ17 h => ?_)
                refine k_istore (lv' := [some (.inr 16), none, some (.inl a2), some (.inl s3.1), some (.inl s3.2.1), some (.inl s3.2.2.1), some (.inl s3.2.2.2), some (.inl (σ4.2 176 (Int.toNat s3.2.2.2))), some (.inl v18)]) d_KReader_build_133 rfl rfl ?_
                refine k_aload_n d_KReader_build_135 rfl ?_
                refine k_iconst d_KReader_build_136 cI_0 ?_
                refine k_iload_n d_KReader_build_137 rfl ?_
                refine k_iload d_KReader_build_138 rfl ?_
                refine k_cvi [.inl 0, .inl s3.1, .inl s3.2.1] d_KReader_build_140 ml_15_588 rfl rfl ob_16 rfl (s_KReader_newNode hL (by omega)  h) (fun v20 σ19 h => ?_)
                refine k_istore (lv' := [some (.inr 16), none, some (.inl a2), some (.inl s3.1), some (.inl v20), some (.inl s3.2.2.1), some (.inl s3.2.2.2), some (.inl (σ4.2 176 (Int.toNat s3.2.2.2))), some (.inl v18)]) d_KReader_build_143 rfl rfl ?_
                refine k_aload_n d_KReader_build_145 rfl ?_
                refine k_getR d_KReader_build_146 fl_15_102 ob_16 rfl ?_
                refine k_iload d_KReader_build_149 rfl ?_
                refine k_aload_n d_KReader_build_151 rfl ?_
                refine k_iload d_KReader_build_152 rfl ?_
                refine k_iload d_KReader_build_154 rfl ?_
                refine k_iload d_KReader_build_156 rfl ?_
                obtain ⟨p27, h⟩ := h
                refine k_isub d_KReader_build_158 p27 ?_
                refine k_cvi [.inl s3.2.2.2, .inl (v18 - s3.2.2.2)] d_KReader_build_159 ml_15_470 rfl rfl ob_16 rfl (s_KReader_keep hL (by omega)  h) (fun v22 σ21 h => ?_)
                obtain ⟨p26, h⟩ := h
                refine k_ist d_KReader_build_162 rI_195 p26 ?_
                refine k_aload_n d_KReader_build_163 rfl ?_
                refine k_getR d_KReader_build_164 fl_15_105 ob_16 rfl ?_
                refine k_iload d_KReader_build_167 rfl ?_
                refine k_iload d_KReader_build_169 rfl ?_
                obtain ⟨p25, h⟩ := h
                refine k_ist d_KReader_build_171 rI_196 p25 ?_
                obtain ⟨p24, h⟩ := h
                refine k_iinc (lv' := [some (.inr 16), none, some (.inl a2), some (.inl s3.1), some (.inl v20), some (.inl (s3.2.2.1 + 1)), some (.inl s3.2.2.2), some (.inl (σ4.2 176 (Int.toNat s3.2.2.2))), some (.inl v18)]) d_KReader_build_172 cI_1 rfl rfl p24 rfl ?_
                refine k_iload d_KReader_build_175 rfl ?_
                refine k_iconst d_KReader_build_177 cI_1 ?_
                obtain ⟨p23, h⟩ := h
                refine k_isub d_KReader_build_178 p23 ?_
                refine k_istore (lv' := [some (.inr 16), none, some (.inl a2), some (.inl s3.1), some (.inl v20), some (.inl (s3.2.2.1 + 1)), some (.inl (v18 - 1)), some (.inl (σ4.2 176 (Int.toNat s3.2.2.2))), some (.inl v18)]) d_KReader_build_179 rfl rfl ?_
                exact k_sb (sb_s (sb_s (sb_s (sb_s (sb_s (sb_s (sb_s (sb_n (sb_n sb_nil))))))))) (hJ7 (s3.1, v20, (s3.2.2.1 + 1), (v18 - 1)) _ h)
            have hY30 : ¬ (¬ (σ4.2 176 (Int.toNat s3.2.2.2)) = 63 ∧ (¬ (σ4.2 176 (Int.toNat s3.2.2.2)) = 42 ∧ (¬ (σ4.2 176 (Int.toNat s3.2.2.2)) = 43))) → OkI BF L (d + 1) 15 b_KReader_build 9 0 106 [] [some (.inr 16), none, some (.inl a2), some (.inl s3.1), some (.inl s3.2.1), some (.inl s3.2.2.1), some (.inl s3.2.2.2), some (.inl (σ4.2 176 (Int.toNat s3.2.2.2))), none] σ4 (qv Q) := fun e31 => by
              have h := ineg e31 h
              refine k_aload_n d_KReader_build_106 rfl ?_
              refine k_getR d_KReader_build_107 fl_15_99 ob_16 rfl ?_
              refine k_iload d_KReader_build_110 rfl ?_
              refine k_iload d_KReader_build_112 rfl ?_
              refine k_i2b d_KReader_build_114 ?_
              obtain ⟨p28, h⟩ := h
              refine k_bst d_KReader_build_115 rb_194 p28 (nb_in _) ?_
              refine k_goto d_KReader_build_116 rfl ?_
              exact k_sb (sb_s (sb_s (sb_s (sb_s (sb_s (sb_s (sb_s (sb_n (sb_s sb_nil))))))))) (hJ7 (s3.1, s3.2.1, s3.2.2.1, s3.2.2.2) _ h)
            refine k_iceq d_KReader_build_89 rfl (fun c32 => ?_) (fun c32 => ?_)
            · exact hY30 (fun z => z.1 c32)
            · refine k_iload d_KReader_build_92 rfl ?_
              refine k_bipush d_KReader_build_94 cB_42 ?_
              refine k_iceq d_KReader_build_96 rfl (fun c33 => ?_) (fun c33 => ?_)
              · exact hY30 (fun z => (fun z => z.1 c33) z.2)
              · refine k_iload d_KReader_build_99 rfl ?_
                refine k_bipush d_KReader_build_101 cB_43 ?_
                refine k_icne d_KReader_build_103 rfl (fun c34 => ?_) (fun c34 => ?_)
                · exact hX29 (⟨c32, ⟨c33, c34⟩⟩)
                · exact hY30 (fun z => (fun z => (fun z => z c34) z.2) z.2)
          · have h := ipos c13 h
            refine k_aload_n d_KReader_build_75 rfl ?_
            refine k_getR d_KReader_build_76 fl_15_96 ob_16 rfl ?_
            refine k_iload_n d_KReader_build_79 rfl ?_
            refine k_iconst d_KReader_build_80 cI_2 ?_
            obtain ⟨p35, h⟩ := h
            refine k_bst d_KReader_build_81 rb_193 p35 (by decide) ?_
            refine k_goto d_KReader_build_82 rfl ?_
            exact k_sb (sb_s (sb_s (sb_s (sb_s (sb_s (sb_s (sb_s (sb_n (sb_s sb_nil))))))))) (hJ7 (s3.1, s3.2.1, s3.2.2.1, s3.2.2.2) _ h)
        · have h := ipos c12 h
          refine k_iload_n d_KReader_build_55 rfl ?_
          refine k_istore (lv' := [some (.inr 16), none, some (.inl a2), some (.inl s3.1), some (.inl s3.1), some (.inl s3.2.2.1), some (.inl s3.2.2.2), some (.inl (σ4.2 176 (Int.toNat s3.2.2.2))), none]) d_KReader_build_56 rfl rfl ?_
          refine k_aload_n d_KReader_build_58 rfl ?_
          refine k_getR d_KReader_build_59 fl_15_111 ob_16 rfl ?_
          refine k_iload_n d_KReader_build_62 rfl ?_
          obtain ⟨p36, h⟩ := h
          refine k_ild (x := (σ4.2 198 (Int.toNat s3.1))) d_KReader_build_63 rI_198 p36 rfl ?_
          refine k_istore_n (lv' := [some (.inr 16), none, some (.inl a2), some (.inl (σ4.2 198 (Int.toNat s3.1))), some (.inl s3.1), some (.inl s3.2.2.1), some (.inl s3.2.2.2), some (.inl (σ4.2 176 (Int.toNat s3.2.2.2))), none]) d_KReader_build_64 rfl rfl ?_
          refine k_goto d_KReader_build_65 rfl ?_
          exact k_sb (sb_s (sb_s (sb_s (sb_s (sb_s (sb_s (sb_s (sb_n (sb_s sb_nil))))))))) (hJ7 ((σ4.2 198 (Int.toNat s3.1)), s3.1, s3.2.2.1, s3.2.2.2) _ h)
      · have h := ipos c11 h
        refine k_aload_n d_KReader_build_33 rfl ?_
        refine k_iconst d_KReader_build_34 cI_1 ?_
        refine k_iload_n d_KReader_build_35 rfl ?_
        refine k_iload d_KReader_build_36 rfl ?_
        refine k_cvi [.inl 1, .inl s3.1, .inl s3.2.1] d_KReader_build_38 ml_15_588 rfl rfl ob_16 rfl (s_KReader_newNode hL (by omega)  h) (fun v38 σ37 h => ?_)
        refine k_istore_n (lv' := [some (.inr 16), none, some (.inl a2), some (.inl v38), some (.inl s3.2.1), some (.inl s3.2.2.1), some (.inl s3.2.2.2), some (.inl (σ4.2 176 (Int.toNat s3.2.2.2))), none]) d_KReader_build_41 rfl rfl ?_
        refine k_iconst d_KReader_build_42 cI_m1 ?_
        refine k_istore (lv' := [some (.inr 16), none, some (.inl a2), some (.inl v38), some (.inl (-1)), some (.inl s3.2.2.1), some (.inl s3.2.2.2), some (.inl (σ4.2 176 (Int.toNat s3.2.2.2))), none]) d_KReader_build_43 rfl rfl ?_
        refine k_goto d_KReader_build_45 rfl ?_
        exact k_sb (sb_s (sb_s (sb_s (sb_s (sb_s (sb_s (sb_s (sb_n (sb_s sb_nil))))))))) (hJ7 (v38, (-1), s3.2.2.1, s3.2.2.2) _ h)
theorem d_KReader_leafs_0 : decode b_KReader_leafs 0 = .ok (.iconst 0, 1) := by decide +kernel
theorem d_KReader_leafs_1 : decode b_KReader_leafs 1 = .ok (.istore_n 2, 1) := by decide +kernel
theorem d_KReader_leafs_2 : decode b_KReader_leafs 2 = .ok (.iload_n 1, 1) := by decide +kernel
theorem d_KReader_leafs_3 : decode b_KReader_leafs 3 = .ok (.istore_n 3, 1) := by decide +kernel
theorem d_KReader_leafs_4 : decode b_KReader_leafs 4 = .ok (.iload_n 3, 1) := by decide +kernel
theorem d_KReader_leafs_5 : decode b_KReader_leafs 5 = .ok (.aload_n 0, 1) := by decide +kernel
theorem d_KReader_leafs_6 : decode b_KReader_leafs 6 = .ok (.getfield 212, 3) := by decide +kernel
theorem d_KReader_leafs_9 : decode b_KReader_leafs 9 = .ok (.if_icmp .ge 43, 3) := by decide +kernel
theorem d_KReader_leafs_12 : decode b_KReader_leafs 12 = .ok (.iload_n 3, 1) := by decide +kernel
theorem d_KReader_leafs_13 : decode b_KReader_leafs 13 = .ok (.iload_n 1, 1) := by decide +kernel
theorem d_KReader_leafs_14 : decode b_KReader_leafs 14 = .ok (.if_icmp .eq 13, 3) := by decide +kernel
theorem d_KReader_leafs_17 : decode b_KReader_leafs 17 = .ok (.aload_n 0, 1) := by decide +kernel
theorem d_KReader_leafs_18 : decode b_KReader_leafs 18 = .ok (.getfield 111, 3) := by decide +kernel
theorem d_KReader_leafs_21 : decode b_KReader_leafs 21 = .ok (.iload_n 3, 1) := by decide +kernel
theorem d_KReader_leafs_22 : decode b_KReader_leafs 22 = .ok (.iaload, 1) := by decide +kernel
theorem d_KReader_leafs_23 : decode b_KReader_leafs 23 = .ok (.iload_n 1, 1) := by decide +kernel
theorem d_KReader_leafs_24 : decode b_KReader_leafs 24 = .ok (.if_icmp .lt 28, 3) := by decide +kernel
theorem d_KReader_leafs_27 : decode b_KReader_leafs 27 = .ok (.aload_n 0, 1) := by decide +kernel
theorem d_KReader_leafs_28 : decode b_KReader_leafs 28 = .ok (.getfield 96, 3) := by decide +kernel
theorem d_KReader_leafs_31 : decode b_KReader_leafs 31 = .ok (.iload_n 3, 1) := by decide +kernel
theorem d_KReader_leafs_32 : decode b_KReader_leafs 32 = .ok (.baload, 1) := by decide +kernel
theorem d_KReader_leafs_33 : decode b_KReader_leafs 33 = .ok (.ifCond .ne 13, 3) := by decide +kernel
theorem d_KReader_leafs_36 : decode b_KReader_leafs 36 = .ok (.aload_n 0, 1) := by decide +kernel
theorem d_KReader_leafs_37 : decode b_KReader_leafs 37 = .ok (.getfield 31, 3) := by decide +kernel
theorem d_KReader_leafs_40 : decode b_KReader_leafs 40 = .ok (.iload_n 2, 1) := by decide +kernel
theorem d_KReader_leafs_41 : decode b_KReader_leafs 41 = .ok (.iload_n 3, 1) := by decide +kernel
theorem d_KReader_leafs_42 : decode b_KReader_leafs 42 = .ok (.iastore, 1) := by decide +kernel
theorem d_KReader_leafs_43 : decode b_KReader_leafs 43 = .ok (.iinc 2 1, 3) := by decide +kernel
theorem d_KReader_leafs_46 : decode b_KReader_leafs 46 = .ok (.iinc 3 1, 3) := by decide +kernel
theorem d_KReader_leafs_49 : decode b_KReader_leafs 49 = .ok (.goto (-45), 3) := by decide +kernel
theorem d_KReader_leafs_52 : decode b_KReader_leafs 52 = .ok (.iload_n 2, 1) := by decide +kernel
theorem d_KReader_leafs_53 : decode b_KReader_leafs 53 = .ok (.ireturn, 1) := by decide +kernel
/-- KReader_leafs -/
def w_KReader_leafs (L : Nat → Nat) (a1 : Int) (Q : Int → IS → Prop) (σ : IS) : Prop := WL (fun (K1 : Int × Int → IS → Prop) (s3 : Int × Int) (σ4 : IS) => WJ (fun (s7 : Unit) (σ8 : IS) => Q s3.1 σ8) (fun J5 => if s3.2 < (σ4.1 16 47) then ((¬ s3.2 = a1 → inL L 198 s3.2)) ∧ if s3.2 = a1 ∨ (¬ (σ4.2 198 (Int.toNat s3.2)) < a1) then inL L 193 s3.2 ∧ WJ (fun (s13 : Int) (σ14 : IS) => inR (s3.2 + 1) ∧ K1 (s13, (s3.2 + 1)) σ14) (fun J11 => if (σ4.2 193 (Int.toNat s3.2)) = 0 then inL L 172 s3.1 ∧ inR (s3.1 + 1) ∧ J11 (s3.1 + 1) (pr σ4 172 (Int.toNat s3.1) s3.2) else J11 s3.1 σ4) else J5 () σ4 else J5 () σ4)) (0, a1) σ
set_option maxHeartbeats 4000000 in
set_option maxRecDepth 20000 in
theorem s_KReader_leafs {L : Nat → Nat} (hL : ∀ r, L r < 2147483648) {d : Nat} (hd : 0 ≤ d) {a1 : Int} {Q : Int → IS → Prop} {σ : IS}  (h : w_KReader_leafs L a1 Q σ) : OkI BF L d 15 b_KReader_leafs 4 1 0 [] [some (.inr 16), some (.inl a1)] σ (qi Q) := by
  unfold w_KReader_leafs at h
  refine k_sb (lv' := [some (.inr 16), some (.inl a1), none, none]) (sb_s (sb_s (sb_e (sb_e sb_nil)))) ?_
  refine k_iconst d_KReader_leafs_0 cI_0 ?_
  refine k_istore_n (lv' := [some (.inr 16), some (.inl a1), some (.inl 0), none]) d_KReader_leafs_1 rfl rfl ?_
  refine k_iload_n d_KReader_leafs_2 rfl ?_
  refine k_istore_n (lv' := [some (.inr 16), some (.inl a1), some (.inl 0), some (.inl a1)]) d_KReader_leafs_3 rfl rfl ?_
  refine k_sb (lv' := [some (.inr 16), some (.inl a1), some (.inl 0), some (.inl a1)]) (sb_s (sb_s (sb_s (sb_s sb_nil)))) ?_
  refine k_loop (S := Int × Int) (st := fun _ => []) (lv := fun s3 => [some (.inr 16), some (.inl a1), some (.inl s3.1), some (.inl s3.2)]) (fun K1 hK2 s3 σ4 h => ?_) (0, a1) _ h
  refine k_iload_n d_KReader_leafs_4 rfl ?_
  refine k_aload_n d_KReader_leafs_5 rfl ?_
  refine k_getI (x := (σ4.1 16 47)) d_KReader_leafs_6 fl_15_212 ob_16 rfl rfl ?_
  refine k_join (S := Unit) (pc' := 52) (st' := fun s7 => []) (lv' := fun s7 => [none, none, some (.inl s3.1), none]) (fun s7 σ8 h => ?_) (fun J5 hJ6 h => ?_) h
  · refine k_iload_n d_KReader_leafs_52 rfl ?_
    exact k_iret d_KReader_leafs_53 (Or.inl rfl) h
  · refine k_icge d_KReader_leafs_9 rfl (fun c9 => ?_) (fun c9 => ?_)
    · have h := ineg c9 h
      exact k_sb (sb_n (sb_n (sb_s (sb_n sb_nil)))) (hJ6 () _ h)
    · have h := ipos c9 h
      refine k_iload_n d_KReader_leafs_12 rfl ?_
      refine k_iload_n d_KReader_leafs_13 rfl ?_
      obtain ⟨pt23, h⟩ := h
      have hX20 : (s3.2 = a1 ∨ (¬ (σ4.2 198 (Int.toNat s3.2)) < a1)) → OkI BF L d 15 b_KReader_leafs 4 1 27 [] [some (.inr 16), some (.inl a1), some (.inl s3.1), some (.inl s3.2)] σ4 (qi Q) := fun e22 => by
        have h := ipos e22 h
        refine k_aload_n d_KReader_leafs_27 rfl ?_
        refine k_getR d_KReader_leafs_28 fl_15_96 ob_16 rfl ?_
        refine k_iload_n d_KReader_leafs_31 rfl ?_
        obtain ⟨p19, h⟩ := h
        refine k_bld (x := (σ4.2 193 (Int.toNat s3.2))) d_KReader_leafs_32 rB_193 p19 rfl ?_
        refine k_join (S := Int) (pc' := 46) (st' := fun s13 => []) (lv' := fun s13 => [some (.inr 16), some (.inl a1), some (.inl s13), some (.inl s3.2)]) (fun s13 σ14 h => ?_) (fun J11 hJ12 h => ?_) h
        · obtain ⟨p15, h⟩ := h
          refine k_iinc (lv' := [some (.inr 16), some (.inl a1), some (.inl s13), some (.inl (s3.2 + 1))]) d_KReader_leafs_46 cI_1 rfl rfl p15 rfl ?_
          refine k_goto d_KReader_leafs_49 rfl ?_
          exact k_sb (sb_s (sb_s (sb_s (sb_s sb_nil)))) (hK2 (s13, (s3.2 + 1)) _ h)
        · refine k_ifne d_KReader_leafs_33 rfl (fun c16 => ?_) (fun c16 => ?_)
          · have h := ineg c16 h
            exact k_sb (sb_s (sb_s (sb_s (sb_s sb_nil)))) (hJ12 s3.1 _ h)
          · have h := ipos c16 h
            refine k_aload_n d_KReader_leafs_36 rfl ?_
            refine k_getR d_KReader_leafs_37 fl_15_31 ob_16 rfl ?_
            refine k_iload_n d_KReader_leafs_40 rfl ?_
            refine k_iload_n d_KReader_leafs_41 rfl ?_
            obtain ⟨p18, h⟩ := h
            refine k_ist d_KReader_leafs_42 rI_172 p18 ?_
            obtain ⟨p17, h⟩ := h
            refine k_iinc (lv' := [some (.inr 16), some (.inl a1), some (.inl (s3.1 + 1)), some (.inl s3.2)]) d_KReader_leafs_43 cI_1 rfl rfl p17 rfl ?_
            exact k_sb (sb_s (sb_s (sb_s (sb_s sb_nil)))) (hJ12 (s3.1 + 1) _ h)
      have hY21 : ¬ (s3.2 = a1 ∨ (¬ (σ4.2 198 (Int.toNat s3.2)) < a1)) → OkI BF L d 15 b_KReader_leafs 4 1 52 [] [some (.inr 16), some (.inl a1), some (.inl s3.1), some (.inl s3.2)] σ4 (qi Q) := fun e22 => by
        have h := ineg e22 h
        exact k_sb (sb_n (sb_n (sb_s (sb_n sb_nil)))) (hJ6 () _ h)
      have pb24 := pt23
      refine k_iceq d_KReader_leafs_14 rfl (fun c25 => ?_) (fun c25 => ?_)
      · exact hX20 (Or.inl c25)
      · have pb24 := pb24 c25
        have p10 := pb24
        refine k_aload_n d_KReader_leafs_17 rfl ?_
        refine k_getR d_KReader_leafs_18 fl_15_111 ob_16 rfl ?_
        refine k_iload_n d_KReader_leafs_21 rfl ?_
        refine k_ild (x := (σ4.2 198 (Int.toNat s3.2))) d_KReader_leafs_22 rI_198 p10 rfl ?_
        refine k_iload_n d_KReader_leafs_23 rfl ?_
        refine k_iclt d_KReader_leafs_24 rfl (fun c26 => ?_) (fun c26 => ?_)
        · exact hY21 (fun z => z.elim c25 (fun z => z c26))
        · exact hX20 (Or.inr (c26))
theorem d_KReader_clearLater_0 : decode b_KReader_clearLater 0 = .ok (.aload_n 0, 1) := by decide +kernel
theorem d_KReader_clearLater_1 : decode b_KReader_clearLater 1 = .ok (.iconst 0, 1) := by decide +kernel
theorem d_KReader_clearLater_2 : decode b_KReader_clearLater 2 = .ok (.putfield 598, 3) := by decide +kernel
theorem d_KReader_clearLater_5 : decode b_KReader_clearLater 5 = .ok (.iconst 0, 1) := by decide +kernel
theorem d_KReader_clearLater_6 : decode b_KReader_clearLater 6 = .ok (.istore_n 2, 1) := by decide +kernel
theorem d_KReader_clearLater_7 : decode b_KReader_clearLater 7 = .ok (.iload_n 2, 1) := by decide +kernel
theorem d_KReader_clearLater_8 : decode b_KReader_clearLater 8 = .ok (.iload_n 1, 1) := by decide +kernel
theorem d_KReader_clearLater_9 : decode b_KReader_clearLater 9 = .ok (.if_icmp .ge 16, 3) := by decide +kernel
theorem d_KReader_clearLater_12 : decode b_KReader_clearLater 12 = .ok (.aload_n 0, 1) := by decide +kernel
theorem d_KReader_clearLater_13 : decode b_KReader_clearLater 13 = .ok (.getfield 37, 3) := by decide +kernel
theorem d_KReader_clearLater_16 : decode b_KReader_clearLater 16 = .ok (.iload_n 2, 1) := by decide +kernel
theorem d_KReader_clearLater_17 : decode b_KReader_clearLater 17 = .ok (.iconst 0, 1) := by decide +kernel
theorem d_KReader_clearLater_18 : decode b_KReader_clearLater 18 = .ok (.bastore, 1) := by decide +kernel
theorem d_KReader_clearLater_19 : decode b_KReader_clearLater 19 = .ok (.iinc 2 1, 3) := by decide +kernel
theorem d_KReader_clearLater_22 : decode b_KReader_clearLater 22 = .ok (.goto (-15), 3) := by decide +kernel
theorem d_KReader_clearLater_25 : decode b_KReader_clearLater 25 = .ok (.return_, 1) := by decide +kernel
/-- KReader_clearLater -/
def w_KReader_clearLater (L : Nat → Nat) (a1 : Int) (Q : IS → Prop) (σ : IS) : Prop := WL (fun (K1 : Int → IS → Prop) (s3 : Int) (σ4 : IS) => if s3 < a1 then inL L 174 s3 ∧ inR (s3 + 1) ∧ K1 (s3 + 1) (pr σ4 174 (Int.toNat s3) 0) else Q σ4) 0 (pf σ 16 73 0)
set_option maxHeartbeats 4000000 in
set_option maxRecDepth 20000 in
theorem s_KReader_clearLater {L : Nat → Nat} (hL : ∀ r, L r < 2147483648) {d : Nat} (hd : 0 ≤ d) {a1 : Int} {Q : IS → Prop} {σ : IS}  (h : w_KReader_clearLater L a1 Q σ) : OkI BF L d 15 b_KReader_clearLater 3 0 0 [] [some (.inr 16), some (.inl a1)] σ (qv Q) := by
  unfold w_KReader_clearLater at h
  refine k_sb (lv' := [some (.inr 16), some (.inl a1), none]) (sb_s (sb_s (sb_e sb_nil))) ?_
  refine k_aload_n d_KReader_clearLater_0 rfl ?_
  refine k_iconst d_KReader_clearLater_1 cI_0 ?_
  refine k_putZ d_KReader_clearLater_2 fl_15_598 ob_16 rfl (Or.inl rfl) ?_
  refine k_iconst d_KReader_clearLater_5 cI_0 ?_
  refine k_istore_n (lv' := [some (.inr 16), some (.inl a1), some (.inl 0)]) d_KReader_clearLater_6 rfl rfl ?_
  refine k_sb (lv' := [some (.inr 16), some (.inl a1), some (.inl 0)]) (sb_s (sb_s (sb_s sb_nil))) ?_
  refine k_loop (S := Int) (st := fun _ => []) (lv := fun s3 => [some (.inr 16), some (.inl a1), some (.inl s3)]) (fun K1 hK2 s3 σ4 h => ?_) 0 _ h
  refine k_iload_n d_KReader_clearLater_7 rfl ?_
  refine k_iload_n d_KReader_clearLater_8 rfl ?_
  refine k_icge d_KReader_clearLater_9 rfl (fun c5 => ?_) (fun c5 => ?_)
  · have h := ineg c5 h
    exact k_ret d_KReader_clearLater_25 h
  · have h := ipos c5 h
    refine k_aload_n d_KReader_clearLater_12 rfl ?_
    refine k_getR d_KReader_clearLater_13 fl_15_37 ob_16 rfl ?_
    refine k_iload_n d_KReader_clearLater_16 rfl ?_
    refine k_iconst d_KReader_clearLater_17 cI_0 ?_
    obtain ⟨p7, h⟩ := h
    refine k_zst d_KReader_clearLater_18 rz_174 p7 (Or.inl rfl) ?_
    obtain ⟨p6, h⟩ := h
    refine k_iinc (lv' := [some (.inr 16), some (.inl a1), some (.inl (s3 + 1))]) d_KReader_clearLater_19 cI_1 rfl rfl p6 rfl ?_
    refine k_goto d_KReader_clearLater_22 rfl ?_
    exact k_sb (sb_s (sb_s (sb_s sb_nil))) (hK2 (s3 + 1) _ h)
theorem d_KReader_isNullable_0 : decode b_KReader_isNullable 0 = .ok (.aload_n 0, 1) := by decide +kernel
theorem d_KReader_isNullable_1 : decode b_KReader_isNullable 1 = .ok (.getfield 99, 3) := by decide +kernel
theorem d_KReader_isNullable_4 : decode b_KReader_isNullable 4 = .ok (.iload_n 1, 1) := by decide +kernel
theorem d_KReader_isNullable_5 : decode b_KReader_isNullable 5 = .ok (.baload, 1) := by decide +kernel
theorem d_KReader_isNullable_6 : decode b_KReader_isNullable 6 = .ok (.bipush 63, 2) := by decide +kernel
theorem d_KReader_isNullable_8 : decode b_KReader_isNullable 8 = .ok (.if_icmp .eq 14, 3) := by decide +kernel
theorem d_KReader_isNullable_11 : decode b_KReader_isNullable 11 = .ok (.aload_n 0, 1) := by decide +kernel
theorem d_KReader_isNullable_12 : decode b_KReader_isNullable 12 = .ok (.getfield 99, 3) := by decide +kernel
theorem d_KReader_isNullable_15 : decode b_KReader_isNullable 15 = .ok (.iload_n 1, 1) := by decide +kernel
theorem d_KReader_isNullable_16 : decode b_KReader_isNullable 16 = .ok (.baload, 1) := by decide +kernel
theorem d_KReader_isNullable_17 : decode b_KReader_isNullable 17 = .ok (.bipush 42, 2) := by decide +kernel
theorem d_KReader_isNullable_19 : decode b_KReader_isNullable 19 = .ok (.if_icmp .ne 5, 3) := by decide +kernel
theorem d_KReader_isNullable_22 : decode b_KReader_isNullable 22 = .ok (.iconst 1, 1) := by decide +kernel
theorem d_KReader_isNullable_23 : decode b_KReader_isNullable 23 = .ok (.ireturn, 1) := by decide +kernel
theorem d_KReader_isNullable_24 : decode b_KReader_isNullable 24 = .ok (.aload_n 0, 1) := by decide +kernel
theorem d_KReader_isNullable_25 : decode b_KReader_isNullable 25 = .ok (.getfield 96, 3) := by decide +kernel
theorem d_KReader_isNullable_28 : decode b_KReader_isNullable 28 = .ok (.iload_n 1, 1) := by decide +kernel
theorem d_KReader_isNullable_29 : decode b_KReader_isNullable 29 = .ok (.baload, 1) := by decide +kernel
theorem d_KReader_isNullable_30 : decode b_KReader_isNullable 30 = .ok (.ifCond .ne 5, 3) := by decide +kernel
theorem d_KReader_isNullable_33 : decode b_KReader_isNullable 33 = .ok (.iconst 0, 1) := by decide +kernel
theorem d_KReader_isNullable_34 : decode b_KReader_isNullable 34 = .ok (.ireturn, 1) := by decide +kernel
theorem d_KReader_isNullable_35 : decode b_KReader_isNullable 35 = .ok (.iconst 1, 1) := by decide +kernel
theorem d_KReader_isNullable_36 : decode b_KReader_isNullable 36 = .ok (.istore_n 2, 1) := by decide +kernel
theorem d_KReader_isNullable_37 : decode b_KReader_isNullable 37 = .ok (.iconst 0, 1) := by decide +kernel
theorem d_KReader_isNullable_38 : decode b_KReader_isNullable 38 = .ok (.istore_n 3, 1) := by decide +kernel
theorem d_KReader_isNullable_39 : decode b_KReader_isNullable 39 = .ok (.aload_n 0, 1) := by decide +kernel
theorem d_KReader_isNullable_40 : decode b_KReader_isNullable 40 = .ok (.getfield 105, 3) := by decide +kernel
theorem d_KReader_isNullable_43 : decode b_KReader_isNullable 43 = .ok (.iload_n 1, 1) := by decide +kernel
theorem d_KReader_isNullable_44 : decode b_KReader_isNullable 44 = .ok (.iaload, 1) := by decide +kernel
theorem d_KReader_isNullable_45 : decode b_KReader_isNullable 45 = .ok (.istore 4, 2) := by decide +kernel
theorem d_KReader_isNullable_47 : decode b_KReader_isNullable 47 = .ok (.iload 4, 2) := by decide +kernel
theorem d_KReader_isNullable_49 : decode b_KReader_isNullable 49 = .ok (.ifCond .lt 53, 3) := by decide +kernel
theorem d_KReader_isNullable_52 : decode b_KReader_isNullable 52 = .ok (.aload_n 0, 1) := by decide +kernel
theorem d_KReader_isNullable_53 : decode b_KReader_isNullable 53 = .ok (.iload 4, 2) := by decide +kernel
theorem d_KReader_isNullable_55 : decode b_KReader_isNullable 55 = .ok (.invokevirtual 592, 3) := by decide +kernel
theorem d_KReader_isNullable_58 : decode b_KReader_isNullable 58 = .ok (.istore 5, 2) := by decide +kernel
theorem d_KReader_isNullable_60 : decode b_KReader_isNullable 60 = .ok (.iload_n 2, 1) := by decide +kernel
theorem d_KReader_isNullable_61 : decode b_KReader_isNullable 61 = .ok (.ifCond .eq 12, 3) := by decide +kernel
theorem d_KReader_isNullable_64 : decode b_KReader_isNullable 64 = .ok (.iload 5, 2) := by decide +kernel
theorem d_KReader_isNullable_66 : decode b_KReader_isNullable 66 = .ok (.ifCond .eq 7, 3) := by decide +kernel
theorem d_KReader_isNullable_69 : decode b_KReader_isNullable 69 = .ok (.iconst 1, 1) := by decide +kernel
theorem d_KReader_isNullable_70 : decode b_KReader_isNullable 70 = .ok (.goto 4, 3) := by decide +kernel
theorem d_KReader_isNullable_73 : decode b_KReader_isNullable 73 = .ok (.iconst 0, 1) := by decide +kernel
theorem d_KReader_isNullable_74 : decode b_KReader_isNullable 74 = .ok (.istore_n 2, 1) := by decide +kernel
theorem d_KReader_isNullable_75 : decode b_KReader_isNullable 75 = .ok (.iload_n 3, 1) := by decide +kernel
theorem d_KReader_isNullable_76 : decode b_KReader_isNullable 76 = .ok (.ifCond .ne 8, 3) := by decide +kernel
theorem d_KReader_isNullable_79 : decode b_KReader_isNullable 79 = .ok (.iload 5, 2) := by decide +kernel
theorem d_KReader_isNullable_81 : decode b_KReader_isNullable 81 = .ok (.ifCond .eq 7, 3) := by decide +kernel
theorem d_KReader_isNullable_84 : decode b_KReader_isNullable 84 = .ok (.iconst 1, 1) := by decide +kernel
theorem d_KReader_isNullable_85 : decode b_KReader_isNullable 85 = .ok (.goto 4, 3) := by decide +kernel
theorem d_KReader_isNullable_88 : decode b_KReader_isNullable 88 = .ok (.iconst 0, 1) := by decide +kernel
theorem d_KReader_isNullable_89 : decode b_KReader_isNullable 89 = .ok (.istore_n 3, 1) := by decide +kernel
theorem d_KReader_isNullable_90 : decode b_KReader_isNullable 90 = .ok (.aload_n 0, 1) := by decide +kernel
theorem d_KReader_isNullable_91 : decode b_KReader_isNullable 91 = .ok (.getfield 108, 3) := by decide +kernel
theorem d_KReader_isNullable_94 : decode b_KReader_isNullable 94 = .ok (.iload 4, 2) := by decide +kernel
theorem d_KReader_isNullable_96 : decode b_KReader_isNullable 96 = .ok (.iaload, 1) := by decide +kernel
theorem d_KReader_isNullable_97 : decode b_KReader_isNullable 97 = .ok (.istore 4, 2) := by decide +kernel
theorem d_KReader_isNullable_99 : decode b_KReader_isNullable 99 = .ok (.goto (-52), 3) := by decide +kernel
theorem d_KReader_isNullable_102 : decode b_KReader_isNullable 102 = .ok (.aload_n 0, 1) := by decide +kernel
theorem d_KReader_isNullable_103 : decode b_KReader_isNullable 103 = .ok (.getfield 96, 3) := by decide +kernel
theorem d_KReader_isNullable_106 : decode b_KReader_isNullable 106 = .ok (.iload_n 1, 1) := by decide +kernel
theorem d_KReader_isNullable_107 : decode b_KReader_isNullable 107 = .ok (.baload, 1) := by decide +kernel
theorem d_KReader_isNullable_108 : decode b_KReader_isNullable 108 = .ok (.iconst 1, 1) := by decide +kernel
theorem d_KReader_isNullable_109 : decode b_KReader_isNullable 109 = .ok (.if_icmp .ne 7, 3) := by decide +kernel
theorem d_KReader_isNullable_112 : decode b_KReader_isNullable 112 = .ok (.iload_n 2, 1) := by decide +kernel
theorem d_KReader_isNullable_113 : decode b_KReader_isNullable 113 = .ok (.goto 4, 3) := by decide +kernel
theorem d_KReader_isNullable_116 : decode b_KReader_isNullable 116 = .ok (.iload_n 3, 1) := by decide +kernel
theorem d_KReader_isNullable_117 : decode b_KReader_isNullable 117 = .ok (.ireturn, 1) := by decide +kernel
/-- KReader_isNullable -/
def w_KReader_isNullable (L : Nat → Nat) : Nat → Int → (Int → IS → Prop) → IS → Prop
  | 0, _, _, _ => False
  | n + 1, a1, Q, σ => inL L 194 a1 ∧ ((¬ (σ.2 194 (Int.toNat a1)) = 63 → inL L 194 a1)) ∧ if ¬ (σ.2 194 (Int.toNat a1)) = 63 ∧ (¬ (σ.2 194 (Int.toNat a1)) = 42) then inL L 193 a1 ∧ if (σ.2 193 (Int.toNat a1)) = 0 then Q 0 σ else inL L 196 a1 ∧ WL (fun (K3 : Int × Int × Int → IS → Prop) (s5 : Int × Int × Int) (σ6 : IS) => if s5.2.2 < 0 then inL L 193 a1 ∧ is01 (if (σ6.2 193 (Int.toNat a1)) = 1 then s5.1 else s5.2.1) ∧ Q (if (σ6.2 193 (Int.toNat a1)) = 1 then s5.1 else s5.2.1) σ6 else w_KReader_isNullable L n s5.2.2 (fun v15 σ14 => inL L 197 s5.2.2 ∧ K3 ((if s5.1 = 0 then (0 : Int) else (if v15 = 0 then (0 : Int) else (1 : Int))), (if s5.2.1 = 0 then (if v15 = 0 then (0 : Int) else (1 : Int)) else (1 : Int)), (σ14.2 197 (Int.toNat s5.2.2))) σ14) σ6) (1, 0, (σ.2 196 (Int.toNat a1))) σ else Q 1 σ
set_option maxHeartbeats 4000000 in
set_option maxRecDepth 20000 in
theorem s_KReader_isNullable {L : Nat → Nat} (hL : ∀ r, L r < 2147483648) : ∀ (n : Nat) {d : Nat}, n ≤ d → ∀ {a1 : Int} {Q : Int → IS → Prop} {σ : IS}, w_KReader_isNullable L n a1 Q σ → OkI BF L d 15 b_KReader_isNullable 6 2 0 [] [some (.inr 16), some (.inl a1)] σ (qi Q) := by
  intro n
  induction n with
  | zero => intro d hd a1 Q σ h; exact False.elim h
  | succ n ih =>
    intro d hd a1 Q σ h
    obtain ⟨d, rfl⟩ : ∃ e, d = e + 1 := ⟨d - 1, by omega⟩
    refine k_sb (lv' := [some (.inr 16), some (.inl a1), none, none, none, none]) (sb_s (sb_s (sb_e (sb_e (sb_e (sb_e sb_nil)))))) ?_
    refine k_aload_n d_KReader_isNullable_0 rfl ?_
    refine k_getR d_KReader_isNullable_1 fl_15_99 ob_16 rfl ?_
    refine k_iload_n d_KReader_isNullable_4 rfl ?_
    obtain ⟨p40, h⟩ := h
    refine k_bld (x := (σ.2 194 (Int.toNat a1))) d_KReader_isNullable_5 rB_194 p40 rfl ?_
    refine k_bipush d_KReader_isNullable_6 cB_63 ?_
    obtain ⟨pt36, h⟩ := h
    have hX33 : (¬ (σ.2 194 (Int.toNat a1)) = 63 ∧ (¬ (σ.2 194 (Int.toNat a1)) = 42)) → OkI BF L (d + 1) 15 b_KReader_isNullable 6 2 24 [] [some (.inr 16), some (.inl a1), none, none, none, none] σ (qi Q) := fun e35 => by
      have h := ipos e35 h
      refine k_aload_n d_KReader_isNullable_24 rfl ?_
      refine k_getR d_KReader_isNullable_25 fl_15_96 ob_16 rfl ?_
      refine k_iload_n d_KReader_isNullable_28 rfl ?_
      obtain ⟨p32, h⟩ := h
      refine k_bld (x := (σ.2 193 (Int.toNat a1))) d_KReader_isNullable_29 rB_193 p32 rfl ?_
      refine k_ifne d_KReader_isNullable_30 rfl (fun c2 => ?_) (fun c2 => ?_)
      · have h := ineg c2 h
        refine k_iconst d_KReader_isNullable_35 cI_1 ?_
        refine k_istore_n (lv' := [some (.inr 16), some (.inl a1), some (.inl 1), none, none, none]) d_KReader_isNullable_36 rfl rfl ?_
        refine k_iconst d_KReader_isNullable_37 cI_0 ?_
        refine k_istore_n (lv' := [some (.inr 16), some (.inl a1), some (.inl 1), some (.inl 0), none, none]) d_KReader_isNullable_38 rfl rfl ?_
        refine k_aload_n d_KReader_isNullable_39 rfl ?_
        refine k_getR d_KReader_isNullable_40 fl_15_105 ob_16 rfl ?_
        refine k_iload_n d_KReader_isNullable_43 rfl ?_
        obtain ⟨p31, h⟩ := h
        refine k_ild (x := (σ.2 196 (Int.toNat a1))) d_KReader_isNullable_44 rI_196 p31 rfl ?_
        refine k_istore (lv' := [some (.inr 16), some (.inl a1), some (.inl 1), some (.inl 0), some (.inl (σ.2 196 (Int.toNat a1))), none]) d_KReader_isNullable_45 rfl rfl ?_
        refine k_sb (lv' := [some (.inr 16), some (.inl a1), some (.inl 1), some (.inl 0), some (.inl (σ.2 196 (Int.toNat a1))), none]) (sb_s (sb_s (sb_s (sb_s (sb_s (sb_s sb_nil)))))) ?_
        refine k_loop (S := Int × Int × Int) (st := fun _ => []) (lv := fun s5 => [some (.inr 16), some (.inl a1), some (.inl s5.1), some (.inl s5.2.1), some (.inl s5.2.2), none]) (fun K3 hK4 s5 σ6 h => ?_) (1, 0, (σ.2 196 (Int.toNat a1))) _ h
        refine k_iload d_KReader_isNullable_47 rfl ?_
        refine k_iflt d_KReader_isNullable_49 rfl (fun c7 => ?_) (fun c7 => ?_)
        · have h := ipos c7 h
          refine k_aload_n d_KReader_isNullable_102 rfl ?_
          refine k_getR d_KReader_isNullable_103 fl_15_96 ob_16 rfl ?_
          refine k_iload_n d_KReader_isNullable_106 rfl ?_
          obtain ⟨p13, h⟩ := h
          refine k_bld (x := (σ6.2 193 (Int.toNat a1))) d_KReader_isNullable_107 rB_193 p13 rfl ?_
          refine k_iconst d_KReader_isNullable_108 cI_1 ?_
          have hV9 : OkI BF L (d + 1) 15 b_KReader_isNullable 6 2 117 [.inl (if (σ6.2 193 (Int.toNat a1)) = 1 then s5.1 else s5.2.1)] [some (.inr 16), some (.inl a1), some (.inl s5.1), some (.inl s5.2.1), some (.inl s5.2.2), none] σ6 (qi Q) := by
            obtain ⟨p8, h⟩ := h
            exact k_iret d_KReader_isNullable_117 (Or.inr ⟨rfl, p8⟩) h
          refine k_icne d_KReader_isNullable_109 rfl (fun c10 => ?_) (fun c10 => ?_)
          · have hV12 := k_eqI (if_neg c10) hV9
            refine k_iload_n d_KReader_isNullable_116 rfl ?_
            exact hV12
          · have hV11 := k_eqI (if_pos c10) hV9
            refine k_iload_n d_KReader_isNullable_112 rfl ?_
            refine k_goto d_KReader_isNullable_113 rfl ?_
            exact hV11
        · have h := ineg c7 h
          refine k_aload_n d_KReader_isNullable_52 rfl ?_
          refine k_iload d_KReader_isNullable_53 rfl ?_
          refine k_cvi [.inl s5.2.2] d_KReader_isNullable_55 ml_15_592 rfl rfl ob_16 rfl (ih (by omega)  h) (fun v15 σ14 h => ?_)
          refine k_istore (lv' := [some (.inr 16), some (.inl a1), some (.inl s5.1), some (.inl s5.2.1), some (.inl s5.2.2), some (.inl v15)]) d_KReader_isNullable_58 rfl rfl ?_
          refine k_iload_n d_KReader_isNullable_60 rfl ?_
          have hV24 : OkI BF L (d + 1) 15 b_KReader_isNullable 6 2 74 [.inl (if s5.1 = 0 then (0 : Int) else (if v15 = 0 then (0 : Int) else (1 : Int)))] [some (.inr 16), some (.inl a1), some (.inl s5.1), some (.inl s5.2.1), some (.inl s5.2.2), some (.inl v15)] σ14 (qi Q) := by
            refine k_istore_n (lv' := [some (.inr 16), some (.inl a1), some (.inl (if s5.1 = 0 then (0 : Int) else (if v15 = 0 then (0 : Int) else (1 : Int)))), some (.inl s5.2.1), some (.inl s5.2.2), some (.inl v15)]) d_KReader_isNullable_74 rfl rfl ?_
            refine k_iload_n d_KReader_isNullable_75 rfl ?_
            have hV17 : OkI BF L (d + 1) 15 b_KReader_isNullable 6 2 89 [.inl (if s5.2.1 = 0 then (if v15 = 0 then (0 : Int) else (1 : Int)) else (1 : Int))] [some (.inr 16), some (.inl a1), some (.inl (if s5.1 = 0 then (0 : Int) else (if v15 = 0 then (0 : Int) else (1 : Int)))), some (.inl s5.2.1), some (.inl s5.2.2), some (.inl v15)] σ14 (qi Q) := by
              refine k_istore_n (lv' := [some (.inr 16), some (.inl a1), some (.inl (if s5.1 = 0 then (0 : Int) else (if v15 = 0 then (0 : Int) else (1 : Int)))), some (.inl (if s5.2.1 = 0 then (if v15 = 0 then (0 : Int) else (1 : Int)) else (1 : Int))), some (.inl s5.2.2), some (.inl v15)]) d_KReader_isNullable_89 rfl rfl ?_
              refine k_aload_n d_KReader_isNullable_90 rfl ?_
              refine k_getR d_KReader_isNullable_91 fl_15_108 ob_16 rfl ?_
              refine k_iload d_KReader_isNullable_94 rfl ?_
              obtain ⟨p16, h⟩ := h
              refine k_ild (x := (σ14.2 197 (Int.toNat s5.2.2))) d_KReader_isNullable_96 rI_197 p16 rfl ?_
              refine k_istore (lv' := [some (.inr 16), some (.inl a1), some (.inl (if s5.1 = 0 then (0 : Int) else (if v15 = 0 then (0 : Int) else (1 : Int)))), some (.inl (if s5.2.1 = 0 then (if v15 = 0 then (0 : Int) else (1 : Int)) else (1 : Int))), some (.inl (σ14.2 197 (Int.toNat s5.2.2))), some (.inl v15)]) d_KReader_isNullable_97 rfl rfl ?_
              refine k_goto d_KReader_isNullable_99 rfl ?_
              exact k_sb (sb_s (sb_s (sb_s (sb_s (sb_s (sb_n sb_nil)))))) (hK4 ((if s5.1 = 0 then (0 : Int) else (if v15 = 0 then (0 : Int) else (1 : Int))), (if s5.2.1 = 0 then (if v15 = 0 then (0 : Int) else (1 : Int)) else (1 : Int)), (σ14.2 197 (Int.toNat s5.2.2))) _ h)
            refine k_ifne d_KReader_isNullable_76 rfl (fun c18 => ?_) (fun c18 => ?_)
            · have hV23 := k_eqI (if_neg c18) hV17
              refine k_iconst d_KReader_isNullable_84 cI_1 ?_
              refine k_goto d_KReader_isNullable_85 rfl ?_
              exact hV23
            · have hV19 := k_eqI (if_pos c18) hV17
              refine k_iload d_KReader_isNullable_79 rfl ?_
              refine k_ifeq d_KReader_isNullable_81 rfl (fun c20 => ?_) (fun c20 => ?_)
              · have hV21 := k_eqI (if_pos c20) hV19
                refine k_iconst d_KReader_isNullable_88 cI_0 ?_
                exact hV21
              · have hV22 := k_eqI (if_neg c20) hV19
                refine k_iconst d_KReader_isNullable_84 cI_1 ?_
                refine k_goto d_KReader_isNullable_85 rfl ?_
                exact hV22
          refine k_ifeq d_KReader_isNullable_61 rfl (fun c25 => ?_) (fun c25 => ?_)
          · have hV26 := k_eqI (if_pos c25) hV24
            refine k_iconst d_KReader_isNullable_73 cI_0 ?_
            exact hV26
          · have hV27 := k_eqI (if_neg c25) hV24
            refine k_iload d_KReader_isNullable_64 rfl ?_
            refine k_ifeq d_KReader_isNullable_66 rfl (fun c28 => ?_) (fun c28 => ?_)
            · have hV29 := k_eqI (if_pos c28) hV27
              refine k_iconst d_KReader_isNullable_73 cI_0 ?_
              exact hV29
            · have hV30 := k_eqI (if_neg c28) hV27
              refine k_iconst d_KReader_isNullable_69 cI_1 ?_
              refine k_goto d_KReader_isNullable_70 rfl ?_
              exact hV30
      · have h := ipos c2 h
        refine k_iconst d_KReader_isNullable_33 cI_0 ?_
        exact k_iret d_KReader_isNullable_34 (Or.inr ⟨rfl, Or.inl rfl⟩) h
    have hY34 : ¬ (¬ (σ.2 194 (Int.toNat a1)) = 63 ∧ (¬ (σ.2 194 (Int.toNat a1)) = 42)) → OkI BF L (d + 1) 15 b_KReader_isNullable 6 2 22 [] [some (.inr 16), some (.inl a1), none, none, none, none] σ (qi Q) := fun e35 => by
      have h := ineg e35 h
      refine k_iconst d_KReader_isNullable_22 cI_1 ?_
      exact k_iret d_KReader_isNullable_23 (Or.inr ⟨rfl, Or.inr rfl⟩) h
    have pb37 := pt36
    refine k_iceq d_KReader_isNullable_8 rfl (fun c38 => ?_) (fun c38 => ?_)
    · exact hY34 (fun z => z.1 c38)
    · have pb37 := pb37 c38
      have p1 := pb37
      refine k_aload_n d_KReader_isNullable_11 rfl ?_
      refine k_getR d_KReader_isNullable_12 fl_15_99 ob_16 rfl ?_
      refine k_iload_n d_KReader_isNullable_15 rfl ?_
      refine k_bld (x := (σ.2 194 (Int.toNat a1))) d_KReader_isNullable_16 rB_194 p1 rfl ?_
      refine k_bipush d_KReader_isNullable_17 cB_42 ?_
      refine k_icne d_KReader_isNullable_19 rfl (fun c39 => ?_) (fun c39 => ?_)
      · exact hX33 (⟨c38, c39⟩)
      · exact hY34 (fun z => (fun z => z c39) z.2)
theorem d_KReader_enter_0 : decode b_KReader_enter 0 = .ok (.aload_n 0, 1) := by decide +kernel
theorem d_KReader_enter_1 : decode b_KReader_enter 1 = .ok (.getfield 96, 3) := by decide +kernel
theorem d_KReader_enter_4 : decode b_KReader_enter 4 = .ok (.iload_n 1, 1) := by decide +kernel
theorem d_KReader_enter_5 : decode b_KReader_enter 5 = .ok (.baload, 1) := by decide +kernel
theorem d_KReader_enter_6 : decode b_KReader_enter 6 = .ok (.ifCond .ne 16, 3) := by decide +kernel
theorem d_KReader_enter_9 : decode b_KReader_enter 9 = .ok (.aload_n 0, 1) := by decide +kernel
theorem d_KReader_enter_10 : decode b_KReader_enter 10 = .ok (.getfield 37, 3) := by decide +kernel
theorem d_KReader_enter_13 : decode b_KReader_enter 13 = .ok (.aload_n 0, 1) := by decide +kernel
theorem d_KReader_enter_14 : decode b_KReader_enter 14 = .ok (.getfield 105, 3) := by decide +kernel
theorem d_KReader_enter_17 : decode b_KReader_enter 17 = .ok (.iload_n 1, 1) := by decide +kernel
theorem d_KReader_enter_18 : decode b_KReader_enter 18 = .ok (.iaload, 1) := by decide +kernel
theorem d_KReader_enter_19 : decode b_KReader_enter 19 = .ok (.iconst 1, 1) := by decide +kernel
theorem d_KReader_enter_20 : decode b_KReader_enter 20 = .ok (.bastore, 1) := by decide +kernel
theorem d_KReader_enter_21 : decode b_KReader_enter 21 = .ok (.return_, 1) := by decide +kernel
theorem d_KReader_enter_22 : decode b_KReader_enter 22 = .ok (.iconst 1, 1) := by decide +kernel
theorem d_KReader_enter_23 : decode b_KReader_enter 23 = .ok (.istore_n 2, 1) := by decide +kernel
theorem d_KReader_enter_24 : decode b_KReader_enter 24 = .ok (.aload_n 0, 1) := by decide +kernel
theorem d_KReader_enter_25 : decode b_KReader_enter 25 = .ok (.getfield 105, 3) := by decide +kernel
theorem d_KReader_enter_28 : decode b_KReader_enter 28 = .ok (.iload_n 1, 1) := by decide +kernel
theorem d_KReader_enter_29 : decode b_KReader_enter 29 = .ok (.iaload, 1) := by decide +kernel
theorem d_KReader_enter_30 : decode b_KReader_enter 30 = .ok (.istore_n 3, 1) := by decide +kernel
theorem d_KReader_enter_31 : decode b_KReader_enter 31 = .ok (.iload_n 3, 1) := by decide +kernel
theorem d_KReader_enter_32 : decode b_KReader_enter 32 = .ok (.ifCond .lt 46, 3) := by decide +kernel
theorem d_KReader_enter_35 : decode b_KReader_enter 35 = .ok (.iload_n 2, 1) := by decide +kernel
theorem d_KReader_enter_36 : decode b_KReader_enter 36 = .ok (.ifCond .eq 42, 3) := by decide +kernel
theorem d_KReader_enter_39 : decode b_KReader_enter 39 = .ok (.aload_n 0, 1) := by decide +kernel
theorem d_KReader_enter_40 : decode b_KReader_enter 40 = .ok (.iload_n 3, 1) := by decide +kernel
theorem d_KReader_enter_41 : decode b_KReader_enter 41 = .ok (.invokevirtual 595, 3) := by decide +kernel
theorem d_KReader_enter_44 : decode b_KReader_enter 44 = .ok (.aload_n 0, 1) := by decide +kernel
theorem d_KReader_enter_45 : decode b_KReader_enter 45 = .ok (.getfield 96, 3) := by decide +kernel
theorem d_KReader_enter_48 : decode b_KReader_enter 48 = .ok (.iload_n 1, 1) := by decide +kernel
theorem d_KReader_enter_49 : decode b_KReader_enter 49 = .ok (.baload, 1) := by decide +kernel
theorem d_KReader_enter_50 : decode b_KReader_enter 50 = .ok (.iconst 2, 1) := by decide +kernel
theorem d_KReader_enter_51 : decode b_KReader_enter 51 = .ok (.if_icmp .eq 11, 3) := by decide +kernel
theorem d_KReader_enter_54 : decode b_KReader_enter 54 = .ok (.aload_n 0, 1) := by decide +kernel
theorem d_KReader_enter_55 : decode b_KReader_enter 55 = .ok (.iload_n 3, 1) := by decide +kernel
theorem d_KReader_enter_56 : decode b_KReader_enter 56 = .ok (.invokevirtual 592, 3) := by decide +kernel
theorem d_KReader_enter_59 : decode b_KReader_enter 59 = .ok (.ifCond .eq 7, 3) := by decide +kernel
theorem d_KReader_enter_62 : decode b_KReader_enter 62 = .ok (.iconst 1, 1) := by decide +kernel
theorem d_KReader_enter_63 : decode b_KReader_enter 63 = .ok (.goto 4, 3) := by decide +kernel
theorem d_KReader_enter_66 : decode b_KReader_enter 66 = .ok (.iconst 0, 1) := by decide +kernel
theorem d_KReader_enter_67 : decode b_KReader_enter 67 = .ok (.istore_n 2, 1) := by decide +kernel
theorem d_KReader_enter_68 : decode b_KReader_enter 68 = .ok (.aload_n 0, 1) := by decide +kernel
theorem d_KReader_enter_69 : decode b_KReader_enter 69 = .ok (.getfield 108, 3) := by decide +kernel
theorem d_KReader_enter_72 : decode b_KReader_enter 72 = .ok (.iload_n 3, 1) := by decide +kernel
theorem d_KReader_enter_73 : decode b_KReader_enter 73 = .ok (.iaload, 1) := by decide +kernel
theorem d_KReader_enter_74 : decode b_KReader_enter 74 = .ok (.istore_n 3, 1) := by decide +kernel
theorem d_KReader_enter_75 : decode b_KReader_enter 75 = .ok (.goto (-44), 3) := by decide +kernel
theorem d_KReader_enter_78 : decode b_KReader_enter 78 = .ok (.return_, 1) := by decide +kernel
/-- KReader_enter -/
def w_KReader_enter (L : Nat → Nat) : Nat → Int → (IS → Prop) → IS → Prop
  | 0, _, _, _ => False
  | n + 1, a1, Q, σ => inL L 193 a1 ∧ if (σ.2 193 (Int.toNat a1)) = 0 then inL L 196 a1 ∧ inL L 174 (σ.2 196 (Int.toNat a1)) ∧ Q (pr σ 174 (Int.toNat (σ.2 196 (Int.toNat a1))) 1) else inL L 196 a1 ∧ WL (fun (K2 : Int × Int → IS → Prop) (s4 : Int × Int) (σ5 : IS) => if ¬ s4.2 < 0 ∧ (¬ s4.1 = 0) then w_KReader_enter L n s4.2 (fun σ6 => inL L 193 a1 ∧ WJ (fun (s10 : Int) (σ11 : IS) => inL L 197 s4.2 ∧ K2 (s10, (σ11.2 197 (Int.toNat s4.2))) σ11) (fun J8 => WJ (fun (s15 : Unit) (σ16 : IS) => J8 1 σ16) (fun J13 => if (σ6.2 193 (Int.toNat a1)) = 2 then J13 () σ6 else w_KReader_isNullable L n s4.2 (fun v19 σ18 => if v19 = 0 then J8 0 σ18 else J13 () σ18) σ6))) σ5 else Q σ5) (1, (σ.2 196 (Int.toNat a1))) σ
set_option maxHeartbeats 4000000 in
set_option maxRecDepth 20000 in
theorem s_KReader_enter {L : Nat → Nat} (hL : ∀ r, L r < 2147483648) : ∀ (n : Nat) {d : Nat}, n ≤ d → ∀ {a1 : Int} {Q : IS → Prop} {σ : IS}, w_KReader_enter L n a1 Q σ → OkI BF L d 15 b_KReader_enter 4 0 0 [] [some (.inr 16), some (.inl a1)] σ (qv Q) := by
  intro n
  induction n with
  | zero => intro d hd a1 Q σ h; exact False.elim h
  | succ n ih =>
    intro d hd a1 Q σ h
    obtain ⟨d, rfl⟩ : ∃ e, d = e + 1 := ⟨d - 1, by omega⟩
    refine k_sb (lv' := [some (.inr 16), some (.inl a1), none, none]) (sb_s (sb_s (sb_e (sb_e sb_nil)))) ?_
    refine k_aload_n d_KReader_enter_0 rfl ?_
    refine k_getR d_KReader_enter_1 fl_15_96 ob_16 rfl ?_
    refine k_iload_n d_KReader_enter_4 rfl ?_
    obtain ⟨p30, h⟩ := h
    refine k_bld (x := (σ.2 193 (Int.toNat a1))) d_KReader_enter_5 rB_193 p30 rfl ?_
    refine k_ifne d_KReader_enter_6 rfl (fun c1 => ?_) (fun c1 => ?_)
    · have h := ineg c1 h
      refine k_iconst d_KReader_enter_22 cI_1 ?_
      refine k_istore_n (lv' := [some (.inr 16), some (.inl a1), some (.inl 1), none]) d_KReader_enter_23 rfl rfl ?_
      refine k_aload_n d_KReader_enter_24 rfl ?_
      refine k_getR d_KReader_enter_25 fl_15_105 ob_16 rfl ?_
      refine k_iload_n d_KReader_enter_28 rfl ?_
      obtain ⟨p27, h⟩ := h
      refine k_ild (x := (σ.2 196 (Int.toNat a1))) d_KReader_enter_29 rI_196 p27 rfl ?_
      refine k_istore_n (lv' := [some (.inr 16), some (.inl a1), some (.inl 1), some (.inl (σ.2 196 (Int.toNat a1)))]) d_KReader_enter_30 rfl rfl ?_
      refine k_sb (lv' := [some (.inr 16), some (.inl a1), some (.inl 1), some (.inl (σ.2 196 (Int.toNat a1)))]) (sb_s (sb_s (sb_s (sb_s sb_nil)))) ?_
      refine k_loop (S := Int × Int) (st := fun _ => []) (lv := fun s4 => [some (.inr 16), some (.inl a1), some (.inl s4.1), some (.inl s4.2)]) (fun K2 hK3 s4 σ5 h => ?_) (1, (σ.2 196 (Int.toNat a1))) _ h
      refine k_iload_n d_KReader_enter_31 rfl ?_
      have hX22 : (¬ s4.2 < 0 ∧ (¬ s4.1 = 0)) → OkI BF L (d + 1) 15 b_KReader_enter 4 0 39 [] [some (.inr 16), some (.inl a1), some (.inl s4.1), some (.inl s4.2)] σ5 (qv Q) := fun e24 => by
        have h := ipos e24 h
        refine k_aload_n d_KReader_enter_39 rfl ?_
        refine k_iload_n d_KReader_enter_40 rfl ?_
        refine k_cvv [.inl s4.2] d_KReader_enter_41 ml_15_595 rfl rfl ob_16 rfl (ih (by omega)  h) (fun σ6 h => ?_)
        refine k_aload_n d_KReader_enter_44 rfl ?_
        refine k_getR d_KReader_enter_45 fl_15_96 ob_16 rfl ?_
        refine k_iload_n d_KReader_enter_48 rfl ?_
        obtain ⟨p21, h⟩ := h
        refine k_bld (x := (σ6.2 193 (Int.toNat a1))) d_KReader_enter_49 rB_193 p21 rfl ?_
        refine k_iconst d_KReader_enter_50 cI_2 ?_
        refine k_join (S := Int) (pc' := 67) (st' := fun s10 => [.inl s10]) (lv' := fun s10 => [some (.inr 16), some (.inl a1), none, some (.inl s4.2)]) (fun s10 σ11 h => ?_) (fun J8 hJ9 h => ?_) h
        · refine k_istore_n (lv' := [some (.inr 16), some (.inl a1), some (.inl s10), some (.inl s4.2)]) d_KReader_enter_67 rfl rfl ?_
          refine k_aload_n d_KReader_enter_68 rfl ?_
          refine k_getR d_KReader_enter_69 fl_15_108 ob_16 rfl ?_
          refine k_iload_n d_KReader_enter_72 rfl ?_
          obtain ⟨p12, h⟩ := h
          refine k_ild (x := (σ11.2 197 (Int.toNat s4.2))) d_KReader_enter_73 rI_197 p12 rfl ?_
          refine k_istore_n (lv' := [some (.inr 16), some (.inl a1), some (.inl s10), some (.inl (σ11.2 197 (Int.toNat s4.2)))]) d_KReader_enter_74 rfl rfl ?_
          refine k_goto d_KReader_enter_75 rfl ?_
          exact k_sb (sb_s (sb_s (sb_s (sb_s sb_nil)))) (hK3 (s10, (σ11.2 197 (Int.toNat s4.2))) _ h)
        · refine k_join (S := Unit) (pc' := 62) (st' := fun s15 => []) (lv' := fun s15 => [some (.inr 16), some (.inl a1), none, some (.inl s4.2)]) (fun s15 σ16 h => ?_) (fun J13 hJ14 h => ?_) h
          · refine k_iconst d_KReader_enter_62 cI_1 ?_
            refine k_goto d_KReader_enter_63 rfl ?_
            exact k_sb (sb_s (sb_s (sb_s (sb_s sb_nil)))) (hJ9 1 _ h)
          · refine k_iceq d_KReader_enter_51 rfl (fun c17 => ?_) (fun c17 => ?_)
            · have h := ipos c17 h
              exact k_sb (sb_s (sb_s (sb_n (sb_s sb_nil)))) (hJ14 () _ h)
            · have h := ineg c17 h
              refine k_aload_n d_KReader_enter_54 rfl ?_
              refine k_iload_n d_KReader_enter_55 rfl ?_
              refine k_cvi [.inl s4.2] d_KReader_enter_56 ml_15_592 rfl rfl ob_16 rfl (s_KReader_isNullable hL n (by omega)  h) (fun v19 σ18 h => ?_)
              refine k_ifeq d_KReader_enter_59 rfl (fun c20 => ?_) (fun c20 => ?_)
              · have h := ipos c20 h
                refine k_iconst d_KReader_enter_66 cI_0 ?_
                exact k_sb (sb_s (sb_s (sb_n (sb_s sb_nil)))) (hJ9 0 _ h)
              · have h := ineg c20 h
                exact k_sb (sb_s (sb_s (sb_n (sb_s sb_nil)))) (hJ14 () _ h)
      have hY23 : ¬ (¬ s4.2 < 0 ∧ (¬ s4.1 = 0)) → OkI BF L (d + 1) 15 b_KReader_enter 4 0 78 [] [some (.inr 16), some (.inl a1), some (.inl s4.1), some (.inl s4.2)] σ5 (qv Q) := fun e24 => by
        have h := ineg e24 h
        exact k_ret d_KReader_enter_78 h
      refine k_iflt d_KReader_enter_32 rfl (fun c25 => ?_) (fun c25 => ?_)
      · exact hY23 (fun z => z.1 c25)
      · refine k_iload_n d_KReader_enter_35 rfl ?_
        refine k_ifeq d_KReader_enter_36 rfl (fun c26 => ?_) (fun c26 => ?_)
        · exact hY23 (fun z => (fun z => z c26) z.2)
        · exact hX22 (⟨c25, c26⟩)
    · have h := ipos c1 h
      refine k_aload_n d_KReader_enter_9 rfl ?_
      refine k_getR d_KReader_enter_10 fl_15_37 ob_16 rfl ?_
      refine k_aload_n d_KReader_enter_13 rfl ?_
      refine k_getR d_KReader_enter_14 fl_15_105 ob_16 rfl ?_
      refine k_iload_n d_KReader_enter_17 rfl ?_
      obtain ⟨p29, h⟩ := h
      refine k_ild (x := (σ.2 196 (Int.toNat a1))) d_KReader_enter_18 rI_196 p29 rfl ?_
      refine k_iconst d_KReader_enter_19 cI_1 ?_
      obtain ⟨p28, h⟩ := h
      refine k_zst d_KReader_enter_20 rz_174 p28 (Or.inr rfl) ?_
      exact k_ret d_KReader_enter_21 h
theorem d_KReader_hasTwins_0 : decode b_KReader_hasTwins 0 = .ok (.iconst 0, 1) := by decide +kernel
theorem d_KReader_hasTwins_1 : decode b_KReader_hasTwins 1 = .ok (.istore_n 2, 1) := by decide +kernel
theorem d_KReader_hasTwins_2 : decode b_KReader_hasTwins 2 = .ok (.iload_n 2, 1) := by decide +kernel
theorem d_KReader_hasTwins_3 : decode b_KReader_hasTwins 3 = .ok (.iload_n 1, 1) := by decide +kernel
theorem d_KReader_hasTwins_4 : decode b_KReader_hasTwins 4 = .ok (.if_icmp .ge 67, 3) := by decide +kernel
theorem d_KReader_hasTwins_7 : decode b_KReader_hasTwins 7 = .ok (.iconst 0, 1) := by decide +kernel
theorem d_KReader_hasTwins_8 : decode b_KReader_hasTwins 8 = .ok (.istore_n 3, 1) := by decide +kernel
theorem d_KReader_hasTwins_9 : decode b_KReader_hasTwins 9 = .ok (.iload_n 3, 1) := by decide +kernel
theorem d_KReader_hasTwins_10 : decode b_KReader_hasTwins 10 = .ok (.iload_n 2, 1) := by decide +kernel
theorem d_KReader_hasTwins_11 : decode b_KReader_hasTwins 11 = .ok (.if_icmp .ge 54, 3) := by decide +kernel
theorem d_KReader_hasTwins_14 : decode b_KReader_hasTwins 14 = .ok (.aload_n 0, 1) := by decide +kernel
theorem d_KReader_hasTwins_15 : decode b_KReader_hasTwins 15 = .ok (.getfield 37, 3) := by decide +kernel
theorem d_KReader_hasTwins_18 : decode b_KReader_hasTwins 18 = .ok (.iload_n 2, 1) := by decide +kernel
theorem d_KReader_hasTwins_19 : decode b_KReader_hasTwins 19 = .ok (.baload, 1) := by decide +kernel
theorem d_KReader_hasTwins_20 : decode b_KReader_hasTwins 20 = .ok (.ifCond .eq 45, 3) := by decide +kernel
theorem d_KReader_hasTwins_23 : decode b_KReader_hasTwins 23 = .ok (.aload_n 0, 1) := by decide +kernel
theorem d_KReader_hasTwins_24 : decode b_KReader_hasTwins 24 = .ok (.getfield 37, 3) := by decide +kernel
theorem d_KReader_hasTwins_27 : decode b_KReader_hasTwins 27 = .ok (.iload_n 3, 1) := by decide +kernel
theorem d_KReader_hasTwins_28 : decode b_KReader_hasTwins 28 = .ok (.baload, 1) := by decide +kernel
theorem d_KReader_hasTwins_29 : decode b_KReader_hasTwins 29 = .ok (.ifCond .eq 30, 3) := by decide +kernel
theorem d_KReader_hasTwins_32 : decode b_KReader_hasTwins 32 = .ok (.aload_n 0, 1) := by decide +kernel
theorem d_KReader_hasTwins_33 : decode b_KReader_hasTwins 33 = .ok (.getfield 102, 3) := by decide +kernel
theorem d_KReader_hasTwins_36 : decode b_KReader_hasTwins 36 = .ok (.aload_n 0, 1) := by decide +kernel
theorem d_KReader_hasTwins_37 : decode b_KReader_hasTwins 37 = .ok (.getfield 31, 3) := by decide +kernel
theorem d_KReader_hasTwins_40 : decode b_KReader_hasTwins 40 = .ok (.iload_n 3, 1) := by decide +kernel
theorem d_KReader_hasTwins_41 : decode b_KReader_hasTwins 41 = .ok (.iaload, 1) := by decide +kernel
theorem d_KReader_hasTwins_42 : decode b_KReader_hasTwins 42 = .ok (.iaload, 1) := by decide +kernel
theorem d_KReader_hasTwins_43 : decode b_KReader_hasTwins 43 = .ok (.aload_n 0, 1) := by decide +kernel
theorem d_KReader_hasTwins_44 : decode b_KReader_hasTwins 44 = .ok (.getfield 102, 3) := by decide +kernel
theorem d_KReader_hasTwins_47 : decode b_KReader_hasTwins 47 = .ok (.aload_n 0, 1) := by decide +kernel
theorem d_KReader_hasTwins_48 : decode b_KReader_hasTwins 48 = .ok (.getfield 31, 3) := by decide +kernel
theorem d_KReader_hasTwins_51 : decode b_KReader_hasTwins 51 = .ok (.iload_n 2, 1) := by decide +kernel
theorem d_KReader_hasTwins_52 : decode b_KReader_hasTwins 52 = .ok (.iaload, 1) := by decide +kernel
theorem d_KReader_hasTwins_53 : decode b_KReader_hasTwins 53 = .ok (.iaload, 1) := by decide +kernel
theorem d_KReader_hasTwins_54 : decode b_KReader_hasTwins 54 = .ok (.if_icmp .ne 5, 3) := by decide +kernel
theorem d_KReader_hasTwins_57 : decode b_KReader_hasTwins 57 = .ok (.iconst 1, 1) := by decide +kernel
theorem d_KReader_hasTwins_58 : decode b_KReader_hasTwins 58 = .ok (.ireturn, 1) := by decide +kernel
theorem d_KReader_hasTwins_59 : decode b_KReader_hasTwins 59 = .ok (.iinc 3 1, 3) := by decide +kernel
theorem d_KReader_hasTwins_62 : decode b_KReader_hasTwins 62 = .ok (.goto (-53), 3) := by decide +kernel
theorem d_KReader_hasTwins_65 : decode b_KReader_hasTwins 65 = .ok (.iinc 2 1, 3) := by decide +kernel
theorem d_KReader_hasTwins_68 : decode b_KReader_hasTwins 68 = .ok (.goto (-66), 3) := by decide +kernel
theorem d_KReader_hasTwins_71 : decode b_KReader_hasTwins 71 = .ok (.iconst 0, 1) := by decide +kernel
theorem d_KReader_hasTwins_72 : decode b_KReader_hasTwins 72 = .ok (.ireturn, 1) := by decide +kernel
/-- KReader_hasTwins -/
def w_KReader_hasTwins (L : Nat → Nat) (a1 : Int) (Q : Int → IS → Prop) (σ : IS) : Prop := WL (fun (K1 : Int → IS → Prop) (s3 : Int) (σ4 : IS) => if s3 < a1 then WL (fun (K6 : Int → IS → Prop) (s8 : Int) (σ9 : IS) => ((s8 < s3 → inL L 174 s3)) ∧ if s8 < s3 ∧ (¬ (σ9.2 174 (Int.toNat s3)) = 0) then inL L 174 s8 ∧ ((¬ (σ9.2 174 (Int.toNat s8)) = 0 → (inL L 172 s8 ∧ inL L 195 (σ9.2 172 (Int.toNat s8)) ∧ inL L 172 s3 ∧ inL L 195 (σ9.2 172 (Int.toNat s3))))) ∧ if ¬ (σ9.2 174 (Int.toNat s8)) = 0 ∧ ((σ9.2 195 (Int.toNat (σ9.2 172 (Int.toNat s8)))) = (σ9.2 195 (Int.toNat (σ9.2 172 (Int.toNat s3))))) then Q 1 σ9 else inR (s8 + 1) ∧ K6 (s8 + 1) σ9 else inR (s3 + 1) ∧ K1 (s3 + 1) σ9) 0 σ4 else Q 0 σ4) 0 σ
set_option maxHeartbeats 4000000 in
set_option maxRecDepth 20000 in
theorem s_KReader_hasTwins {L : Nat → Nat} (hL : ∀ r, L r < 2147483648) {d : Nat} (hd : 0 ≤ d) {a1 : Int} {Q : Int → IS → Prop} {σ : IS}  (h : w_KReader_hasTwins L a1 Q σ) : OkI BF L d 15 b_KReader_hasTwins 4 2 0 [] [some (.inr 16), some (.inl a1)] σ (qi Q) := by
  unfold w_KReader_hasTwins at h
  refine k_sb (lv' := [some (.inr 16), some (.inl a1), none, none]) (sb_s (sb_s (sb_e (sb_e sb_nil)))) ?_
  refine k_iconst d_KReader_hasTwins_0 cI_0 ?_
  refine k_istore_n (lv' := [some (.inr 16), some (.inl a1), some (.inl 0), none]) d_KReader_hasTwins_1 rfl rfl ?_
  refine k_sb (lv' := [some (.inr 16), some (.inl a1), some (.inl 0), none]) (sb_s (sb_s (sb_s (sb_s sb_nil)))) ?_
  refine k_loop (S := Int) (st := fun _ => []) (lv := fun s3 => [some (.inr 16), some (.inl a1), some (.inl s3), none]) (fun K1 hK2 s3 σ4 h => ?_) 0 _ h
  refine k_iload_n d_KReader_hasTwins_2 rfl ?_
  refine k_iload_n d_KReader_hasTwins_3 rfl ?_
  refine k_icge d_KReader_hasTwins_4 rfl (fun c5 => ?_) (fun c5 => ?_)
  · have h := ineg c5 h
    refine k_iconst d_KReader_hasTwins_71 cI_0 ?_
    exact k_iret d_KReader_hasTwins_72 (Or.inr ⟨rfl, Or.inl rfl⟩) h
  · have h := ipos c5 h
    refine k_iconst d_KReader_hasTwins_7 cI_0 ?_
    refine k_istore_n (lv' := [some (.inr 16), some (.inl a1), some (.inl s3), some (.inl 0)]) d_KReader_hasTwins_8 rfl rfl ?_
    refine k_sb (lv' := [some (.inr 16), some (.inl a1), some (.inl s3), some (.inl 0)]) (sb_s (sb_s (sb_s (sb_s sb_nil)))) ?_
    refine k_loop (S := Int) (st := fun _ => []) (lv := fun s8 => [some (.inr 16), some (.inl a1), some (.inl s3), some (.inl s8)]) (fun K6 hK7 s8 σ9 h => ?_) 0 _ h
    refine k_iload_n d_KReader_hasTwins_9 rfl ?_
    refine k_iload_n d_KReader_hasTwins_10 rfl ?_
    obtain ⟨pt28, h⟩ := h
    have hX25 : (s8 < s3 ∧ (¬ (σ9.2 174 (Int.toNat s3)) = 0)) → OkI BF L d 15 b_KReader_hasTwins 4 2 23 [] [some (.inr 16), some (.inl a1), some (.inl s3), some (.inl s8)] σ9 (qi Q) := fun e27 => by
      have h := ipos e27 h
      refine k_aload_n d_KReader_hasTwins_23 rfl ?_
      refine k_getR d_KReader_hasTwins_24 fl_15_37 ob_16 rfl ?_
      refine k_iload_n d_KReader_hasTwins_27 rfl ?_
      obtain ⟨p23, h⟩ := h
      refine k_bld (x := (σ9.2 174 (Int.toNat s8))) d_KReader_hasTwins_28 rB_174 p23 rfl ?_
      obtain ⟨pt19, h⟩ := h
      have hX16 : (¬ (σ9.2 174 (Int.toNat s8)) = 0 ∧ ((σ9.2 195 (Int.toNat (σ9.2 172 (Int.toNat s8)))) = (σ9.2 195 (Int.toNat (σ9.2 172 (Int.toNat s3)))))) → OkI BF L d 15 b_KReader_hasTwins 4 2 57 [] [some (.inr 16), some (.inl a1), some (.inl s3), some (.inl s8)] σ9 (qi Q) := fun e18 => by
        have h := ipos e18 h
        refine k_iconst d_KReader_hasTwins_57 cI_1 ?_
        exact k_iret d_KReader_hasTwins_58 (Or.inr ⟨rfl, Or.inr rfl⟩) h
      have hY17 : ¬ (¬ (σ9.2 174 (Int.toNat s8)) = 0 ∧ ((σ9.2 195 (Int.toNat (σ9.2 172 (Int.toNat s8)))) = (σ9.2 195 (Int.toNat (σ9.2 172 (Int.toNat s3)))))) → OkI BF L d 15 b_KReader_hasTwins 4 2 59 [] [some (.inr 16), some (.inl a1), some (.inl s3), some (.inl s8)] σ9 (qi Q) := fun e18 => by
        have h := ineg e18 h
        obtain ⟨p15, h⟩ := h
        refine k_iinc (lv' := [some (.inr 16), some (.inl a1), some (.inl s3), some (.inl (s8 + 1))]) d_KReader_hasTwins_59 cI_1 rfl rfl p15 rfl ?_
        refine k_goto d_KReader_hasTwins_62 rfl ?_
        exact k_sb (sb_s (sb_s (sb_s (sb_s sb_nil)))) (hK7 (s8 + 1) _ h)
      have pb20 := pt19
      refine k_ifeq d_KReader_hasTwins_29 rfl (fun c21 => ?_) (fun c21 => ?_)
      · exact hY17 (fun z => z.1 c21)
      · have pb20 := pb20 c21
        obtain ⟨p11, p12, p13, p14⟩ := pb20
        refine k_aload_n d_KReader_hasTwins_32 rfl ?_
        refine k_getR d_KReader_hasTwins_33 fl_15_102 ob_16 rfl ?_
        refine k_aload_n d_KReader_hasTwins_36 rfl ?_
        refine k_getR d_KReader_hasTwins_37 fl_15_31 ob_16 rfl ?_
        refine k_iload_n d_KReader_hasTwins_40 rfl ?_
        refine k_ild (x := (σ9.2 172 (Int.toNat s8))) d_KReader_hasTwins_41 rI_172 p11 rfl ?_
        refine k_ild (x := (σ9.2 195 (Int.toNat (σ9.2 172 (Int.toNat s8))))) d_KReader_hasTwins_42 rI_195 p12 rfl ?_
        refine k_aload_n d_KReader_hasTwins_43 rfl ?_
        refine k_getR d_KReader_hasTwins_44 fl_15_102 ob_16 rfl ?_
        refine k_aload_n d_KReader_hasTwins_47 rfl ?_
        refine k_getR d_KReader_hasTwins_48 fl_15_31 ob_16 rfl ?_
        refine k_iload_n d_KReader_hasTwins_51 rfl ?_
        refine k_ild (x := (σ9.2 172 (Int.toNat s3))) d_KReader_hasTwins_52 rI_172 p13 rfl ?_
        refine k_ild (x := (σ9.2 195 (Int.toNat (σ9.2 172 (Int.toNat s3))))) d_KReader_hasTwins_53 rI_195 p14 rfl ?_
        refine k_icne d_KReader_hasTwins_54 rfl (fun c22 => ?_) (fun c22 => ?_)
        · exact hY17 (fun z => (c22) z.2)
        · exact hX16 (⟨c21, c22⟩)
    have hY26 : ¬ (s8 < s3 ∧ (¬ (σ9.2 174 (Int.toNat s3)) = 0)) → OkI BF L d 15 b_KReader_hasTwins 4 2 65 [] [some (.inr 16), some (.inl a1), some (.inl s3), some (.inl s8)] σ9 (qi Q) := fun e27 => by
      have h := ineg e27 h
      obtain ⟨p24, h⟩ := h
      refine k_iinc (lv' := [some (.inr 16), some (.inl a1), some (.inl (s3 + 1)), some (.inl s8)]) d_KReader_hasTwins_65 cI_1 rfl rfl p24 rfl ?_
      refine k_goto d_KReader_hasTwins_68 rfl ?_
      exact k_sb (sb_s (sb_s (sb_s (sb_n sb_nil)))) (hK2 (s3 + 1) _ h)
    have pa29 := pt28
    refine k_icge d_KReader_hasTwins_11 rfl (fun c30 => ?_) (fun c30 => ?_)
    · exact hY26 (fun z => c30 z.1)
    · have pa29 := pa29 c30
      have p10 := pa29
      refine k_aload_n d_KReader_hasTwins_14 rfl ?_
      refine k_getR d_KReader_hasTwins_15 fl_15_37 ob_16 rfl ?_
      refine k_iload_n d_KReader_hasTwins_18 rfl ?_
      refine k_bld (x := (σ9.2 174 (Int.toNat s3))) d_KReader_hasTwins_19 rB_174 p10 rfl ?_
      refine k_ifeq d_KReader_hasTwins_20 rfl (fun c31 => ?_) (fun c31 => ?_)
      · exact hY26 (fun z => (fun z => z c31) z.2)
      · exact hX25 (⟨c30, c31⟩)
theorem d_KReader_leave_0 : decode b_KReader_leave 0 = .ok (.iload_n 1, 1) := by decide +kernel
theorem d_KReader_leave_1 : decode b_KReader_leave 1 = .ok (.istore_n 2, 1) := by decide +kernel
theorem d_KReader_leave_2 : decode b_KReader_leave 2 = .ok (.iload_n 2, 1) := by decide +kernel
theorem d_KReader_leave_3 : decode b_KReader_leave 3 = .ok (.ifCond .lt 109, 3) := by decide +kernel
theorem d_KReader_leave_6 : decode b_KReader_leave 6 = .ok (.aload_n 0, 1) := by decide +kernel
theorem d_KReader_leave_7 : decode b_KReader_leave 7 = .ok (.getfield 99, 3) := by decide +kernel
theorem d_KReader_leave_10 : decode b_KReader_leave 10 = .ok (.iload_n 2, 1) := by decide +kernel
theorem d_KReader_leave_11 : decode b_KReader_leave 11 = .ok (.baload, 1) := by decide +kernel
theorem d_KReader_leave_12 : decode b_KReader_leave 12 = .ok (.bipush 42, 2) := by decide +kernel
theorem d_KReader_leave_14 : decode b_KReader_leave 14 = .ok (.if_icmp .eq 14, 3) := by decide +kernel
theorem d_KReader_leave_17 : decode b_KReader_leave 17 = .ok (.aload_n 0, 1) := by decide +kernel
theorem d_KReader_leave_18 : decode b_KReader_leave 18 = .ok (.getfield 99, 3) := by decide +kernel
theorem d_KReader_leave_21 : decode b_KReader_leave 21 = .ok (.iload_n 2, 1) := by decide +kernel
theorem d_KReader_leave_22 : decode b_KReader_leave 22 = .ok (.baload, 1) := by decide +kernel
theorem d_KReader_leave_23 : decode b_KReader_leave 23 = .ok (.bipush 43, 2) := by decide +kernel
theorem d_KReader_leave_25 : decode b_KReader_leave 25 = .ok (.if_icmp .ne 8, 3) := by decide +kernel
theorem d_KReader_leave_28 : decode b_KReader_leave 28 = .ok (.aload_n 0, 1) := by decide +kernel
theorem d_KReader_leave_29 : decode b_KReader_leave 29 = .ok (.iload_n 2, 1) := by decide +kernel
theorem d_KReader_leave_30 : decode b_KReader_leave 30 = .ok (.invokevirtual 595, 3) := by decide +kernel
theorem d_KReader_leave_33 : decode b_KReader_leave 33 = .ok (.aload_n 0, 1) := by decide +kernel
theorem d_KReader_leave_34 : decode b_KReader_leave 34 = .ok (.getfield 111, 3) := by decide +kernel
theorem d_KReader_leave_37 : decode b_KReader_leave 37 = .ok (.iload_n 2, 1) := by decide +kernel
theorem d_KReader_leave_38 : decode b_KReader_leave 38 = .ok (.iaload, 1) := by decide +kernel
theorem d_KReader_leave_39 : decode b_KReader_leave 39 = .ok (.istore_n 3, 1) := by decide +kernel
theorem d_KReader_leave_40 : decode b_KReader_leave 40 = .ok (.iload_n 3, 1) := by decide +kernel
theorem d_KReader_leave_41 : decode b_KReader_leave 41 = .ok (.ifCond .lt 66, 3) := by decide +kernel
theorem d_KReader_leave_44 : decode b_KReader_leave 44 = .ok (.aload_n 0, 1) := by decide +kernel
theorem d_KReader_leave_45 : decode b_KReader_leave 45 = .ok (.getfield 96, 3) := by decide +kernel
theorem d_KReader_leave_48 : decode b_KReader_leave 48 = .ok (.iload_n 3, 1) := by decide +kernel
theorem d_KReader_leave_49 : decode b_KReader_leave 49 = .ok (.baload, 1) := by decide +kernel
theorem d_KReader_leave_50 : decode b_KReader_leave 50 = .ok (.iconst 1, 1) := by decide +kernel
theorem d_KReader_leave_51 : decode b_KReader_leave 51 = .ok (.if_icmp .ne 56, 3) := by decide +kernel
theorem d_KReader_leave_54 : decode b_KReader_leave 54 = .ok (.aload_n 0, 1) := by decide +kernel
theorem d_KReader_leave_55 : decode b_KReader_leave 55 = .ok (.getfield 108, 3) := by decide +kernel
theorem d_KReader_leave_58 : decode b_KReader_leave 58 = .ok (.iload_n 2, 1) := by decide +kernel
theorem d_KReader_leave_59 : decode b_KReader_leave 59 = .ok (.iaload, 1) := by decide +kernel
theorem d_KReader_leave_60 : decode b_KReader_leave 60 = .ok (.istore 4, 2) := by decide +kernel
theorem d_KReader_leave_62 : decode b_KReader_leave 62 = .ok (.iconst 1, 1) := by decide +kernel
theorem d_KReader_leave_63 : decode b_KReader_leave 63 = .ok (.istore 5, 2) := by decide +kernel
theorem d_KReader_leave_65 : decode b_KReader_leave 65 = .ok (.iload 4, 2) := by decide +kernel
theorem d_KReader_leave_67 : decode b_KReader_leave 67 = .ok (.ifCond .lt 34, 3) := by decide +kernel
theorem d_KReader_leave_70 : decode b_KReader_leave 70 = .ok (.iload 5, 2) := by decide +kernel
theorem d_KReader_leave_72 : decode b_KReader_leave 72 = .ok (.ifCond .eq 29, 3) := by decide +kernel
theorem d_KReader_leave_75 : decode b_KReader_leave 75 = .ok (.aload_n 0, 1) := by decide +kernel
theorem d_KReader_leave_76 : decode b_KReader_leave 76 = .ok (.iload 4, 2) := by decide +kernel
theorem d_KReader_leave_78 : decode b_KReader_leave 78 = .ok (.invokevirtual 595, 3) := by decide +kernel
theorem d_KReader_leave_81 : decode b_KReader_leave 81 = .ok (.aload_n 0, 1) := by decide +kernel
theorem d_KReader_leave_82 : decode b_KReader_leave 82 = .ok (.iload 4, 2) := by decide +kernel
theorem d_KReader_leave_84 : decode b_KReader_leave 84 = .ok (.invokevirtual 592, 3) := by decide +kernel
theorem d_KReader_leave_87 : decode b_KReader_leave 87 = .ok (.istore 5, 2) := by decide +kernel
theorem d_KReader_leave_89 : decode b_KReader_leave 89 = .ok (.aload_n 0, 1) := by decide +kernel
theorem d_KReader_leave_90 : decode b_KReader_leave 90 = .ok (.getfield 108, 3) := by decide +kernel
theorem d_KReader_leave_93 : decode b_KReader_leave 93 = .ok (.iload 4, 2) := by decide +kernel
theorem d_KReader_leave_95 : decode b_KReader_leave 95 = .ok (.iaload, 1) := by decide +kernel
theorem d_KReader_leave_96 : decode b_KReader_leave 96 = .ok (.istore 4, 2) := by decide +kernel
theorem d_KReader_leave_98 : decode b_KReader_leave 98 = .ok (.goto (-33), 3) := by decide +kernel
theorem d_KReader_leave_101 : decode b_KReader_leave 101 = .ok (.iload 5, 2) := by decide +kernel
theorem d_KReader_leave_103 : decode b_KReader_leave 103 = .ok (.ifCond .ne 4, 3) := by decide +kernel
theorem d_KReader_leave_106 : decode b_KReader_leave 106 = .ok (.return_, 1) := by decide +kernel
theorem d_KReader_leave_107 : decode b_KReader_leave 107 = .ok (.iload_n 3, 1) := by decide +kernel
theorem d_KReader_leave_108 : decode b_KReader_leave 108 = .ok (.istore_n 2, 1) := by decide +kernel
theorem d_KReader_leave_109 : decode b_KReader_leave 109 = .ok (.goto (-107), 3) := by decide +kernel
theorem d_KReader_leave_112 : decode b_KReader_leave 112 = .ok (.aload_n 0, 1) := by decide +kernel
theorem d_KReader_leave_113 : decode b_KReader_leave 113 = .ok (.iconst 1, 1) := by decide +kernel
theorem d_KReader_leave_114 : decode b_KReader_leave 114 = .ok (.putfield 598, 3) := by decide +kernel
theorem d_KReader_leave_117 : decode b_KReader_leave 117 = .ok (.return_, 1) := by decide +kernel
/-- KReader_leave -/
def w_KReader_leave (L : Nat → Nat) (a1 : Int) (Q : IS → Prop) (σ : IS) : Prop := WL (fun (K1 : Int → IS → Prop) (s3 : Int) (σ4 : IS) => if s3 < 0 then Q (pf σ4 16 73 1) else inL L 194 s3 ∧ WJ (fun (s8 : Unit) (σ9 : IS) => inL L 198 s3 ∧ WJ (fun (s12 : Unit) (σ13 : IS) => K1 (σ9.2 198 (Int.toNat s3)) σ13) (fun J10 => ((¬ (σ9.2 198 (Int.toNat s3)) < 0 → inL L 193 (σ9.2 198 (Int.toNat s3)))) ∧ if ¬ (σ9.2 198 (Int.toNat s3)) < 0 ∧ ((σ9.2 193 (Int.toNat (σ9.2 198 (Int.toNat s3)))) = 1) then inL L 197 s3 ∧ WL (fun (K15 : Int × Int → IS → Prop) (s17 : Int × Int) (σ18 : IS) => if ¬ s17.1 < 0 ∧ (¬ s17.2 = 0) then w_KReader_enter L 70 s17.1 (fun σ19 => w_KReader_isNullable L 70 s17.1 (fun v22 σ21 => inL L 197 s17.1 ∧ K15 ((σ21.2 197 (Int.toNat s17.1)), v22) σ21) σ19) σ18 else if s17.2 = 0 then Q σ18 else J10 () σ18) ((σ9.2 197 (Int.toNat s3)), 1) σ9 else J10 () σ9)) (fun J6 => ((¬ (σ4.2 194 (Int.toNat s3)) = 42 → inL L 194 s3)) ∧ if (σ4.2 194 (Int.toNat s3)) = 42 ∨ ((σ4.2 194 (Int.toNat s3)) = 43) then w_KReader_enter L 70 s3 (fun σ40 => J6 () σ40) σ4 else J6 () σ4)) a1 σ
set_option maxHeartbeats 4000000 in
set_option maxRecDepth 20000 in
theorem s_KReader_leave {L : Nat → Nat} (hL : ∀ r, L r < 2147483648) {d : Nat} (hd : 71 ≤ d) {a1 : Int} {Q : IS → Prop} {σ : IS}  (h : w_KReader_leave L a1 Q σ) : OkI BF L d 15 b_KReader_leave 6 0 0 [] [some (.inr 16), some (.inl a1)] σ (qv Q) := by
  unfold w_KReader_leave at h
  obtain ⟨d, rfl⟩ : ∃ e, d = e + 1 := ⟨d - 1, by omega⟩
  refine k_sb (lv' := [some (.inr 16), some (.inl a1), none, none, none, none]) (sb_s (sb_s (sb_e (sb_e (sb_e (sb_e sb_nil)))))) ?_
  refine k_iload_n d_KReader_leave_0 rfl ?_
  refine k_istore_n (lv' := [some (.inr 16), some (.inl a1), some (.inl a1), none, none, none]) d_KReader_leave_1 rfl rfl ?_
  refine k_sb (lv' := [some (.inr 16), none, some (.inl a1), none, none, none]) (sb_s (sb_n (sb_s (sb_s (sb_s (sb_s sb_nil)))))) ?_
  refine k_loop (S := Int) (st := fun _ => []) (lv := fun s3 => [some (.inr 16), none, some (.inl s3), none, none, none]) (fun K1 hK2 s3 σ4 h => ?_) a1 _ h
  refine k_iload_n d_KReader_leave_2 rfl ?_
  refine k_iflt d_KReader_leave_3 rfl (fun c5 => ?_) (fun c5 => ?_)
  · have h := ipos c5 h
    refine k_aload_n d_KReader_leave_112 rfl ?_
    refine k_iconst d_KReader_leave_113 cI_1 ?_
    refine k_putZ d_KReader_leave_114 fl_15_598 ob_16 rfl (Or.inr rfl) ?_
    exact k_ret d_KReader_leave_117 h
  · have h := ineg c5 h
    refine k_aload_n d_KReader_leave_6 rfl ?_
    refine k_getR d_KReader_leave_7 fl_15_99 ob_16 rfl ?_
    refine k_iload_n d_KReader_leave_10 rfl ?_
    obtain ⟨p49, h⟩ := h
    refine k_bld (x := (σ4.2 194 (Int.toNat s3))) d_KReader_leave_11 rB_194 p49 rfl ?_
    refine k_bipush d_KReader_leave_12 cB_42 ?_
    refine k_join (S := Unit) (pc' := 33) (st' := fun s8 => []) (lv' := fun s8 => [some (.inr 16), none, some (.inl s3), none, none, none]) (fun s8 σ9 h => ?_) (fun J6 hJ7 h => ?_) h
    · refine k_aload_n d_KReader_leave_33 rfl ?_
      refine k_getR d_KReader_leave_34 fl_15_111 ob_16 rfl ?_
      refine k_iload_n d_KReader_leave_37 rfl ?_
      obtain ⟨p38, h⟩ := h
      refine k_ild (x := (σ9.2 198 (Int.toNat s3))) d_KReader_leave_38 rI_198 p38 rfl ?_
      refine k_istore_n (lv' := [some (.inr 16), none, some (.inl s3), some (.inl (σ9.2 198 (Int.toNat s3))), none, none]) d_KReader_leave_39 rfl rfl ?_
      refine k_iload_n d_KReader_leave_40 rfl ?_
      refine k_join (S := Unit) (pc' := 107) (st' := fun s12 => []) (lv' := fun s12 => [some (.inr 16), none, none, some (.inl (σ9.2 198 (Int.toNat s3))), none, none]) (fun s12 σ13 h => ?_) (fun J10 hJ11 h => ?_) h
      · refine k_iload_n d_KReader_leave_107 rfl ?_
        refine k_istore_n (lv' := [some (.inr 16), none, some (.inl (σ9.2 198 (Int.toNat s3))), some (.inl (σ9.2 198 (Int.toNat s3))), none, none]) d_KReader_leave_108 rfl rfl ?_
        refine k_goto d_KReader_leave_109 rfl ?_
        exact k_sb (sb_s (sb_s (sb_s (sb_n (sb_s (sb_s sb_nil)))))) (hK2 (σ9.2 198 (Int.toNat s3)) _ h)
      · obtain ⟨pt34, h⟩ := h
        have hX31 : (¬ (σ9.2 198 (Int.toNat s3)) < 0 ∧ ((σ9.2 193 (Int.toNat (σ9.2 198 (Int.toNat s3)))) = 1)) → OkI BF L (d + 1) 15 b_KReader_leave 6 0 54 [] [some (.inr 16), none, some (.inl s3), some (.inl (σ9.2 198 (Int.toNat s3))), none, none] σ9 (qv Q) := fun e33 => by
          have h := ipos e33 h
          refine k_aload_n d_KReader_leave_54 rfl ?_
          refine k_getR d_KReader_leave_55 fl_15_108 ob_16 rfl ?_
          refine k_iload_n d_KReader_leave_58 rfl ?_
          obtain ⟨p30, h⟩ := h
          refine k_ild (x := (σ9.2 197 (Int.toNat s3))) d_KReader_leave_59 rI_197 p30 rfl ?_
          refine k_istore (lv' := [some (.inr 16), none, some (.inl s3), some (.inl (σ9.2 198 (Int.toNat s3))), some (.inl (σ9.2 197 (Int.toNat s3))), none]) d_KReader_leave_60 rfl rfl ?_
          refine k_iconst d_KReader_leave_62 cI_1 ?_
          refine k_istore (lv' := [some (.inr 16), none, some (.inl s3), some (.inl (σ9.2 198 (Int.toNat s3))), some (.inl (σ9.2 197 (Int.toNat s3))), some (.inl 1)]) d_KReader_leave_63 rfl rfl ?_
          refine k_sb (lv' := [some (.inr 16), none, none, some (.inl (σ9.2 198 (Int.toNat s3))), some (.inl (σ9.2 197 (Int.toNat s3))), some (.inl 1)]) (sb_s (sb_s (sb_n (sb_s (sb_s (sb_s sb_nil)))))) ?_
          refine k_loop (S := Int × Int) (st := fun _ => []) (lv := fun s17 => [some (.inr 16), none, none, some (.inl (σ9.2 198 (Int.toNat s3))), some (.inl s17.1), some (.inl s17.2)]) (fun K15 hK16 s17 σ18 h => ?_) ((σ9.2 197 (Int.toNat s3)), 1) _ h
          refine k_iload d_KReader_leave_65 rfl ?_
          have hX25 : (¬ s17.1 < 0 ∧ (¬ s17.2 = 0)) → OkI BF L (d + 1) 15 b_KReader_leave 6 0 75 [] [some (.inr 16), none, none, some (.inl (σ9.2 198 (Int.toNat s3))), some (.inl s17.1), some (.inl s17.2)] σ18 (qv Q) := fun e27 => by
            have h := ipos e27 h
            refine k_aload_n d_KReader_leave_75 rfl ?_
            refine k_iload d_KReader_leave_76 rfl ?_
            refine k_cvv [.inl s17.1] d_KReader_leave_78 ml_15_595 rfl rfl ob_16 rfl (s_KReader_enter hL 70 (by omega)  h) (fun σ19 h => ?_)
            refine k_aload_n d_KReader_leave_81 rfl ?_
            refine k_iload d_KReader_leave_82 rfl ?_
            refine k_cvi [.inl s17.1] d_KReader_leave_84 ml_15_592 rfl rfl ob_16 rfl (s_KReader_isNullable hL 70 (by omega)  h) (fun v22 σ21 h => ?_)
            refine k_istore (lv' := [some (.inr 16), none, none, some (.inl (σ9.2 198 (Int.toNat s3))), some (.inl s17.1), some (.inl v22)]) d_KReader_leave_87 rfl rfl ?_
            refine k_aload_n d_KReader_leave_89 rfl ?_
            refine k_getR d_KReader_leave_90 fl_15_108 ob_16 rfl ?_
            refine k_iload d_KReader_leave_93 rfl ?_
            obtain ⟨p23, h⟩ := h
            refine k_ild (x := (σ21.2 197 (Int.toNat s17.1))) d_KReader_leave_95 rI_197 p23 rfl ?_
            refine k_istore (lv' := [some (.inr 16), none, none, some (.inl (σ9.2 198 (Int.toNat s3))), some (.inl (σ21.2 197 (Int.toNat s17.1))), some (.inl v22)]) d_KReader_leave_96 rfl rfl ?_
            refine k_goto d_KReader_leave_98 rfl ?_
            exact k_sb (sb_s (sb_s (sb_s (sb_s (sb_s (sb_s sb_nil)))))) (hK16 ((σ21.2 197 (Int.toNat s17.1)), v22) _ h)
          have hY26 : ¬ (¬ s17.1 < 0 ∧ (¬ s17.2 = 0)) → OkI BF L (d + 1) 15 b_KReader_leave 6 0 101 [] [some (.inr 16), none, none, some (.inl (σ9.2 198 (Int.toNat s3))), some (.inl s17.1), some (.inl s17.2)] σ18 (qv Q) := fun e27 => by
            have h := ineg e27 h
            refine k_iload d_KReader_leave_101 rfl ?_
            refine k_ifne d_KReader_leave_103 rfl (fun c24 => ?_) (fun c24 => ?_)
            · have h := ineg c24 h
              exact k_sb (sb_s (sb_s (sb_s (sb_s (sb_n (sb_n sb_nil)))))) (hJ11 () _ h)
            · have h := ipos c24 h
              exact k_ret d_KReader_leave_106 h
          refine k_iflt d_KReader_leave_67 rfl (fun c28 => ?_) (fun c28 => ?_)
          · exact hY26 (fun z => z.1 c28)
          · refine k_iload d_KReader_leave_70 rfl ?_
            refine k_ifeq d_KReader_leave_72 rfl (fun c29 => ?_) (fun c29 => ?_)
            · exact hY26 (fun z => (fun z => z c29) z.2)
            · exact hX25 (⟨c28, c29⟩)
        have hY32 : ¬ (¬ (σ9.2 198 (Int.toNat s3)) < 0 ∧ ((σ9.2 193 (Int.toNat (σ9.2 198 (Int.toNat s3)))) = 1)) → OkI BF L (d + 1) 15 b_KReader_leave 6 0 107 [] [some (.inr 16), none, some (.inl s3), some (.inl (σ9.2 198 (Int.toNat s3))), none, none] σ9 (qv Q) := fun e33 => by
          have h := ineg e33 h
          exact k_sb (sb_s (sb_s (sb_n (sb_s (sb_s (sb_s sb_nil)))))) (hJ11 () _ h)
        have pb35 := pt34
        refine k_iflt d_KReader_leave_41 rfl (fun c36 => ?_) (fun c36 => ?_)
        · exact hY32 (fun z => z.1 c36)
        · have pb35 := pb35 c36
          have p14 := pb35
          refine k_aload_n d_KReader_leave_44 rfl ?_
          refine k_getR d_KReader_leave_45 fl_15_96 ob_16 rfl ?_
          refine k_iload_n d_KReader_leave_48 rfl ?_
          refine k_bld (x := (σ9.2 193 (Int.toNat (σ9.2 198 (Int.toNat s3))))) d_KReader_leave_49 rB_193 p14 rfl ?_
          refine k_iconst d_KReader_leave_50 cI_1 ?_
          refine k_icne d_KReader_leave_51 rfl (fun c37 => ?_) (fun c37 => ?_)
          · exact hY32 (fun z => (c37) z.2)
          · exact hX31 (⟨c36, c37⟩)
    · obtain ⟨pt45, h⟩ := h
      have hX42 : ((σ4.2 194 (Int.toNat s3)) = 42 ∨ ((σ4.2 194 (Int.toNat s3)) = 43)) → OkI BF L (d + 1) 15 b_KReader_leave 6 0 28 [] [some (.inr 16), none, some (.inl s3), none, none, none] σ4 (qv Q) := fun e44 => by
        have h := ipos e44 h
        refine k_aload_n d_KReader_leave_28 rfl ?_
        refine k_iload_n d_KReader_leave_29 rfl ?_
        refine k_cvv [.inl s3] d_KReader_leave_30 ml_15_595 rfl rfl ob_16 rfl (s_KReader_enter hL 70 (by omega)  h) (fun σ40 h => ?_)
        exact k_sb (sb_s (sb_s (sb_s (sb_s (sb_s (sb_s sb_nil)))))) (hJ7 () _ h)
      have hY43 : ¬ ((σ4.2 194 (Int.toNat s3)) = 42 ∨ ((σ4.2 194 (Int.toNat s3)) = 43)) → OkI BF L (d + 1) 15 b_KReader_leave 6 0 33 [] [some (.inr 16), none, some (.inl s3), none, none, none] σ4 (qv Q) := fun e44 => by
        have h := ineg e44 h
        exact k_sb (sb_s (sb_s (sb_s (sb_s (sb_s (sb_s sb_nil)))))) (hJ7 () _ h)
      have pb46 := pt45
      refine k_iceq d_KReader_leave_14 rfl (fun c47 => ?_) (fun c47 => ?_)
      · exact hX42 (Or.inl c47)
      · have pb46 := pb46 c47
        have p39 := pb46
        refine k_aload_n d_KReader_leave_17 rfl ?_
        refine k_getR d_KReader_leave_18 fl_15_99 ob_16 rfl ?_
        refine k_iload_n d_KReader_leave_21 rfl ?_
        refine k_bld (x := (σ4.2 194 (Int.toNat s3))) d_KReader_leave_22 rB_194 p39 rfl ?_
        refine k_bipush d_KReader_leave_23 cB_43 ?_
        refine k_icne d_KReader_leave_25 rfl (fun c48 => ?_) (fun c48 => ?_)
        · exact hY43 (fun z => z.elim c47 (c48))
        · exact hX42 (Or.inr (c48))
