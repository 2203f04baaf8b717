theorem d_KReader_decode_4 : decode b_KReader_decode 4 = .ok (.aload_n 1, 1) := by decide +kernel
theorem d_KReader_decode_5 : decode b_KReader_decode 5 = .ok (.iconst 0, 1) := by decide +kernel
theorem d_KReader_decode_6 : decode b_KReader_decode 6 = .ok (.baload, 1) := by decide +kernel
theorem d_KReader_decode_7 : decode b_KReader_decode 7 = .ok (.sipush 255, 3) := by decide +kernel
theorem d_KReader_decode_10 : decode b_KReader_decode 10 = .ok (.iand, 1) := by decide +kernel
theorem d_KReader_decode_11 : decode b_KReader_decode 11 = .ok (.goto 4, 3) := by decide +kernel
theorem d_KReader_decode_21 : decode b_KReader_decode 21 = .ok (.aload_n 1, 1) := by decide +kernel
theorem d_KReader_decode_22 : decode b_KReader_decode 22 = .ok (.iconst 1, 1) := by decide +kernel
theorem d_KReader_decode_23 : decode b_KReader_decode 23 = .ok (.baload, 1) := by decide +kernel
theorem d_KReader_decode_24 : decode b_KReader_decode 24 = .ok (.sipush 255, 3) := by decide +kernel
theorem d_KReader_decode_27 : decode b_KReader_decode 27 = .ok (.iand, 1) := by decide +kernel
theorem d_KReader_decode_28 : decode b_KReader_decode 28 = .ok (.goto 4, 3) := by decide +kernel
theorem d_KReader_decode_39 : decode b_KReader_decode 39 = .ok (.aload_n 1, 1) := by decide +kernel
theorem d_KReader_decode_40 : decode b_KReader_decode 40 = .ok (.iconst 2, 1) := by decide +kernel
theorem d_KReader_decode_41 : decode b_KReader_decode 41 = .ok (.baload, 1) := by decide +kernel
theorem d_KReader_decode_42 : decode b_KReader_decode 42 = .ok (.sipush 255, 3) := by decide +kernel
theorem d_KReader_decode_45 : decode b_KReader_decode 45 = .ok (.iand, 1) := by decide +kernel
theorem d_KReader_decode_46 : decode b_KReader_decode 46 = .ok (.goto 4, 3) := by decide +kernel
theorem d_KReader_decode_57 : decode b_KReader_decode 57 = .ok (.iload_n 3, 1) := by decide +kernel
theorem d_KReader_decode_58 : decode b_KReader_decode 58 = .ok (.sipush 254, 3) := by decide +kernel
theorem d_KReader_decode_61 : decode b_KReader_decode 61 = .ok (.if_icmp .ne 15, 3) := by decide +kernel
theorem d_KReader_decode_64 : decode b_KReader_decode 64 = .ok (.iload 4, 2) := by decide +kernel
theorem d_KReader_decode_66 : decode b_KReader_decode 66 = .ok (.sipush 255, 3) := by decide +kernel
theorem d_KReader_decode_69 : decode b_KReader_decode 69 = .ok (.if_icmp .ne 7, 3) := by decide +kernel
theorem d_KReader_decode_72 : decode b_KReader_decode 72 = .ok (.iconst 1, 1) := by decide +kernel
theorem d_KReader_decode_73 : decode b_KReader_decode 73 = .ok (.goto 4, 3) := by decide +kernel
theorem d_KReader_decode_84 : decode b_KReader_decode 84 = .ok (.iload_n 3, 1) := by decide +kernel
theorem d_KReader_decode_85 : decode b_KReader_decode 85 = .ok (.sipush 255, 3) := by decide +kernel
theorem d_KReader_decode_88 : decode b_KReader_decode 88 = .ok (.if_icmp .ne 15, 3) := by decide +kernel
theorem d_KReader_decode_91 : decode b_KReader_decode 91 = .ok (.iload 4, 2) := by decide +kernel
theorem d_KReader_decode_93 : decode b_KReader_decode 93 = .ok (.sipush 254, 3) := by decide +kernel
theorem d_KReader_decode_96 : decode b_KReader_decode 96 = .ok (.if_icmp .ne 7, 3) := by decide +kernel
theorem d_KReader_decode_99 : decode b_KReader_decode 99 = .ok (.iconst 1, 1) := by decide +kernel
theorem d_KReader_decode_100 : decode b_KReader_decode 100 = .ok (.goto 4, 3) := by decide +kernel
theorem d_KReader_decode_117 : decode b_KReader_decode 117 = .ok (.iconst 1, 1) := by decide +kernel
theorem d_KReader_decode_118 : decode b_KReader_decode 118 = .ok (.goto 4, 3) := by decide +kernel
theorem d_KReader_decode_132 : decode b_KReader_decode 132 = .ok (.iconst 2, 1) := by decide +kernel
theorem d_KReader_decode_133 : decode b_KReader_decode 133 = .ok (.goto 36, 3) := by decide +kernel
theorem d_KReader_decode_141 : decode b_KReader_decode 141 = .ok (.iload_n 3, 1) := by decide +kernel
theorem d_KReader_decode_142 : decode b_KReader_decode 142 = .ok (.sipush 239, 3) := by decide +kernel
theorem d_KReader_decode_145 : decode b_KReader_decode 145 = .ok (.if_icmp .ne 23, 3) := by decide +kernel
theorem d_KReader_decode_148 : decode b_KReader_decode 148 = .ok (.iload 4, 2) := by decide +kernel
theorem d_KReader_decode_150 : decode b_KReader_decode 150 = .ok (.sipush 187, 3) := by decide +kernel
theorem d_KReader_decode_153 : decode b_KReader_decode 153 = .ok (.if_icmp .ne 15, 3) := by decide +kernel
theorem d_KReader_decode_156 : decode b_KReader_decode 156 = .ok (.iload 5, 2) := by decide +kernel
theorem d_KReader_decode_158 : decode b_KReader_decode 158 = .ok (.sipush 191, 3) := by decide +kernel
theorem d_KReader_decode_161 : decode b_KReader_decode 161 = .ok (.if_icmp .ne 7, 3) := by decide +kernel
theorem d_KReader_decode_164 : decode b_KReader_decode 164 = .ok (.iconst 3, 1) := by decide +kernel
theorem d_KReader_decode_165 : decode b_KReader_decode 165 = .ok (.goto 4, 3) := by decide +kernel
theorem d_KReader_decode_177 : decode b_KReader_decode 177 = .ok (.aload_n 0, 1) := by decide +kernel
theorem d_KReader_decode_178 : decode b_KReader_decode 178 = .ok (.getfield 237, 3) := by decide +kernel
theorem d_KReader_decode_181 : decode b_KReader_decode 181 = .ok (.ifCond .eq 16, 3) := by decide +kernel
theorem d_KReader_decode_184 : decode b_KReader_decode 184 = .ok (.aload_n 0, 1) := by decide +kernel
theorem d_KReader_decode_185 : decode b_KReader_decode 185 = .ok (.aload_n 1, 1) := by decide +kernel
theorem d_KReader_decode_186 : decode b_KReader_decode 186 = .ok (.iload_n 2, 1) := by decide +kernel
theorem d_KReader_decode_187 : decode b_KReader_decode 187 = .ok (.iload 8, 2) := by decide +kernel
theorem d_KReader_decode_189 : decode b_KReader_decode 189 = .ok (.iload 6, 2) := by decide +kernel
theorem d_KReader_decode_191 : decode b_KReader_decode 191 = .ok (.invokevirtual 240, 3) := by decide +kernel
theorem d_KReader_decode_194 : decode b_KReader_decode 194 = .ok (.goto 11, 3) := by decide +kernel
theorem d_KReader_decode_197 : decode b_KReader_decode 197 = .ok (.aload_n 0, 1) := by decide +kernel
theorem d_KReader_decode_198 : decode b_KReader_decode 198 = .ok (.aload_n 1, 1) := by decide +kernel
theorem d_KReader_decode_199 : decode b_KReader_decode 199 = .ok (.iload_n 2, 1) := by decide +kernel
theorem d_KReader_decode_200 : decode b_KReader_decode 200 = .ok (.iload 8, 2) := by decide +kernel
theorem d_KReader_decode_202 : decode b_KReader_decode 202 = .ok (.invokevirtual 244, 3) := by decide +kernel
theorem d_KReader_decode_205 : decode b_KReader_decode 205 = .ok (.istore 9, 2) := by decide +kernel
theorem d_KReader_decode_207 : decode b_KReader_decode 207 = .ok (.iload 9, 2) := by decide +kernel
theorem d_KReader_decode_209 : decode b_KReader_decode 209 = .ok (.ifCond .eq 13, 3) := by decide +kernel
theorem d_KReader_decode_212 : decode b_KReader_decode 212 = .ok (.aload_n 0, 1) := by decide +kernel
theorem d_KReader_decode_213 : decode b_KReader_decode 213 = .ok (.getfield 248, 3) := by decide +kernel
theorem d_KReader_decode_216 : decode b_KReader_decode 216 = .ok (.invokestatic 251, 3) := by decide +kernel
theorem d_KReader_decode_219 : decode b_KReader_decode 219 = .ok (.ifCond .ne 16, 3) := by decide +kernel
theorem d_KReader_decode_222 : decode b_KReader_decode 222 = .ok (.aload_n 0, 1) := by decide +kernel
theorem d_KReader_decode_223 : decode b_KReader_decode 223 = .ok (.iconst 1, 1) := by decide +kernel
theorem d_KReader_decode_224 : decode b_KReader_decode 224 = .ok (.putfield 166, 3) := by decide +kernel
theorem d_KReader_decode_227 : decode b_KReader_decode 227 = .ok (.aload_n 0, 1) := by decide +kernel
theorem d_KReader_decode_228 : decode b_KReader_decode 228 = .ok (.iload 8, 2) := by decide +kernel
theorem d_KReader_decode_230 : decode b_KReader_decode 230 = .ok (.putfield 169, 3) := by decide +kernel
theorem d_KReader_decode_233 : decode b_KReader_decode 233 = .ok (.iconst 0, 1) := by decide +kernel
theorem d_KReader_decode_234 : decode b_KReader_decode 234 = .ok (.ireturn, 1) := by decide +kernel
theorem d_KReader_decode_235 : decode b_KReader_decode 235 = .ok (.aload_n 0, 1) := by decide +kernel
theorem d_KReader_decode_236 : decode b_KReader_decode 236 = .ok (.getfield 45, 3) := by decide +kernel
theorem d_KReader_decode_239 : decode b_KReader_decode 239 = .ok (.aload_n 0, 1) := by decide +kernel
theorem d_KReader_decode_240 : decode b_KReader_decode 240 = .ok (.getfield 172, 3) := by decide +kernel
theorem d_KReader_decode_243 : decode b_KReader_decode 243 = .ok (.aload_n 0, 1) := by decide +kernel
theorem d_KReader_decode_244 : decode b_KReader_decode 244 = .ok (.getfield 248, 3) := by decide +kernel
theorem d_KReader_decode_247 : decode b_KReader_decode 247 = .ok (.iastore, 1) := by decide +kernel
theorem d_KReader_decode_248 : decode b_KReader_decode 248 = .ok (.aload_n 0, 1) := by decide +kernel
theorem d_KReader_decode_249 : decode b_KReader_decode 249 = .ok (.dup, 1) := by decide +kernel
theorem d_KReader_decode_250 : decode b_KReader_decode 250 = .ok (.getfield 172, 3) := by decide +kernel
theorem d_KReader_decode_253 : decode b_KReader_decode 253 = .ok (.iconst 1, 1) := by decide +kernel
theorem d_KReader_decode_254 : decode b_KReader_decode 254 = .ok (.iadd, 1) := by decide +kernel
theorem d_KReader_decode_255 : decode b_KReader_decode 255 = .ok (.putfield 172, 3) := by decide +kernel
theorem d_KReader_decode_258 : decode b_KReader_decode 258 = .ok (.iload 8, 2) := by decide +kernel
theorem d_KReader_decode_260 : decode b_KReader_decode 260 = .ok (.iload 9, 2) := by decide +kernel
theorem d_KReader_decode_262 : decode b_KReader_decode 262 = .ok (.iadd, 1) := by decide +kernel
theorem d_KReader_decode_263 : decode b_KReader_decode 263 = .ok (.istore 8, 2) := by decide +kernel
theorem d_KReader_decode_265 : decode b_KReader_decode 265 = .ok (.goto (-94), 3) := by decide +kernel
/-- KReader_decode -/
def w_KReader_decode (L : Nat → Nat) (a1 : Nat) (a2 : Int) (Q : Int → IS → Prop) (σ : IS) : Prop := ((0 < a2 → inL L a1 0)) ∧ ((1 < a2 → inL L a1 1)) ∧ ((2 < a2 → inL L a1 2)) ∧ LETI (if 1 < a2 then (if (if 0 < a2 then (ia (σ.2 a1 (Int.toNat 0)) 255) else (0 : Int)) = 254 then (if (if 1 < a2 then (ia (σ.2 a1 (Int.toNat 1)) 255) else (0 : Int)) = 255 then (1 : Int) else (0 : Int)) else (0 : Int)) else (0 : Int)) (fun t4 => LETI (if 1 < a2 then (if (if 0 < a2 then (ia (σ.2 a1 (Int.toNat 0)) 255) else (0 : Int)) = 255 then (if (if 1 < a2 then (ia (σ.2 a1 (Int.toNat 1)) 255) else (0 : Int)) = 254 then (1 : Int) else (0 : Int)) else (0 : Int)) else (0 : Int)) (fun t6 => LETI (if (if t4 = 0 then (if t6 = 0 then (0 : Int) else (1 : Int)) else (1 : Int)) = 0 then (if 2 < a2 then (if (if 0 < a2 then (ia (σ.2 a1 (Int.toNat 0)) 255) else (0 : Int)) = 239 then (if (if 1 < a2 then (ia (σ.2 a1 (Int.toNat 1)) 255) else (0 : Int)) = 187 then (if (if 2 < a2 then (ia (σ.2 a1 (Int.toNat 2)) 255) else (0 : Int)) = 191 then (3 : Int) else (0 : Int)) else (0 : Int)) else (0 : Int)) else (0 : Int)) else (2 : Int)) (fun t8 => WL (fun (K10 : Int → IS → Prop) (s12 : Int) (σ13 : IS) => if s12 < a2 then WJ (fun (s19 : Int) (σ20 : IS) => WJ (fun (s23 : Unit) (σ24 : IS) => Q 0 (pf (pf σ24 16 3 1) 16 4 s12)) (fun J21 => if s19 = 0 then J21 () σ20 else w_K_isCharacter L (σ20.1 16 75) (fun v27 σ26 => if v27 = 0 then J21 () σ26 else inL L 176 (σ26.1 16 6) ∧ inR ((σ26.1 16 6) + 1) ∧ inR (s12 + s19) ∧ K10 (s12 + s19) (pf (pr σ26 176 (Int.toNat (σ26.1 16 6)) (σ26.1 16 75)) 16 6 ((σ26.1 16 6) + 1))) σ20)) (fun J17 => if (σ13.1 16 8) = 0 then w_KReader_eight L a1 a2 s12 (fun v34 σ33 => J17 v34 σ33) σ13 else w_KReader_unit L a1 a2 s12 t4 (fun v36 σ35 => J17 v36 σ35) σ13) else w_KReader_endLines L  (fun σ15 => Q 1 σ15) σ13) t8 (pf σ 16 8 (if t4 = 0 then (if t6 = 0 then (0 : Int) else (1 : Int)) else (1 : Int))))))
set_option maxHeartbeats 4000000 in
set_option maxRecDepth 20000 in
theorem s_KReader_decode {L : Nat → Nat} (hL : ∀ r, L r < 2147483648) {d : Nat} (hd : 2 ≤ d) {a1 : Nat} {a2 : Int} {Q : Int → IS → Prop} {σ : IS} (ha1 : rwB BF a1) (h : w_KReader_decode L a1 a2 Q σ) : OkI BF L d 15 b_KReader_decode 10 2 0 [] [some (.inr 16), some (.inr a1), some (.inl a2)] σ (qi Q) := by
  unfold w_KReader_decode at h
  obtain ⟨d, rfl⟩ : ∃ e, d = e + 1 := ⟨d - 1, by omega⟩
  refine k_sb (lv' := [some (.inr 16), some (.inr a1), some (.inl a2), none, none, none, none, none, none, none]) (sb_s (sb_s (sb_s (sb_e (sb_e (sb_e (sb_e (sb_e (sb_e (sb_e sb_nil)))))))))) ?_
  refine k_iload_n d_KReader_decode_0 rfl ?_
  obtain ⟨pt93, h⟩ := h
  have hV92 : OkI BF L (d + 1) 15 b_KReader_decode 10 2 15 [.inl (if 0 < a2 then (ia (σ.2 a1 (Int.toNat 0)) 255) else (0 : Int))] [some (.inr 16), some (.inr a1), some (.inl a2), none, none, none, none, none, none, none] σ (qi Q) := by
    refine k_istore_n (lv' := [some (.inr 16), some (.inr a1), some (.inl a2), some (.inl (if 0 < a2 then (ia (σ.2 a1 (Int.toNat 0)) 255) else (0 : Int))), none, none, none, none, none, none]) d_KReader_decode_15 rfl rfl ?_
    refine k_iload_n d_KReader_decode_16 rfl ?_
    refine k_iconst d_KReader_decode_17 cI_1 ?_
    obtain ⟨pt87, h⟩ := h
    have hV86 : OkI BF L (d + 1) 15 b_KReader_decode 10 2 32 [.inl (if 1 < a2 then (ia (σ.2 a1 (Int.toNat 1)) 255) else (0 : Int))] [some (.inr 16), some (.inr a1), some (.inl a2), some (.inl (if 0 < a2 then (ia (σ.2 a1 (Int.toNat 0)) 255) else (0 : Int))), none, none, none, none, none, none] σ (qi Q) := by
      refine k_istore (lv' := [some (.inr 16), some (.inr a1), some (.inl a2), some (.inl (if 0 < a2 then (ia (σ.2 a1 (Int.toNat 0)) 255) else (0 : Int))), some (.inl (if 1 < a2 then (ia (σ.2 a1 (Int.toNat 1)) 255) else (0 : Int))), none, none, none, none, none]) d_KReader_decode_32 rfl rfl ?_
      refine k_iload_n d_KReader_decode_34 rfl ?_
      refine k_iconst d_KReader_decode_35 cI_2 ?_
      obtain ⟨pt81, h⟩ := h
      have hV80 : OkI BF L (d + 1) 15 b_KReader_decode 10 2 50 [.inl (if 2 < a2 then (ia (σ.2 a1 (Int.toNat 2)) 255) else (0 : Int))] [some (.inr 16), some (.inr a1), some (.inl a2), some (.inl (if 0 < a2 then (ia (σ.2 a1 (Int.toNat 0)) 255) else (0 : Int))), some (.inl (if 1 < a2 then (ia (σ.2 a1 (Int.toNat 1)) 255) else (0 : Int))), none, none, none, none, none] σ (qi Q) := by
        refine k_istore (lv' := [some (.inr 16), some (.inr a1), some (.inl a2), some (.inl (if 0 < a2 then (ia (σ.2 a1 (Int.toNat 0)) 255) else (0 : Int))), some (.inl (if 1 < a2 then (ia (σ.2 a1 (Int.toNat 1)) 255) else (0 : Int))), some (.inl (if 2 < a2 then (ia (σ.2 a1 (Int.toNat 2)) 255) else (0 : Int))), none, none, none, none]) d_KReader_decode_50 rfl rfl ?_
        refine k_iload_n d_KReader_decode_52 rfl ?_
        refine k_iconst d_KReader_decode_53 cI_1 ?_
        have hV70 : OkI BF L (d + 1) 15 b_KReader_decode 10 2 77 [.inl (if 1 < a2 then (if (if 0 < a2 then (ia (σ.2 a1 (Int.toNat 0)) 255) else (0 : Int)) = 254 then (if (if 1 < a2 then (ia (σ.2 a1 (Int.toNat 1)) 255) else (0 : Int)) = 255 then (1 : Int) else (0 : Int)) else (0 : Int)) else (0 : Int))] [some (.inr 16), some (.inr a1), some (.inl a2), some (.inl (if 0 < a2 then (ia (σ.2 a1 (Int.toNat 0)) 255) else (0 : Int))), some (.inl (if 1 < a2 then (ia (σ.2 a1 (Int.toNat 1)) 255) else (0 : Int))), some (.inl (if 2 < a2 then (ia (σ.2 a1 (Int.toNat 2)) 255) else (0 : Int))), none, none, none, none] σ (qi Q) := by
          refine k_letI (fun t4 ht5 h => ?_) h
          refine k_istore (lv' := [some (.inr 16), some (.inr a1), some (.inl a2), some (.inl (if 0 < a2 then (ia (σ.2 a1 (Int.toNat 0)) 255) else (0 : Int))), some (.inl (if 1 < a2 then (ia (σ.2 a1 (Int.toNat 1)) 255) else (0 : Int))), some (.inl (if 2 < a2 then (ia (σ.2 a1 (Int.toNat 2)) 255) else (0 : Int))), some (.inl t4), none, none, none]) d_KReader_decode_77 rfl rfl ?_
          refine k_iload_n d_KReader_decode_79 rfl ?_
          refine k_iconst d_KReader_decode_80 cI_1 ?_
          have hV60 : OkI BF L (d + 1) 15 b_KReader_decode 10 2 104 [.inl (if 1 < a2 then (if (if 0 < a2 then (ia (σ.2 a1 (Int.toNat 0)) 255) else (0 : Int)) = 255 then (if (if 1 < a2 then (ia (σ.2 a1 (Int.toNat 1)) 255) else (0 : Int)) = 254 then (1 : Int) else (0 : Int)) else (0 : Int)) else (0 : Int))] [some (.inr 16), some (.inr a1), some (.inl a2), some (.inl (if 0 < a2 then (ia (σ.2 a1 (Int.toNat 0)) 255) else (0 : Int))), some (.inl (if 1 < a2 then (ia (σ.2 a1 (Int.toNat 1)) 255) else (0 : Int))), some (.inl (if 2 < a2 then (ia (σ.2 a1 (Int.toNat 2)) 255) else (0 : Int))), some (.inl t4), none, none, none] σ (qi Q) := by
            refine k_letI (fun t6 ht7 h => ?_) h
            refine k_istore (lv' := [some (.inr 16), some (.inr a1), some (.inl a2), some (.inl (if 0 < a2 then (ia (σ.2 a1 (Int.toNat 0)) 255) else (0 : Int))), some (.inl (if 1 < a2 then (ia (σ.2 a1 (Int.toNat 1)) 255) else (0 : Int))), some (.inl (if 2 < a2 then (ia (σ.2 a1 (Int.toNat 2)) 255) else (0 : Int))), some (.inl t4), some (.inl t6), none, none]) d_KReader_decode_104 rfl rfl ?_
            refine k_aload_n d_KReader_decode_106 rfl ?_
            refine k_iload d_KReader_decode_107 rfl ?_
            have hV53 : OkI BF L (d + 1) 15 b_KReader_decode 10 2 122 [.inl (if t4 = 0 then (if t6 = 0 then (0 : Int) else (1 : Int)) else (1 : Int)), .inr 16] [some (.inr 16), some (.inr a1), some (.inl a2), some (.inl (if 0 < a2 then (ia (σ.2 a1 (Int.toNat 0)) 255) else (0 : Int))), some (.inl (if 1 < a2 then (ia (σ.2 a1 (Int.toNat 1)) 255) else (0 : Int))), some (.inl (if 2 < a2 then (ia (σ.2 a1 (Int.toNat 2)) 255) else (0 : Int))), some (.inl t4), some (.inl t6), none, none] σ (qi Q) := by
              refine k_putZ d_KReader_decode_122 fl_15_237 ob_16 rfl (it01 (it01 (Or.inl rfl) (Or.inr rfl)) (Or.inr rfl)) ?_
              refine k_aload_n d_KReader_decode_125 rfl ?_
              refine k_getI (x := (if t4 = 0 then (if t6 = 0 then (0 : Int) else (1 : Int)) else (1 : Int))) d_KReader_decode_126 fl_15_237 ob_16 rfl rfl ?_
              have hV37 : OkI BF L (d + 1) 15 b_KReader_decode 10 2 169 [.inl (if (if t4 = 0 then (if t6 = 0 then (0 : Int) else (1 : Int)) else (1 : Int)) = 0 then (if 2 < a2 then (if (if 0 < a2 then (ia (σ.2 a1 (Int.toNat 0)) 255) else (0 : Int)) = 239 then (if (if 1 < a2 then (ia (σ.2 a1 (Int.toNat 1)) 255) else (0 : Int)) = 187 then (if (if 2 < a2 then (ia (σ.2 a1 (Int.toNat 2)) 255) else (0 : Int)) = 191 then (3 : Int) else (0 : Int)) else (0 : Int)) else (0 : Int)) else (0 : Int)) else (2 : Int))] [some (.inr 16), some (.inr a1), some (.inl a2), some (.inl (if 0 < a2 then (ia (σ.2 a1 (Int.toNat 0)) 255) else (0 : Int))), some (.inl (if 1 < a2 then (ia (σ.2 a1 (Int.toNat 1)) 255) else (0 : Int))), some (.inl (if 2 < a2 then (ia (σ.2 a1 (Int.toNat 2)) 255) else (0 : Int))), some (.inl t4), some (.inl t6), none, none] (pf σ 16 8 (if t4 = 0 then (if t6 = 0 then (0 : Int) else (1 : Int)) else (1 : Int))) (qi Q) := by
                refine k_letI (fun t8 ht9 h => ?_) h
                refine k_istore (lv' := [some (.inr 16), some (.inr a1), some (.inl a2), some (.inl (if 0 < a2 then (ia (σ.2 a1 (Int.toNat 0)) 255) else (0 : Int))), some (.inl (if 1 < a2 then (ia (σ.2 a1 (Int.toNat 1)) 255) else (0 : Int))), some (.inl (if 2 < a2 then (ia (σ.2 a1 (Int.toNat 2)) 255) else (0 : Int))), some (.inl t4), some (.inl t6), some (.inl t8), none]) d_KReader_decode_169 rfl rfl ?_
                refine k_sb (lv' := [some (.inr 16), some (.inr a1), some (.inl a2), none, none, none, some (.inl t4), none, some (.inl t8), none]) (sb_s (sb_s (sb_s (sb_n (sb_n (sb_n (sb_s (sb_n (sb_s (sb_s sb_nil)))))))))) ?_
                refine k_loop (S := Int) (st := fun _ => []) (lv := fun s12 => [some (.inr 16), some (.inr a1), some (.inl a2), none, none, none, some (.inl t4), none, some (.inl s12), none]) (fun K10 hK11 s12 σ13 h => ?_) t8 _ h
                refine k_iload d_KReader_decode_171 rfl ?_
                refine k_iload_n d_KReader_decode_173 rfl ?_
                refine k_icge d_KReader_decode_174 rfl (fun c14 => ?_) (fun c14 => ?_)
                · have h := ineg c14 h
                  refine k_aload_n d_KReader_decode_268 rfl ?_
                  refine k_cvv [] d_KReader_decode_269 ml_15_255 rfl rfl ob_16 rfl (s_KReader_endLines hL (by omega)  h) (fun σ15 h => ?_)
                  refine k_iconst d_KReader_decode_272 cI_1 ?_
                  exact k_iret d_KReader_decode_273 (Or.inr ⟨rfl, Or.inr rfl⟩) h
                · have h := ipos c14 h
                  refine k_aload_n d_KReader_decode_177 rfl ?_
                  refine k_getI (x := (σ13.1 16 8)) d_KReader_decode_178 fl_15_237 ob_16 rfl rfl ?_
                  refine k_join (S := Int) (pc' := 205) (st' := fun s19 => [.inl s19]) (lv' := fun s19 => [some (.inr 16), some (.inr a1), some (.inl a2), none, none, none, some (.inl t4), none, some (.inl s12), none]) (fun s19 σ20 h => ?_) (fun J17 hJ18 h => ?_) h
                  · refine k_istore (lv' := [some (.inr 16), some (.inr a1), some (.inl a2), none, none, none, some (.inl t4), none, some (.inl s12), some (.inl s19)]) d_KReader_decode_205 rfl rfl ?_
                    refine k_iload d_KReader_decode_207 rfl ?_
                    refine k_join (S := Unit) (pc' := 222) (st' := fun s23 => []) (lv' := fun s23 => [some (.inr 16), none, none, none, none, none, none, none, some (.inl s12), none]) (fun s23 σ24 h => ?_) (fun J21 hJ22 h => ?_) h
                    · refine k_aload_n d_KReader_decode_222 rfl ?_
                      refine k_iconst d_KReader_decode_223 cI_1 ?_
                      refine k_putI d_KReader_decode_224 fl_15_166 ob_16 rfl ?_
                      refine k_aload_n d_KReader_decode_227 rfl ?_
                      refine k_iload d_KReader_decode_228 rfl ?_
                      refine k_putI d_KReader_decode_230 fl_15_169 ob_16 rfl ?_
                      refine k_iconst d_KReader_decode_233 cI_0 ?_
                      exact k_iret d_KReader_decode_234 (Or.inr ⟨rfl, Or.inl rfl⟩) h
                    · refine k_ifeq d_KReader_decode_209 rfl (fun c25 => ?_) (fun c25 => ?_)
                      · have h := ipos c25 h
                        exact k_sb (sb_s (sb_n (sb_n (sb_s (sb_s (sb_s (sb_n (sb_s (sb_s (sb_n sb_nil)))))))))) (hJ22 () _ h)
                      · have h := ineg c25 h
                        refine k_aload_n d_KReader_decode_212 rfl ?_
                        refine k_getI (x := (σ20.1 16 75)) d_KReader_decode_213 fl_15_248 ob_16 rfl rfl ?_
                        refine k_csi [.inl (σ20.1 16 75)] d_KReader_decode_216 ml_15_251 (Or.inr rfl) rfl rfl rfl (s_K_isCharacter hL (by omega)  h) (fun v27 σ26 h => ?_)
                        refine k_ifne d_KReader_decode_219 rfl (fun c28 => ?_) (fun c28 => ?_)
                        · have h := ineg c28 h
                          refine k_aload_n d_KReader_decode_235 rfl ?_
                          refine k_getR d_KReader_decode_236 fl_15_45 ob_16 rfl ?_
                          refine k_aload_n d_KReader_decode_239 rfl ?_
                          refine k_getI (x := (σ26.1 16 6)) d_KReader_decode_240 fl_15_172 ob_16 rfl rfl ?_
                          refine k_aload_n d_KReader_decode_243 rfl ?_
                          refine k_getI (x := (σ26.1 16 75)) d_KReader_decode_244 fl_15_248 ob_16 rfl rfl ?_
                          obtain ⟨p31, h⟩ := h
                          refine k_ist d_KReader_decode_247 rI_176 p31 ?_
                          refine k_aload_n d_KReader_decode_248 rfl ?_
                          refine k_dup d_KReader_decode_249 ?_
                          refine k_getI (x := (σ26.1 16 6)) d_KReader_decode_250 fl_15_172 ob_16 rfl rfl ?_
                          refine k_iconst d_KReader_decode_253 cI_1 ?_
                          obtain ⟨p30, h⟩ := h
                          refine k_iadd d_KReader_decode_254 p30 ?_
                          refine k_putI d_KReader_decode_255 fl_15_172 ob_16 rfl ?_
                          refine k_iload d_KReader_decode_258 rfl ?_
                          refine k_iload d_KReader_decode_260 rfl ?_
                          obtain ⟨p29, h⟩ := h
                          refine k_iadd d_KReader_decode_262 p29 ?_
                          refine k_istore (lv' := [some (.inr 16), some (.inr a1), some (.inl a2), none, none, none, some (.inl t4), none, some (.inl (s12 + s19)), some (.inl s19)]) d_KReader_decode_263 rfl rfl ?_
                          refine k_goto d_KReader_decode_265 rfl ?_
                          exact k_sb (sb_s (sb_s (sb_s (sb_s (sb_s (sb_s (sb_s (sb_s (sb_s (sb_n sb_nil)))))))))) (hK11 (s12 + s19) _ h)
                        · have h := ipos c28 h
                          exact k_sb (sb_s (sb_n (sb_n (sb_s (sb_s (sb_s (sb_n (sb_s (sb_s (sb_n sb_nil)))))))))) (hJ22 () _ h)
                  · refine k_ifeq d_KReader_decode_181 rfl (fun c32 => ?_) (fun c32 => ?_)
                    · have h := ipos c32 h
                      refine k_aload_n d_KReader_decode_197 rfl ?_
                      refine k_aload_n d_KReader_decode_198 rfl ?_
                      refine k_iload_n d_KReader_decode_199 rfl ?_
                      refine k_iload d_KReader_decode_200 rfl ?_
                      refine k_cvi [.inr a1, .inl a2, .inl s12] d_KReader_decode_202 ml_15_244 rfl rfl ob_16 rfl (s_KReader_eight hL (by omega) ha1 h) (fun v34 σ33 h => ?_)
                      exact k_sb (sb_s (sb_s (sb_s (sb_s (sb_s (sb_s (sb_s (sb_s (sb_s (sb_s sb_nil)))))))))) (hJ18 v34 _ h)
                    · have h := ineg c32 h
                      refine k_aload_n d_KReader_decode_184 rfl ?_
                      refine k_aload_n d_KReader_decode_185 rfl ?_
                      refine k_iload_n d_KReader_decode_186 rfl ?_
                      refine k_iload d_KReader_decode_187 rfl ?_
                      refine k_iload d_KReader_decode_189 rfl ?_
                      refine k_cvi [.inr a1, .inl a2, .inl s12, .inl t4] d_KReader_decode_191 ml_15_240 rfl rfl ob_16 rfl (s_KReader_unit hL (by omega) ha1 h) (fun v36 σ35 h => ?_)
                      refine k_goto d_KReader_decode_194 rfl ?_
                      exact k_sb (sb_s (sb_s (sb_s (sb_s (sb_s (sb_s (sb_s (sb_s (sb_s (sb_s sb_nil)))))))))) (hJ18 v36 _ h)
              refine k_ifeq d_KReader_decode_129 rfl (fun c38 => ?_) (fun c38 => ?_)
              · have hV39 := k_eqI (if_pos c38) hV37
                refine k_iload_n d_KReader_decode_136 rfl ?_
                refine k_iconst d_KReader_decode_137 cI_2 ?_
                refine k_icle d_KReader_decode_138 rfl (fun c40 => ?_) (fun c40 => ?_)
                · have hV51 := k_eqI (if_neg c40) hV39
                  refine k_iconst d_KReader_decode_168 cI_0 ?_
                  exact hV51
                · have hV41 := k_eqI (if_pos c40) hV39
                  refine k_iload_n d_KReader_decode_141 rfl ?_
                  refine k_sipush d_KReader_decode_142 cS_239 ?_
                  refine k_icne d_KReader_decode_145 rfl (fun c42 => ?_) (fun c42 => ?_)
                  · have hV50 := k_eqI (if_neg c42) hV41
                    refine k_iconst d_KReader_decode_168 cI_0 ?_
                    exact hV50
                  · have hV43 := k_eqI (if_pos c42) hV41
                    refine k_iload d_KReader_decode_148 rfl ?_
                    refine k_sipush d_KReader_decode_150 cS_187 ?_
                    refine k_icne d_KReader_decode_153 rfl (fun c44 => ?_) (fun c44 => ?_)
                    · have hV49 := k_eqI (if_neg c44) hV43
                      refine k_iconst d_KReader_decode_168 cI_0 ?_
                      exact hV49
                    · have hV45 := k_eqI (if_pos c44) hV43
                      refine k_iload d_KReader_decode_156 rfl ?_
                      refine k_sipush d_KReader_decode_158 cS_191 ?_
                      refine k_icne d_KReader_decode_161 rfl (fun c46 => ?_) (fun c46 => ?_)
                      · have hV48 := k_eqI (if_neg c46) hV45
                        refine k_iconst d_KReader_decode_168 cI_0 ?_
                        exact hV48
                      · have hV47 := k_eqI (if_pos c46) hV45
                        refine k_iconst d_KReader_decode_164 cI_3 ?_
                        refine k_goto d_KReader_decode_165 rfl ?_
                        exact hV47
              · have hV52 := k_eqI (if_neg c38) hV37
                refine k_iconst d_KReader_decode_132 cI_2 ?_
                refine k_goto d_KReader_decode_133 rfl ?_
                exact hV52
            refine k_ifne d_KReader_decode_109 rfl (fun c54 => ?_) (fun c54 => ?_)
            · have hV59 := k_eqI (if_neg c54) hV53
              refine k_iconst d_KReader_decode_117 cI_1 ?_
              refine k_goto d_KReader_decode_118 rfl ?_
              exact hV59
            · have hV55 := k_eqI (if_pos c54) hV53
              refine k_iload d_KReader_decode_112 rfl ?_
              refine k_ifeq d_KReader_decode_114 rfl (fun c56 => ?_) (fun c56 => ?_)
              · have hV57 := k_eqI (if_pos c56) hV55
                refine k_iconst d_KReader_decode_121 cI_0 ?_
                exact hV57
              · have hV58 := k_eqI (if_neg c56) hV55
                refine k_iconst d_KReader_decode_117 cI_1 ?_
                refine k_goto d_KReader_decode_118 rfl ?_
                exact hV58
          refine k_icle d_KReader_decode_81 rfl (fun c61 => ?_) (fun c61 => ?_)
          · have hV69 := k_eqI (if_neg c61) hV60
            refine k_iconst d_KReader_decode_103 cI_0 ?_
            exact hV69
          · have hV62 := k_eqI (if_pos c61) hV60
            refine k_iload_n d_KReader_decode_84 rfl ?_
            refine k_sipush d_KReader_decode_85 cS_255 ?_
            refine k_icne d_KReader_decode_88 rfl (fun c63 => ?_) (fun c63 => ?_)
            · have hV68 := k_eqI (if_neg c63) hV62
              refine k_iconst d_KReader_decode_103 cI_0 ?_
              exact hV68
            · have hV64 := k_eqI (if_pos c63) hV62
              refine k_iload d_KReader_decode_91 rfl ?_
              refine k_sipush d_KReader_decode_93 cS_254 ?_
              refine k_icne d_KReader_decode_96 rfl (fun c65 => ?_) (fun c65 => ?_)
              · have hV67 := k_eqI (if_neg c65) hV64
                refine k_iconst d_KReader_decode_103 cI_0 ?_
                exact hV67
              · have hV66 := k_eqI (if_pos c65) hV64
                refine k_iconst d_KReader_decode_99 cI_1 ?_
                refine k_goto d_KReader_decode_100 rfl ?_
                exact hV66
        refine k_icle d_KReader_decode_54 rfl (fun c71 => ?_) (fun c71 => ?_)
        · have hV79 := k_eqI (if_neg c71) hV70
          refine k_iconst d_KReader_decode_76 cI_0 ?_
          exact hV79
        · have hV72 := k_eqI (if_pos c71) hV70
          refine k_iload_n d_KReader_decode_57 rfl ?_
          refine k_sipush d_KReader_decode_58 cS_254 ?_
          refine k_icne d_KReader_decode_61 rfl (fun c73 => ?_) (fun c73 => ?_)
          · have hV78 := k_eqI (if_neg c73) hV72
            refine k_iconst d_KReader_decode_76 cI_0 ?_
            exact hV78
          · have hV74 := k_eqI (if_pos c73) hV72
            refine k_iload d_KReader_decode_64 rfl ?_
            refine k_sipush d_KReader_decode_66 cS_255 ?_
            refine k_icne d_KReader_decode_69 rfl (fun c75 => ?_) (fun c75 => ?_)
            · have hV77 := k_eqI (if_neg c75) hV74
              refine k_iconst d_KReader_decode_76 cI_0 ?_
              exact hV77
            · have hV76 := k_eqI (if_pos c75) hV74
              refine k_iconst d_KReader_decode_72 cI_1 ?_
              refine k_goto d_KReader_decode_73 rfl ?_
              exact hV76
      have pa82 := pt81
      refine k_icle d_KReader_decode_36 rfl (fun c83 => ?_) (fun c83 => ?_)
      · have hV85 := k_eqI (if_neg c83) hV80
        refine k_iconst d_KReader_decode_49 cI_0 ?_
        exact hV85
      · have pa82 := pa82 c83
        have hV84 := k_eqI (if_pos c83) hV80
        have p3 := pa82
        refine k_aload_n d_KReader_decode_39 rfl ?_
        refine k_iconst d_KReader_decode_40 cI_2 ?_
        refine k_bld (x := (σ.2 a1 (Int.toNat 2))) d_KReader_decode_41 ha1 p3 rfl ?_
        refine k_sipush d_KReader_decode_42 cS_255 ?_
        refine k_iand d_KReader_decode_45 ?_
        refine k_goto d_KReader_decode_46 rfl ?_
        exact hV84
    have pa88 := pt87
    refine k_icle d_KReader_decode_18 rfl (fun c89 => ?_) (fun c89 => ?_)
    · have hV91 := k_eqI (if_neg c89) hV86
      refine k_iconst d_KReader_decode_31 cI_0 ?_
      exact hV91
    · have pa88 := pa88 c89
      have hV90 := k_eqI (if_pos c89) hV86
      have p2 := pa88
      refine k_aload_n d_KReader_decode_21 rfl ?_
      refine k_iconst d_KReader_decode_22 cI_1 ?_
      refine k_bld (x := (σ.2 a1 (Int.toNat 1))) d_KReader_decode_23 ha1 p2 rfl ?_
      refine k_sipush d_KReader_decode_24 cS_255 ?_
      refine k_iand d_KReader_decode_27 ?_
      refine k_goto d_KReader_decode_28 rfl ?_
      exact hV90
  have pa94 := pt93
  refine k_ifle d_KReader_decode_1 rfl (fun c95 => ?_) (fun c95 => ?_)
  · have hV97 := k_eqI (if_neg c95) hV92
    refine k_iconst d_KReader_decode_14 cI_0 ?_
    exact hV97
  · have pa94 := pa94 c95
    have hV96 := k_eqI (if_pos c95) hV92
    have p1 := pa94
    refine k_aload_n d_KReader_decode_4 rfl ?_
    refine k_iconst d_KReader_decode_5 cI_0 ?_
    refine k_bld (x := (σ.2 a1 (Int.toNat 0))) d_KReader_decode_6 ha1 p1 rfl ?_
    refine k_sipush d_KReader_decode_7 cS_255 ?_
    refine k_iand d_KReader_decode_10 ?_
    refine k_goto d_KReader_decode_11 rfl ?_
    exact hV96
theorem d_KReader_push_7 : decode b_KReader_push 7 = .ok (.aload_n 0, 1) := by decide +kernel
theorem d_KReader_push_8 : decode b_KReader_push 8 = .ok (.getfield 48, 3) := by decide +kernel
theorem d_KReader_push_11 : decode b_KReader_push 11 = .ok (.aload_n 0, 1) := by decide +kernel
theorem d_KReader_push_12 : decode b_KReader_push 12 = .ok (.getfield 175, 3) := by decide +kernel
theorem d_KReader_push_15 : decode b_KReader_push 15 = .ok (.iconst 1, 1) := by decide +kernel
theorem d_KReader_push_16 : decode b_KReader_push 16 = .ok (.isub, 1) := by decide +kernel
theorem d_KReader_push_17 : decode b_KReader_push 17 = .ok (.aload_n 0, 1) := by decide +kernel
theorem d_KReader_push_18 : decode b_KReader_push 18 = .ok (.getfield 379, 3) := by decide +kernel
theorem d_KReader_push_21 : decode b_KReader_push 21 = .ok (.iastore, 1) := by decide +kernel
/-- KReader_push -/
def w_KReader_push (L : Nat → Nat) (a1 : Int) (a2 : Int) (a3 : Int) (Q : IS → Prop) (σ : IS) : Prop := WJ (fun (s3 : Unit) (σ4 : IS) => inL L 178 (σ4.1 16 14) ∧ inL L 179 (σ4.1 16 14) ∧ inL L 180 (σ4.1 16 14) ∧ inL L 181 (σ4.1 16 14) ∧ inR ((σ4.1 16 15) + 1) ∧ inR ((σ4.1 16 14) + 1) ∧ Q (pf (pf (pf (pf (pr (pr (pr (pr σ4 178 (Int.toNat (σ4.1 16 14)) a2) 179 (Int.toNat (σ4.1 16 14)) a3) 180 (Int.toNat (σ4.1 16 14)) (σ4.1 16 64)) 181 (Int.toNat (σ4.1 16 14)) (σ4.1 16 15)) 16 15 ((σ4.1 16 15) + 1)) 16 14 ((σ4.1 16 14) + 1)) 16 16 a1) 16 17 a2)) (fun J1 => if 0 < (σ.1 16 14) then inR ((σ.1 16 14) - 1) ∧ inL L 177 ((σ.1 16 14) - 1) ∧ J1 () (pr σ 177 (Int.toNat ((σ.1 16 14) - 1)) (σ.1 16 16)) else J1 () σ)
set_option maxHeartbeats 4000000 in
set_option maxRecDepth 20000 in
theorem s_KReader_push {L : Nat → Nat} (hL : ∀ r, L r < 2147483648) {d : Nat} (hd : 0 ≤ d) {a1 : Int} {a2 : Int} {a3 : Int} {Q : IS → Prop} {σ : IS}  (h : w_KReader_push L a1 a2 a3 Q σ) : OkI BF L d 15 b_KReader_push 4 0 0 [] [some (.inr 16), some (.inl a1), some (.inl a2), some (.inl a3)] σ (qv Q) := by
  unfold w_KReader_push at h
  refine k_sb (lv' := [some (.inr 16), some (.inl a1), some (.inl a2), some (.inl a3)]) (sb_s (sb_s (sb_s (sb_s sb_nil)))) ?_
  refine k_aload_n d_KReader_push_0 rfl ?_
  refine k_getI (x := (σ.1 16 14)) d_KReader_push_1 fl_15_175 ob_16 rfl rfl ?_
  refine k_join (S := Unit) (pc' := 22) (st' := fun s3 => []) (lv' := fun s3 => [some (.inr 16), some (.inl a1), some (.inl a2), some (.inl a3)]) (fun s3 σ4 h => ?_) (fun J1 hJ2 h => ?_) h
  · refine k_aload_n d_KReader_push_22 rfl ?_
    refine k_getR d_KReader_push_23 fl_15_51 ob_16 rfl ?_
    refine k_aload_n d_KReader_push_26 rfl ?_
    refine k_getI (x := (σ4.1 16 14)) d_KReader_push_27 fl_15_175 ob_16 rfl rfl ?_
    refine k_iload_n d_KReader_push_30 rfl ?_
    obtain ⟨p10, h⟩ := h
    refine k_ist d_KReader_push_31 rI_178 p10 ?_
    refine k_aload_n d_KReader_push_32 rfl ?_
    refine k_getR d_KReader_push_33 fl_15_54 ob_16 rfl ?_
    refine k_aload_n d_KReader_push_36 rfl ?_
    refine k_getI (x := (σ4.1 16 14)) d_KReader_push_37 fl_15_175 ob_16 rfl rfl ?_
    refine k_iload_n d_KReader_push_40 rfl ?_
    obtain ⟨p9, h⟩ := h
    refine k_ist d_KReader_push_41 rI_179 p9 ?_
    refine k_aload_n d_KReader_push_42 rfl ?_
    refine k_getR d_KReader_push_43 fl_15_57 ob_16 rfl ?_
    refine k_aload_n d_KReader_push_46 rfl ?_
    refine k_getI (x := (σ4.1 16 14)) d_KReader_push_47 fl_15_175 ob_16 rfl rfl ?_
    refine k_aload_n d_KReader_push_50 rfl ?_
    refine k_getI (x := (σ4.1 16 64)) d_KReader_push_51 fl_15_221 ob_16 rfl rfl ?_
    obtain ⟨p8, h⟩ := h
    refine k_ist d_KReader_push_54 rI_180 p8 ?_
    refine k_aload_n d_KReader_push_55 rfl ?_
    refine k_getR d_KReader_push_56 fl_15_60 ob_16 rfl ?_
    refine k_aload_n d_KReader_push_59 rfl ?_
    refine k_getI (x := (σ4.1 16 14)) d_KReader_push_60 fl_15_175 ob_16 rfl rfl ?_
    refine k_aload_n d_KReader_push_63 rfl ?_
    refine k_getI (x := (σ4.1 16 15)) d_KReader_push_64 fl_15_178 ob_16 rfl rfl ?_
    obtain ⟨p7, h⟩ := h
    refine k_ist d_KReader_push_67 rI_181 p7 ?_
    refine k_aload_n d_KReader_push_68 rfl ?_
    refine k_dup d_KReader_push_69 ?_
    refine k_getI (x := (σ4.1 16 15)) d_KReader_push_70 fl_15_178 ob_16 rfl rfl ?_
    refine k_iconst d_KReader_push_73 cI_1 ?_
    obtain ⟨p6, h⟩ := h
    refine k_iadd d_KReader_push_74 p6 ?_
    refine k_putI d_KReader_push_75 fl_15_178 ob_16 rfl ?_
    refine k_aload_n d_KReader_push_78 rfl ?_
    refine k_dup d_KReader_push_79 ?_
    refine k_getI (x := (σ4.1 16 14)) d_KReader_push_80 fl_15_175 ob_16 rfl rfl ?_
    refine k_iconst d_KReader_push_83 cI_1 ?_
    obtain ⟨p5, h⟩ := h
    refine k_iadd d_KReader_push_84 p5 ?_
    refine k_putI d_KReader_push_85 fl_15_175 ob_16 rfl ?_
    refine k_aload_n d_KReader_push_88 rfl ?_
    refine k_iload_n d_KReader_push_89 rfl ?_
    refine k_putI d_KReader_push_90 fl_15_379 ob_16 rfl ?_
    refine k_aload_n d_KReader_push_93 rfl ?_
    refine k_iload_n d_KReader_push_94 rfl ?_
    refine k_putI d_KReader_push_95 fl_15_273 ob_16 rfl ?_
    exact k_ret d_KReader_push_98 h
  · refine k_ifle d_KReader_push_4 rfl (fun c11 => ?_) (fun c11 => ?_)
    · have h := ineg c11 h
      exact k_sb (sb_s (sb_s (sb_s (sb_s sb_nil)))) (hJ2 () _ h)
    · have h := ipos c11 h
      refine k_aload_n d_KReader_push_7 rfl ?_
      refine k_getR d_KReader_push_8 fl_15_48 ob_16 rfl ?_
      refine k_aload_n d_KReader_push_11 rfl ?_
      refine k_getI (x := (σ.1 16 14)) d_KReader_push_12 fl_15_175 ob_16 rfl rfl ?_
      refine k_iconst d_KReader_push_15 cI_1 ?_
      obtain ⟨p13, h⟩ := h
      refine k_isub d_KReader_push_16 p13 ?_
      refine k_aload_n d_KReader_push_17 rfl ?_
      refine k_getI (x := (σ.1 16 16)) d_KReader_push_18 fl_15_379 ob_16 rfl rfl ?_
      obtain ⟨p12, h⟩ := h
      refine k_ist d_KReader_push_21 rI_177 p12 ?_
      exact k_sb (sb_s (sb_s (sb_s (sb_s sb_nil)))) (hJ2 () _ h)
theorem d_KReader_look_8 : decode b_KReader_look 8 = .ok (.aload_n 0, 1) := by decide +kernel
theorem d_KReader_look_9 : decode b_KReader_look 9 = .ok (.getfield 45, 3) := by decide +kernel
theorem d_KReader_look_12 : decode b_KReader_look 12 = .ok (.iload_n 1, 1) := by decide +kernel
theorem d_KReader_look_13 : decode b_KReader_look 13 = .ok (.iaload, 1) := by decide +kernel
theorem d_KReader_look_14 : decode b_KReader_look 14 = .ok (.goto 4, 3) := by decide +kernel
/-- KReader_look -/
def w_KReader_look (L : Nat → Nat) (a1 : Int) (Q : Int → IS → Prop) (σ : IS) : Prop := ((a1 < (σ.1 16 17) → inL L 176 a1)) ∧ Q (if a1 < (σ.1 16 17) then (σ.2 176 (Int.toNat a1)) else ((-1) : Int)) σ
set_option maxHeartbeats 4000000 in
set_option maxRecDepth 20000 in
theorem s_KReader_look {L : Nat → Nat} (hL : ∀ r, L r < 2147483648) {d : Nat} (hd : 0 ≤ d) {a1 : Int} {Q : Int → IS → Prop} {σ : IS}  (h : w_KReader_look L a1 Q σ) : OkI BF L d 15 b_KReader_look 2 1 0 [] [some (.inr 16), some (.inl a1)] σ (qi Q) := by
  unfold w_KReader_look at h
  refine k_sb (lv' := [some (.inr 16), some (.inl a1)]) (sb_s (sb_s sb_nil)) ?_
  refine k_iload_n d_KReader_look_0 rfl ?_
  refine k_aload_n d_KReader_look_1 rfl ?_
  refine k_getI (x := (σ.1 16 17)) d_KReader_look_2 fl_15_273 ob_16 rfl rfl ?_
  obtain ⟨pt3, h⟩ := h
  have hV2 : OkI BF L d 15 b_KReader_look 2 1 18 [.inl (if a1 < (σ.1 16 17) then (σ.2 176 (Int.toNat a1)) else ((-1) : Int))] [some (.inr 16), some (.inl a1)] σ (qi Q) := by
    exact k_iret d_KReader_look_18 (Or.inl rfl) h
  have pa4 := pt3
  refine k_icge d_KReader_look_5 rfl (fun c5 => ?_) (fun c5 => ?_)
  · have hV7 := k_eqI (if_neg c5) hV2
    refine k_iconst d_KReader_look_17 cI_m1 ?_
    exact hV7
  · have pa4 := pa4 c5
    have hV6 := k_eqI (if_pos c5) hV2
    have p1 := pa4
    refine k_aload_n d_KReader_look_8 rfl ?_
    refine k_getR d_KReader_look_9 fl_15_45 ob_16 rfl ?_
    refine k_iload_n d_KReader_look_12 rfl ?_
    refine k_ild (x := (σ.2 176 (Int.toNat a1))) d_KReader_look_13 rI_176 p1 rfl ?_
    refine k_goto d_KReader_look_14 rfl ?_
    exact hV6
theorem d_KReader_says_25 : decode b_KReader_says 25 = .ok (.iinc 3 1, 3) := by decide +kernel
theorem d_KReader_says_28 : decode b_KReader_says 28 = .ok (.goto (-26), 3) := by decide +kernel
theorem d_KReader_says_39 : decode b_KReader_says 39 = .ok (.iconst 1, 1) := by decide +kernel
theorem d_KReader_says_40 : decode b_KReader_says 40 = .ok (.goto 4, 3) := by decide +kernel
/-- KReader_says -/
def w_KReader_says (L : Nat → Nat) (a1 : Int) (a2 : Nat) (Q : Int → IS → Prop) (σ : IS) : Prop := WL (fun (K1 : Int → IS → Prop) (s3 : Int) (σ4 : IS) => WJ (fun (s7 : Unit) (σ8 : IS) => Q (if s3 = (tN a2) then (1 : Int) else (0 : Int)) σ8) (fun J5 => if s3 < (tN a2) then inR (a1 + s3) ∧ w_KReader_look L (a1 + s3) (fun v15 σ14 => ((0 : Int) ≤ s3 ∧ s3 < tN a2) ∧ if v15 = (tC a2 s3) then inR (s3 + 1) ∧ K1 (s3 + 1) σ14 else J5 () σ14) σ4 else J5 () σ4)) 0 σ
set_option maxHeartbeats 4000000 in
set_option maxRecDepth 20000 in
theorem s_KReader_says {L : Nat → Nat} (hL : ∀ r, L r < 2147483648) {d : Nat} (hd : 1 ≤ d) {a1 : Int} {a2 : Nat} {Q : Int → IS → Prop} {σ : IS} (ha2 : isT a2) (h : w_KReader_says L a1 a2 Q σ) : OkI BF L d 15 b_KReader_says 4 2 0 [] [some (.inr 16), some (.inl a1), some (.inr a2)] σ (qi Q) := by
  unfold w_KReader_says at h
  obtain ⟨d, rfl⟩ : ∃ e, d = e + 1 := ⟨d - 1, by omega⟩
  refine k_sb (lv' := [some (.inr 16), some (.inl a1), some (.inr a2), none]) (sb_s (sb_s (sb_s (sb_e sb_nil)))) ?_
  refine k_iconst d_KReader_says_0 cI_0 ?_
  refine k_istore_n (lv' := [some (.inr 16), some (.inl a1), some (.inr a2), some (.inl 0)]) d_KReader_says_1 rfl rfl ?_
  refine k_sb (lv' := [some (.inr 16), some (.inl a1), some (.inr a2), some (.inl 0)]) (sb_s (sb_s (sb_s (sb_s sb_nil)))) ?_
  refine k_loop (S := Int) (st := fun _ => []) (lv := fun s3 => [some (.inr 16), some (.inl a1), some (.inr a2), some (.inl s3)]) (fun K1 hK2 s3 σ4 h => ?_) 0 _ h
  refine k_iload_n d_KReader_says_2 rfl ?_
  refine k_aload_n d_KReader_says_3 rfl ?_
  refine k_tlen d_KReader_says_4 ml_15_276 ha2 rfl ?_
  refine k_join (S := Unit) (pc' := 31) (st' := fun s7 => []) (lv' := fun s7 => [none, none, some (.inr a2), some (.inl s3)]) (fun s7 σ8 h => ?_) (fun J5 hJ6 h => ?_) h
  · refine k_iload_n d_KReader_says_31 rfl ?_
    refine k_aload_n d_KReader_says_32 rfl ?_
    refine k_tlen d_KReader_says_33 ml_15_276 ha2 rfl ?_
    have hV9 : OkI BF L (d + 1) 15 b_KReader_says 4 2 44 [.inl (if s3 = (tN a2) then (1 : Int) else (0 : Int))] [none, none, some (.inr a2), some (.inl s3)] σ8 (qi Q) := by
      exact k_iret d_KReader_says_44 (Or.inr ⟨rfl, it01 (Or.inr rfl) (Or.inl rfl)⟩) h
    refine k_icne d_KReader_says_36 rfl (fun c10 => ?_) (fun c10 => ?_)
    · have hV12 := k_eqI (if_neg c10) hV9
      refine k_iconst d_KReader_says_43 cI_0 ?_
      exact hV12
    · have hV11 := k_eqI (if_pos c10) hV9
      refine k_iconst d_KReader_says_39 cI_1 ?_
      refine k_goto d_KReader_says_40 rfl ?_
      exact hV11
  · refine k_icge d_KReader_says_7 rfl (fun c13 => ?_) (fun c13 => ?_)
    · have h := ineg c13 h
      exact k_sb (sb_n (sb_n (sb_s (sb_s sb_nil)))) (hJ6 () _ h)
    · have h := ipos c13 h
      refine k_aload_n d_KReader_says_10 rfl ?_
      refine k_iload_n d_KReader_says_11 rfl ?_
      refine k_iload_n d_KReader_says_12 rfl ?_
      obtain ⟨p19, h⟩ := h
      refine k_iadd d_KReader_says_13 p19 ?_
      refine k_cvi [.inl (a1 + s3)] d_KReader_says_14 ml_15_282 rfl rfl ob_16 rfl (s_KReader_look hL (by omega)  h) (fun v15 σ14 h => ?_)
      refine k_aload_n d_KReader_says_17 rfl ?_
      refine k_iload_n d_KReader_says_18 rfl ?_
      obtain ⟨p18, h⟩ := h
      refine k_tchr d_KReader_says_19 ml_15_286 ha2 p18 rfl ?_
      refine k_icne d_KReader_says_22 rfl (fun c16 => ?_) (fun c16 => ?_)
      · have h := ineg c16 h
        exact k_sb (sb_n (sb_n (sb_s (sb_s sb_nil)))) (hJ6 () _ h)
      · have h := ipos c16 h
        obtain ⟨p17, h⟩ := h
        refine k_iinc (lv' := [some (.inr 16), some (.inl a1), some (.inr a2), some (.inl (s3 + 1))]) d_KReader_says_25 cI_1 rfl rfl p17 rfl ?_
        refine k_goto d_KReader_says_28 rfl ?_
        exact k_sb (sb_s (sb_s (sb_s (sb_s sb_nil)))) (hK2 (s3 + 1) _ h)
theorem d_KReader_anySpaces_0 : decode b_KReader_anySpaces 0 = .ok (.iload_n 1, 1) := by decide +kernel
theorem d_KReader_anySpaces_1 : decode b_KReader_anySpaces 1 = .ok (.ifCond .ge 5, 3) := by decide +kernel
theorem d_KReader_anySpaces_4 : decode b_KReader_anySpaces 4 = .ok (.iconst (-1), 1) := by decide +kernel
theorem d_KReader_anySpaces_5 : decode b_KReader_anySpaces 5 = .ok (.ireturn, 1) := by decide +kernel
theorem d_KReader_anySpaces_6 : decode b_KReader_anySpaces 6 = .ok (.iload_n 1, 1) := by decide +kernel
theorem d_KReader_anySpaces_7 : decode b_KReader_anySpaces 7 = .ok (.istore_n 2, 1) := by decide +kernel
theorem d_KReader_anySpaces_8 : decode b_KReader_anySpaces 8 = .ok (.aload_n 0, 1) := by decide +kernel
theorem d_KReader_anySpaces_9 : decode b_KReader_anySpaces 9 = .ok (.iload_n 2, 1) := by decide +kernel
theorem d_KReader_anySpaces_10 : decode b_KReader_anySpaces 10 = .ok (.invokevirtual 282, 3) := by decide +kernel
theorem d_KReader_anySpaces_13 : decode b_KReader_anySpaces 13 = .ok (.invokestatic 294, 3) := by decide +kernel
theorem d_KReader_anySpaces_16 : decode b_KReader_anySpaces 16 = .ok (.ifCond .eq 9, 3) := by decide +kernel
theorem d_KReader_anySpaces_19 : decode b_KReader_anySpaces 19 = .ok (.iinc 2 1, 3) := by decide +kernel
theorem d_KReader_anySpaces_22 : decode b_KReader_anySpaces 22 = .ok (.goto (-14), 3) := by decide +kernel
theorem d_KReader_anySpaces_25 : decode b_KReader_anySpaces 25 = .ok (.iload_n 2, 1) := by decide +kernel
theorem d_KReader_anySpaces_26 : decode b_KReader_anySpaces 26 = .ok (.ireturn, 1) := by decide +kernel
/-- KReader_anySpaces -/
def w_KReader_anySpaces (L : Nat → Nat) (a1 : Int) (Q : Int → IS → Prop) (σ : IS) : Prop := if a1 < 0 then Q (-1) σ else WL (fun (K2 : Int → IS → Prop) (s4 : Int) (σ5 : IS) => w_KReader_look L s4 (fun v7 σ6 => w_K_isSpace L v7 (fun v9 σ8 => if v9 = 0 then Q s4 σ8 else inR (s4 + 1) ∧ K2 (s4 + 1) σ8) σ6) σ5) a1 σ
set_option maxHeartbeats 4000000 in
set_option maxRecDepth 20000 in
theorem s_KReader_anySpaces {L : Nat → Nat} (hL : ∀ r, L r < 2147483648) {d : Nat} (hd : 1 ≤ d) {a1 : Int} {Q : Int → IS → Prop} {σ : IS}  (h : w_KReader_anySpaces L a1 Q σ) : OkI BF L d 15 b_KReader_anySpaces 3 1 0 [] [some (.inr 16), some (.inl a1)] σ (qi Q) := by
  unfold w_KReader_anySpaces at h
  obtain ⟨d, rfl⟩ : ∃ e, d = e + 1 := ⟨d - 1, by omega⟩
  refine k_sb (lv' := [some (.inr 16), some (.inl a1), none]) (sb_s (sb_s (sb_e sb_nil))) ?_
  refine k_iload_n d_KReader_anySpaces_0 rfl ?_
  refine k_ifge d_KReader_anySpaces_1 rfl (fun c1 => ?_) (fun c1 => ?_)
  · have h := ineg c1 h
    refine k_iload_n d_KReader_anySpaces_6 rfl ?_
    refine k_istore_n (lv' := [some (.inr 16), some (.inl a1), some (.inl a1)]) d_KReader_anySpaces_7 rfl rfl ?_
    refine k_sb (lv' := [some (.inr 16), none, some (.inl a1)]) (sb_s (sb_n (sb_s sb_nil))) ?_
    refine k_loop (S := Int) (st := fun _ => []) (lv := fun s4 => [some (.inr 16), none, some (.inl s4)]) (fun K2 hK3 s4 σ5 h => ?_) a1 _ h
    refine k_aload_n d_KReader_anySpaces_8 rfl ?_
    refine k_iload_n d_KReader_anySpaces_9 rfl ?_
    refine k_cvi [.inl s4] d_KReader_anySpaces_10 ml_15_282 rfl rfl ob_16 rfl (s_KReader_look hL (by omega)  h) (fun v7 σ6 h => ?_)
    refine k_csi [.inl v7] d_KReader_anySpaces_13 ml_15_294 (Or.inr rfl) rfl rfl rfl (s_K_isSpace hL (by omega)  h) (fun v9 σ8 h => ?_)
    refine k_ifeq d_KReader_anySpaces_16 rfl (fun c10 => ?_) (fun c10 => ?_)
    · have h := ipos c10 h
      refine k_iload_n d_KReader_anySpaces_25 rfl ?_
      exact k_iret d_KReader_anySpaces_26 (Or.inl rfl) h
    · have h := ineg c10 h
      obtain ⟨p11, h⟩ := h
      refine k_iinc (lv' := [some (.inr 16), none, some (.inl (s4 + 1))]) d_KReader_anySpaces_19 cI_1 rfl rfl p11 rfl ?_
      refine k_goto d_KReader_anySpaces_22 rfl ?_
      exact k_sb (sb_s (sb_s (sb_s sb_nil))) (hK3 (s4 + 1) _ h)
  · have h := ipos c1 h
    refine k_iconst d_KReader_anySpaces_4 cI_m1 ?_
    exact k_iret d_KReader_anySpaces_5 (Or.inl rfl) h
theorem d_KReader_spaces_0 : decode b_KReader_spaces 0 = .ok (.aload_n 0, 1) := by decide +kernel
theorem d_KReader_spaces_1 : decode b_KReader_spaces 1 = .ok (.iload_n 1, 1) := by decide +kernel
theorem d_KReader_spaces_2 : decode b_KReader_spaces 2 = .ok (.invokevirtual 297, 3) := by decide +kernel
theorem d_KReader_spaces_5 : decode b_KReader_spaces 5 = .ok (.istore_n 2, 1) := by decide +kernel
theorem d_KReader_spaces_6 : decode b_KReader_spaces 6 = .ok (.iload_n 2, 1) := by decide +kernel
theorem d_KReader_spaces_7 : decode b_KReader_spaces 7 = .ok (.iload_n 1, 1) := by decide +kernel
theorem d_KReader_spaces_8 : decode b_KReader_spaces 8 = .ok (.if_icmp .ne 7, 3) := by decide +kernel
theorem d_KReader_spaces_11 : decode b_KReader_spaces 11 = .ok (.iconst (-1), 1) := by decide +kernel
theorem d_KReader_spaces_12 : decode b_KReader_spaces 12 = .ok (.goto 4, 3) := by decide +kernel
theorem d_KReader_spaces_15 : decode b_KReader_spaces 15 = .ok (.iload_n 2, 1) := by decide +kernel
theorem d_KReader_spaces_16 : decode b_KReader_spaces 16 = .ok (.ireturn, 1) := by decide +kernel
/-- KReader_spaces -/
def w_KReader_spaces (L : Nat → Nat) (a1 : Int) (Q : Int → IS → Prop) (σ : IS) : Prop := w_KReader_anySpaces L a1 (fun v2 σ1 => Q (if v2 = a1 then ((-1) : Int) else v2) σ1) σ
set_option maxHeartbeats 4000000 in
set_option maxRecDepth 20000 in
theorem s_KReader_spaces {L : Nat → Nat} (hL : ∀ r, L r < 2147483648) {d : Nat} (hd : 2 ≤ d) {a1 : Int} {Q : Int → IS → Prop} {σ : IS}  (h : w_KReader_spaces L a1 Q σ) : OkI BF L d 15 b_KReader_spaces 3 1 0 [] [some (.inr 16), some (.inl a1)] σ (qi Q) := by
  unfold w_KReader_spaces at h
  obtain ⟨d, rfl⟩ : ∃ e, d = e + 1 := ⟨d - 1, by omega⟩
  refine k_sb (lv' := [some (.inr 16), some (.inl a1), none]) (sb_s (sb_s (sb_e sb_nil))) ?_
  refine k_aload_n d_KReader_spaces_0 rfl ?_
  refine k_iload_n d_KReader_spaces_1 rfl ?_
  refine k_cvi [.inl a1] d_KReader_spaces_2 ml_15_297 rfl rfl ob_16 rfl (s_KReader_anySpaces hL (by omega)  h) (fun v2 σ1 h => ?_)
  refine k_istore_n (lv' := [some (.inr 16), some (.inl a1), some (.inl v2)]) d_KReader_spaces_5 rfl rfl ?_
  refine k_iload_n d_KReader_spaces_6 rfl ?_
  refine k_iload_n d_KReader_spaces_7 rfl ?_
  have hV3 : OkI BF L (d + 1) 15 b_KReader_spaces 3 1 16 [.inl (if v2 = a1 then ((-1) : Int) else v2)] [some (.inr 16), some (.inl a1), some (.inl v2)] σ1 (qi Q) := by
    exact k_iret d_KReader_spaces_16 (Or.inl rfl) h
  refine k_icne d_KReader_spaces_8 rfl (fun c4 => ?_) (fun c4 => ?_)
  · have hV6 := k_eqI (if_neg c4) hV3
    refine k_iload_n d_KReader_spaces_15 rfl ?_
    exact hV6
  · have hV5 := k_eqI (if_pos c4) hV3
    refine k_iconst d_KReader_spaces_11 cI_m1 ?_
    refine k_goto d_KReader_spaces_12 rfl ?_
    exact hV5
theorem d_KReader_word_0 : decode b_KReader_word 0 = .ok (.iload_n 1, 1) := by decide +kernel
theorem d_KReader_word_1 : decode b_KReader_word 1 = .ok (.ifCond .lt 21, 3) := by decide +kernel
theorem d_KReader_word_4 : decode b_KReader_word 4 = .ok (.aload_n 0, 1) := by decide +kernel
theorem d_KReader_word_5 : decode b_KReader_word 5 = .ok (.iload_n 1, 1) := by decide +kernel
theorem d_KReader_word_6 : decode b_KReader_word 6 = .ok (.aload_n 2, 1) := by decide +kernel
theorem d_KReader_word_7 : decode b_KReader_word 7 = .ok (.invokevirtual 290, 3) := by decide +kernel
theorem d_KReader_word_10 : decode b_KReader_word 10 = .ok (.ifCond .eq 12, 3) := by decide +kernel
theorem d_KReader_word_13 : decode b_KReader_word 13 = .ok (.iload_n 1, 1) := by decide +kernel
theorem d_KReader_word_14 : decode b_KReader_word 14 = .ok (.aload_n 2, 1) := by decide +kernel
theorem d_KReader_word_15 : decode b_KReader_word 15 = .ok (.invokevirtual 276, 3) := by decide +kernel
theorem d_KReader_word_18 : decode b_KReader_word 18 = .ok (.iadd, 1) := by decide +kernel
theorem d_KReader_word_19 : decode b_KReader_word 19 = .ok (.goto 4, 3) := by decide +kernel
theorem d_KReader_word_22 : decode b_KReader_word 22 = .ok (.iconst (-1), 1) := by decide +kernel
theorem d_KReader_word_23 : decode b_KReader_word 23 = .ok (.ireturn, 1) := by decide +kernel
/-- KReader_word -/
def w_KReader_word (L : Nat → Nat) (a1 : Int) (a2 : Nat) (Q : Int → IS → Prop) (σ : IS) : Prop := WJ (fun (s3 : Int) (σ4 : IS) => Q s3 σ4) (fun J1 => WJ (fun (s7 : Unit) (σ8 : IS) => J1 (-1) σ8) (fun J5 => if a1 < 0 then J5 () σ else w_KReader_says L a1 a2 (fun v11 σ10 => if v11 = 0 then J5 () σ10 else inR (a1 + (tN a2)) ∧ J1 (a1 + (tN a2)) σ10) σ))
set_option maxHeartbeats 4000000 in
set_option maxRecDepth 20000 in
theorem s_KReader_word {L : Nat → Nat} (hL : ∀ r, L r < 2147483648) {d : Nat} (hd : 2 ≤ d) {a1 : Int} {a2 : Nat} {Q : Int → IS → Prop} {σ : IS} (ha2 : isT a2) (h : w_KReader_word L a1 a2 Q σ) : OkI BF L d 15 b_KReader_word 3 1 0 [] [some (.inr 16), some (.inl a1), some (.inr a2)] σ (qi Q) := by
  unfold w_KReader_word at h
  obtain ⟨d, rfl⟩ : ∃ e, d = e + 1 := ⟨d - 1, by omega⟩
  refine k_sb (lv' := [some (.inr 16), some (.inl a1), some (.inr a2)]) (sb_s (sb_s (sb_s sb_nil))) ?_
  refine k_iload_n d_KReader_word_0 rfl ?_
  refine k_join (S := Int) (pc' := 23) (st' := fun s3 => [.inl s3]) (lv' := fun s3 => [none, none, none]) (fun s3 σ4 h => ?_) (fun J1 hJ2 h => ?_) h
  · exact k_iret d_KReader_word_23 (Or.inl rfl) h
  · refine k_join (S := Unit) (pc' := 22) (st' := fun s7 => []) (lv' := fun s7 => [none, none, none]) (fun s7 σ8 h => ?_) (fun J5 hJ6 h => ?_) h
    · refine k_iconst d_KReader_word_22 cI_m1 ?_
      exact k_sb (sb_s (sb_s (sb_s sb_nil))) (hJ2 (-1) _ h)
    · refine k_iflt d_KReader_word_1 rfl (fun c9 => ?_) (fun c9 => ?_)
      · have h := ipos c9 h
        exact k_sb (sb_n (sb_n (sb_n sb_nil))) (hJ6 () _ h)
      · have h := ineg c9 h
        refine k_aload_n d_KReader_word_4 rfl ?_
        refine k_iload_n d_KReader_word_5 rfl ?_
        refine k_aload_n d_KReader_word_6 rfl ?_
        refine k_cvi [.inl a1, .inr a2] d_KReader_word_7 ml_15_290 rfl rfl ob_16 rfl (s_KReader_says hL (by omega) ha2 h) (fun v11 σ10 h => ?_)
        refine k_ifeq d_KReader_word_10 rfl (fun c12 => ?_) (fun c12 => ?_)
        · have h := ipos c12 h
          exact k_sb (sb_n (sb_n (sb_n sb_nil))) (hJ6 () _ h)
        · have h := ineg c12 h
          refine k_iload_n d_KReader_word_13 rfl ?_
          refine k_aload_n d_KReader_word_14 rfl ?_
          refine k_tlen d_KReader_word_15 ml_15_276 ha2 rfl ?_
          obtain ⟨p13, h⟩ := h
          refine k_iadd d_KReader_word_18 p13 ?_
          refine k_goto d_KReader_word_19 rfl ?_
          exact k_sb (sb_n (sb_n (sb_n sb_nil))) (hJ2 (a1 + (tN a2)) _ h)
theorem d_KReader_equal_0 : decode b_KReader_equal 0 = .ok (.aload_n 0, 1) := by decide +kernel
theorem d_KReader_equal_1 : decode b_KReader_equal 1 = .ok (.aload_n 0, 1) := by decide +kernel
theorem d_KReader_equal_2 : decode b_KReader_equal 2 = .ok (.aload_n 0, 1) := by decide +kernel
theorem d_KReader_equal_3 : decode b_KReader_equal 3 = .ok (.iload_n 1, 1) := by decide +kernel
theorem d_KReader_equal_4 : decode b_KReader_equal 4 = .ok (.invokevirtual 297, 3) := by decide +kernel
theorem d_KReader_equal_7 : decode b_KReader_equal 7 = .ok (.ldc_w 353, 3) := by decide +kernel
theorem d_KReader_equal_10 : decode b_KReader_equal 10 = .ok (.invokevirtual 329, 3) := by decide +kernel
theorem d_KReader_equal_13 : decode b_KReader_equal 13 = .ok (.invokevirtual 297, 3) := by decide +kernel
theorem d_KReader_equal_16 : decode b_KReader_equal 16 = .ok (.ireturn, 1) := by decide +kernel
/-- KReader_equal -/
def w_KReader_equal (L : Nat → Nat) (a1 : Int) (Q : Int → IS → Prop) (σ : IS) : Prop := w_KReader_anySpaces L a1 (fun v2 σ1 => w_KReader_word L v2 1101 (fun v4 σ3 => w_KReader_anySpaces L v4 (fun v6 σ5 => Q v6 σ5) σ3) σ1) σ
set_option maxHeartbeats 4000000 in
set_option maxRecDepth 20000 in
theorem s_KReader_equal {L : Nat → Nat} (hL : ∀ r, L r < 2147483648) {d : Nat} (hd : 3 ≤ d) {a1 : Int} {Q : Int → IS → Prop} {σ : IS}  (h : w_KReader_equal L a1 Q σ) : OkI BF L d 15 b_KReader_equal 2 1 0 [] [some (.inr 16), some (.inl a1)] σ (qi Q) := by
  unfold w_KReader_equal at h
  obtain ⟨d, rfl⟩ : ∃ e, d = e + 1 := ⟨d - 1, by omega⟩
  refine k_sb (lv' := [some (.inr 16), some (.inl a1)]) (sb_s (sb_s sb_nil)) ?_
  refine k_aload_n d_KReader_equal_0 rfl ?_
  refine k_aload_n d_KReader_equal_1 rfl ?_
  refine k_aload_n d_KReader_equal_2 rfl ?_
  refine k_iload_n d_KReader_equal_3 rfl ?_
  refine k_cvi [.inl a1] d_KReader_equal_4 ml_15_297 rfl rfl ob_16 rfl (s_KReader_anySpaces hL (by omega)  h) (fun v2 σ1 h => ?_)
  refine k_ldcw d_KReader_equal_7 ks_15_353 rfl ?_
  refine k_cvi [.inl v2, .inr 1101] d_KReader_equal_10 ml_15_329 rfl rfl ob_16 rfl (s_KReader_word hL (by omega) it_1101 h) (fun v4 σ3 h => ?_)
  refine k_cvi [.inl v4] d_KReader_equal_13 ml_15_297 rfl rfl ob_16 rfl (s_KReader_anySpaces hL (by omega)  h) (fun v6 σ5 h => ?_)
  exact k_iret d_KReader_equal_16 (Or.inl rfl) h
theorem d_KReader_isQuote_0 : decode b_KReader_isQuote 0 = .ok (.iload_n 0, 1) := by decide +kernel
theorem d_KReader_isQuote_1 : decode b_KReader_isQuote 1 = .ok (.bipush 34, 2) := by decide +kernel
theorem d_KReader_isQuote_3 : decode b_KReader_isQuote 3 = .ok (.if_icmp .eq 9, 3) := by decide +kernel
theorem d_KReader_isQuote_6 : decode b_KReader_isQuote 6 = .ok (.iload_n 0, 1) := by decide +kernel
theorem d_KReader_isQuote_7 : decode b_KReader_isQuote 7 = .ok (.bipush 39, 2) := by decide +kernel
theorem d_KReader_isQuote_9 : decode b_KReader_isQuote 9 = .ok (.if_icmp .ne 7, 3) := by decide +kernel
theorem d_KReader_isQuote_12 : decode b_KReader_isQuote 12 = .ok (.iconst 1, 1) := by decide +kernel
theorem d_KReader_isQuote_13 : decode b_KReader_isQuote 13 = .ok (.goto 4, 3) := by decide +kernel
theorem d_KReader_isQuote_16 : decode b_KReader_isQuote 16 = .ok (.iconst 0, 1) := by decide +kernel
theorem d_KReader_isQuote_17 : decode b_KReader_isQuote 17 = .ok (.ireturn, 1) := by decide +kernel
/-- KReader_isQuote -/
def w_KReader_isQuote (L : Nat → Nat) (a0 : Int) (Q : Int → IS → Prop) (σ : IS) : Prop := Q (if a0 = 34 then (1 : Int) else (if a0 = 39 then (1 : Int) else (0 : Int))) σ
set_option maxHeartbeats 4000000 in
set_option maxRecDepth 20000 in
theorem s_KReader_isQuote {L : Nat → Nat} (hL : ∀ r, L r < 2147483648) {d : Nat} (hd : 0 ≤ d) {a0 : Int} {Q : Int → IS → Prop} {σ : IS}  (h : w_KReader_isQuote L a0 Q σ) : OkI BF L d 15 b_KReader_isQuote 1 2 0 [] [some (.inl a0)] σ (qi Q) := by
  unfold w_KReader_isQuote at h
  refine k_sb (lv' := [some (.inl a0)]) (sb_s sb_nil) ?_
  refine k_iload_n d_KReader_isQuote_0 rfl ?_
  refine k_bipush d_KReader_isQuote_1 cB_34 ?_
  have hV1 : OkI BF L d 15 b_KReader_isQuote 1 2 17 [.inl (if a0 = 34 then (1 : Int) else (if a0 = 39 then (1 : Int) else (0 : Int)))] [some (.inl a0)] σ (qi Q) := by
    exact k_iret d_KReader_isQuote_17 (Or.inr ⟨rfl, it01 (Or.inr rfl) (it01 (Or.inr rfl) (Or.inl rfl))⟩) h
  refine k_iceq d_KReader_isQuote_3 rfl (fun c2 => ?_) (fun c2 => ?_)
  · have hV3 := k_eqI (if_pos c2) hV1
    refine k_iconst d_KReader_isQuote_12 cI_1 ?_
    refine k_goto d_KReader_isQuote_13 rfl ?_
    exact hV3
  · have hV4 := k_eqI (if_neg c2) hV1
    refine k_iload_n d_KReader_isQuote_6 rfl ?_
    refine k_bipush d_KReader_isQuote_7 cB_39 ?_
    refine k_icne d_KReader_isQuote_9 rfl (fun c5 => ?_) (fun c5 => ?_)
    · have hV7 := k_eqI (if_neg c5) hV4
      refine k_iconst d_KReader_isQuote_16 cI_0 ?_
      exact hV7
    · have hV6 := k_eqI (if_pos c5) hV4
      refine k_iconst d_KReader_isQuote_12 cI_1 ?_
      refine k_goto d_KReader_isQuote_13 rfl ?_
      exact hV6
/-- KReader_fail -/
def w_KReader_fail (L : Nat → Nat) (a1 : Int) (Q : Int → IS → Prop) (σ : IS) : Prop := WJ (fun (s3 : Unit) (σ4 : IS) => Q 0 σ4) (fun J1 => if (σ.1 16 3) = 0 then J1 () (pf σ 16 3 a1) else J1 () σ)
set_option maxHeartbeats 4000000 in
set_option maxRecDepth 20000 in
theorem s_KReader_fail {L : Nat → Nat} (hL : ∀ r, L r < 2147483648) {d : Nat} (hd : 0 ≤ d) {a1 : Int} {Q : Int → IS → Prop} {σ : IS}  (h : w_KReader_fail L a1 Q σ) : OkI BF L d 15 b_KReader_fail 2 2 0 [] [some (.inr 16), some (.inl a1)] σ (qi Q) := by
  unfold w_KReader_fail at h
  refine k_sb (lv' := [some (.inr 16), some (.inl a1)]) (sb_s (sb_s sb_nil)) ?_
  refine k_aload_n d_KReader_fail_0 rfl ?_
  refine k_getI (x := (σ.1 16 3)) d_KReader_fail_1 fl_15_166 ob_16 rfl rfl ?_
  refine k_join (S := Unit) (pc' := 12) (st' := fun s3 => []) (lv' := fun s3 => [none, none]) (fun s3 σ4 h => ?_) (fun J1 hJ2 h => ?_) h
  · refine k_iconst d_KReader_fail_12 cI_0 ?_
    exact k_iret d_KReader_fail_13 (Or.inr ⟨rfl, Or.inl rfl⟩) h
  · refine k_ifne d_KReader_fail_4 rfl (fun c5 => ?_) (fun c5 => ?_)
    · have h := ineg c5 h
      exact k_sb (sb_n (sb_n sb_nil)) (hJ2 () _ h)
    · have h := ipos c5 h
      refine k_aload_n d_KReader_fail_7 rfl ?_
      refine k_iload_n d_KReader_fail_8 rfl ?_
      refine k_putI d_KReader_fail_9 fl_15_166 ob_16 rfl ?_
      exact k_sb (sb_n (sb_n sb_nil)) (hJ2 () _ h)
theorem d_KReader_written_0 : decode b_KReader_written 0 = .ok (.iload_n 1, 1) := by decide +kernel
theorem d_KReader_written_1 : decode b_KReader_written 1 = .ok (.ifCond .ge 11, 3) := by decide +kernel
theorem d_KReader_written_4 : decode b_KReader_written 4 = .ok (.aload_n 0, 1) := by decide +kernel
theorem d_KReader_written_5 : decode b_KReader_written 5 = .ok (.iconst 5, 1) := by decide +kernel
theorem d_KReader_written_6 : decode b_KReader_written 6 = .ok (.invokevirtual 392, 3) := by decide +kernel
theorem d_KReader_written_9 : decode b_KReader_written 9 = .ok (.ifCond .eq 7, 3) := by decide +kernel
theorem d_KReader_written_12 : decode b_KReader_written 12 = .ok (.iconst 1, 1) := by decide +kernel
theorem d_KReader_written_13 : decode b_KReader_written 13 = .ok (.goto 4, 3) := by decide +kernel
theorem d_KReader_written_16 : decode b_KReader_written 16 = .ok (.iconst 0, 1) := by decide +kernel
theorem d_KReader_written_17 : decode b_KReader_written 17 = .ok (.ireturn, 1) := by decide +kernel
/-- KReader_written -/
def w_KReader_written (L : Nat → Nat) (a1 : Int) (Q : Int → IS → Prop) (σ : IS) : Prop := WJ (fun (s3 : Int) (σ4 : IS) => is01 s3 ∧ Q s3 σ4) (fun J1 => WJ (fun (s8 : Unit) (σ9 : IS) => J1 1 σ9) (fun J6 => if a1 < 0 then w_KReader_fail L 5 (fun v12 σ11 => if v12 = 0 then J1 0 σ11 else J6 () σ11) σ else J6 () σ))
set_option maxHeartbeats 4000000 in
set_option maxRecDepth 20000 in
theorem s_KReader_written {L : Nat → Nat} (hL : ∀ r, L r < 2147483648) {d : Nat} (hd : 1 ≤ d) {a1 : Int} {Q : Int → IS → Prop} {σ : IS}  (h : w_KReader_written L a1 Q σ) : OkI BF L d 15 b_KReader_written 2 2 0 [] [some (.inr 16), some (.inl a1)] σ (qi Q) := by
  unfold w_KReader_written at h
  obtain ⟨d, rfl⟩ : ∃ e, d = e + 1 := ⟨d - 1, by omega⟩
  refine k_sb (lv' := [some (.inr 16), some (.inl a1)]) (sb_s (sb_s sb_nil)) ?_
  refine k_iload_n d_KReader_written_0 rfl ?_
  refine k_join (S := Int) (pc' := 17) (st' := fun s3 => [.inl s3]) (lv' := fun s3 => [none, none]) (fun s3 σ4 h => ?_) (fun J1 hJ2 h => ?_) h
  · obtain ⟨p5, h⟩ := h
    exact k_iret d_KReader_written_17 (Or.inr ⟨rfl, p5⟩) h
  · refine k_join (S := Unit) (pc' := 12) (st' := fun s8 => []) (lv' := fun s8 => [none, none]) (fun s8 σ9 h => ?_) (fun J6 hJ7 h => ?_) h
    · refine k_iconst d_KReader_written_12 cI_1 ?_
      refine k_goto d_KReader_written_13 rfl ?_
      exact k_sb (sb_s (sb_s sb_nil)) (hJ2 1 _ h)
    · refine k_ifge d_KReader_written_1 rfl (fun c10 => ?_) (fun c10 => ?_)
      · have h := ineg c10 h
        exact k_sb (sb_n (sb_n sb_nil)) (hJ7 () _ h)
      · have h := ipos c10 h
        refine k_aload_n d_KReader_written_4 rfl ?_
        refine k_iconst d_KReader_written_5 cI_5 ?_
        refine k_cvi [.inl 5] d_KReader_written_6 ml_15_392 rfl rfl ob_16 rfl (s_KReader_fail hL (by omega)  h) (fun v12 σ11 h => ?_)
        refine k_ifeq d_KReader_written_9 rfl (fun c13 => ?_) (fun c13 => ?_)
        · have h := ipos c13 h
          refine k_iconst d_KReader_written_16 cI_0 ?_
          exact k_sb (sb_n (sb_n sb_nil)) (hJ2 0 _ h)
        · have h := ineg c13 h
          exact k_sb (sb_n (sb_n sb_nil)) (hJ7 () _ h)
theorem d_KReader_quoted_0 : decode b_KReader_quoted 0 = .ok (.iload_n 1, 1) := by decide +kernel
theorem d_KReader_quoted_1 : decode b_KReader_quoted 1 = .ok (.ifCond .lt 14, 3) := by decide +kernel
theorem d_KReader_quoted_4 : decode b_KReader_quoted 4 = .ok (.aload_n 0, 1) := by decide +kernel
theorem d_KReader_quoted_5 : decode b_KReader_quoted 5 = .ok (.iload_n 1, 1) := by decide +kernel
theorem d_KReader_quoted_6 : decode b_KReader_quoted 6 = .ok (.invokevirtual 282, 3) := by decide +kernel
theorem d_KReader_quoted_9 : decode b_KReader_quoted 9 = .ok (.invokestatic 310, 3) := by decide +kernel
theorem d_KReader_quoted_12 : decode b_KReader_quoted 12 = .ok (.ifCond .ne 5, 3) := by decide +kernel
theorem d_KReader_quoted_15 : decode b_KReader_quoted 15 = .ok (.iconst (-1), 1) := by decide +kernel
theorem d_KReader_quoted_16 : decode b_KReader_quoted 16 = .ok (.ireturn, 1) := by decide +kernel
theorem d_KReader_quoted_17 : decode b_KReader_quoted 17 = .ok (.aload_n 0, 1) := by decide +kernel
theorem d_KReader_quoted_18 : decode b_KReader_quoted 18 = .ok (.iload_n 1, 1) := by decide +kernel
theorem d_KReader_quoted_19 : decode b_KReader_quoted 19 = .ok (.iconst 1, 1) := by decide +kernel
theorem d_KReader_quoted_20 : decode b_KReader_quoted 20 = .ok (.iadd, 1) := by decide +kernel
theorem d_KReader_quoted_21 : decode b_KReader_quoted 21 = .ok (.aload_n 2, 1) := by decide +kernel
theorem d_KReader_quoted_22 : decode b_KReader_quoted 22 = .ok (.invokevirtual 329, 3) := by decide +kernel
theorem d_KReader_quoted_25 : decode b_KReader_quoted 25 = .ok (.istore_n 3, 1) := by decide +kernel
theorem d_KReader_quoted_26 : decode b_KReader_quoted 26 = .ok (.iload_n 3, 1) := by decide +kernel
theorem d_KReader_quoted_27 : decode b_KReader_quoted 27 = .ok (.ifCond .lt 22, 3) := by decide +kernel
theorem d_KReader_quoted_30 : decode b_KReader_quoted 30 = .ok (.aload_n 0, 1) := by decide +kernel
theorem d_KReader_quoted_31 : decode b_KReader_quoted 31 = .ok (.iload_n 3, 1) := by decide +kernel
theorem d_KReader_quoted_32 : decode b_KReader_quoted 32 = .ok (.invokevirtual 282, 3) := by decide +kernel
theorem d_KReader_quoted_35 : decode b_KReader_quoted 35 = .ok (.aload_n 0, 1) := by decide +kernel
theorem d_KReader_quoted_36 : decode b_KReader_quoted 36 = .ok (.iload_n 1, 1) := by decide +kernel
theorem d_KReader_quoted_37 : decode b_KReader_quoted 37 = .ok (.invokevirtual 282, 3) := by decide +kernel
theorem d_KReader_quoted_40 : decode b_KReader_quoted 40 = .ok (.if_icmp .ne 9, 3) := by decide +kernel
theorem d_KReader_quoted_43 : decode b_KReader_quoted 43 = .ok (.iload_n 3, 1) := by decide +kernel
theorem d_KReader_quoted_44 : decode b_KReader_quoted 44 = .ok (.iconst 1, 1) := by decide +kernel
theorem d_KReader_quoted_45 : decode b_KReader_quoted 45 = .ok (.iadd, 1) := by decide +kernel
theorem d_KReader_quoted_46 : decode b_KReader_quoted 46 = .ok (.goto 4, 3) := by decide +kernel
theorem d_KReader_quoted_49 : decode b_KReader_quoted 49 = .ok (.iconst (-1), 1) := by decide +kernel
theorem d_KReader_quoted_50 : decode b_KReader_quoted 50 = .ok (.ireturn, 1) := by decide +kernel
/-- KReader_quoted -/
def w_KReader_quoted (L : Nat → Nat) (a1 : Int) (a2 : Nat) (Q : Int → IS → Prop) (σ : IS) : Prop := WJ (fun (s3 : Unit) (σ4 : IS) => Q (-1) σ4) (fun J1 => if a1 < 0 then J1 () σ else w_KReader_look L a1 (fun v7 σ6 => w_KReader_isQuote L v7 (fun v9 σ8 => if v9 = 0 then J1 () σ8 else inR (a1 + 1) ∧ w_KReader_word L (a1 + 1) a2 (fun v12 σ11 => WJ (fun (s15 : Int) (σ16 : IS) => Q s15 σ16) (fun J13 => WJ (fun (s19 : Unit) (σ20 : IS) => J13 (-1) σ20) (fun J17 => if v12 < 0 then J17 () σ11 else w_KReader_look L v12 (fun v23 σ22 => w_KReader_look L a1 (fun v25 σ24 => if v23 = v25 then inR (v12 + 1) ∧ J13 (v12 + 1) σ24 else J17 () σ24) σ22) σ11))) σ8) σ6) σ)
set_option maxHeartbeats 4000000 in
set_option maxRecDepth 20000 in
theorem s_KReader_quoted {L : Nat → Nat} (hL : ∀ r, L r < 2147483648) {d : Nat} (hd : 3 ≤ d) {a1 : Int} {a2 : Nat} {Q : Int → IS → Prop} {σ : IS} (ha2 : isT a2) (h : w_KReader_quoted L a1 a2 Q σ) : OkI BF L d 15 b_KReader_quoted 4 1 0 [] [some (.inr 16), some (.inl a1), some (.inr a2)] σ (qi Q) := by
  unfold w_KReader_quoted at h
  obtain ⟨d, rfl⟩ : ∃ e, d = e + 1 := ⟨d - 1, by omega⟩
  refine k_sb (lv' := [some (.inr 16), some (.inl a1), some (.inr a2), none]) (sb_s (sb_s (sb_s (sb_e sb_nil)))) ?_
  refine k_iload_n d_KReader_quoted_0 rfl ?_
  refine k_join (S := Unit) (pc' := 15) (st' := fun s3 => []) (lv' := fun s3 => [none, none, none, none]) (fun s3 σ4 h => ?_) (fun J1 hJ2 h => ?_) h
  · refine k_iconst d_KReader_quoted_15 cI_m1 ?_
    exact k_iret d_KReader_quoted_16 (Or.inl rfl) h
  · refine k_iflt d_KReader_quoted_1 rfl (fun c5 => ?_) (fun c5 => ?_)
    · have h := ipos c5 h
      exact k_sb (sb_n (sb_n (sb_n (sb_s sb_nil)))) (hJ2 () _ h)
    · have h := ineg c5 h
      refine k_aload_n d_KReader_quoted_4 rfl ?_
      refine k_iload_n d_KReader_quoted_5 rfl ?_
      refine k_cvi [.inl a1] d_KReader_quoted_6 ml_15_282 rfl rfl ob_16 rfl (s_KReader_look hL (by omega)  h) (fun v7 σ6 h => ?_)
      refine k_csi [.inl v7] d_KReader_quoted_9 ml_15_310 (Or.inl rfl) rfl rfl rfl (s_KReader_isQuote hL (by omega)  h) (fun v9 σ8 h => ?_)
      refine k_ifne d_KReader_quoted_12 rfl (fun c10 => ?_) (fun c10 => ?_)
      · have h := ineg c10 h
        refine k_aload_n d_KReader_quoted_17 rfl ?_
        refine k_iload_n d_KReader_quoted_18 rfl ?_
        refine k_iconst d_KReader_quoted_19 cI_1 ?_
        obtain ⟨p28, h⟩ := h
        refine k_iadd d_KReader_quoted_20 p28 ?_
        refine k_aload_n d_KReader_quoted_21 rfl ?_
        refine k_cvi [.inl (a1 + 1), .inr a2] d_KReader_quoted_22 ml_15_329 rfl rfl ob_16 rfl (s_KReader_word hL (by omega) ha2 h) (fun v12 σ11 h => ?_)
        refine k_istore_n (lv' := [some (.inr 16), some (.inl a1), some (.inr a2), some (.inl v12)]) d_KReader_quoted_25 rfl rfl ?_
        refine k_iload_n d_KReader_quoted_26 rfl ?_
        refine k_join (S := Int) (pc' := 50) (st' := fun s15 => [.inl s15]) (lv' := fun s15 => [none, none, none, none]) (fun s15 σ16 h => ?_) (fun J13 hJ14 h => ?_) h
        · exact k_iret d_KReader_quoted_50 (Or.inl rfl) h
        · refine k_join (S := Unit) (pc' := 49) (st' := fun s19 => []) (lv' := fun s19 => [none, none, none, none]) (fun s19 σ20 h => ?_) (fun J17 hJ18 h => ?_) h
          · refine k_iconst d_KReader_quoted_49 cI_m1 ?_
            exact k_sb (sb_s (sb_s (sb_s (sb_s sb_nil)))) (hJ14 (-1) _ h)
          · refine k_iflt d_KReader_quoted_27 rfl (fun c21 => ?_) (fun c21 => ?_)
            · have h := ipos c21 h
              exact k_sb (sb_n (sb_n (sb_n (sb_n sb_nil)))) (hJ18 () _ h)
            · have h := ineg c21 h
              refine k_aload_n d_KReader_quoted_30 rfl ?_
              refine k_iload_n d_KReader_quoted_31 rfl ?_
              refine k_cvi [.inl v12] d_KReader_quoted_32 ml_15_282 rfl rfl ob_16 rfl (s_KReader_look hL (by omega)  h) (fun v23 σ22 h => ?_)
              refine k_aload_n d_KReader_quoted_35 rfl ?_
              refine k_iload_n d_KReader_quoted_36 rfl ?_
              refine k_cvi [.inl a1] d_KReader_quoted_37 ml_15_282 rfl rfl ob_16 rfl (s_KReader_look hL (by omega)  h) (fun v25 σ24 h => ?_)
              refine k_icne d_KReader_quoted_40 rfl (fun c26 => ?_) (fun c26 => ?_)
              · have h := ineg c26 h
                exact k_sb (sb_n (sb_n (sb_n (sb_n sb_nil)))) (hJ18 () _ h)
              · have h := ipos c26 h
                refine k_iload_n d_KReader_quoted_43 rfl ?_
                refine k_iconst d_KReader_quoted_44 cI_1 ?_
                obtain ⟨p27, h⟩ := h
                refine k_iadd d_KReader_quoted_45 p27 ?_
                refine k_goto d_KReader_quoted_46 rfl ?_
                exact k_sb (sb_n (sb_n (sb_n (sb_n sb_nil)))) (hJ14 (v12 + 1) _ h)
      · have h := ipos c10 h
        exact k_sb (sb_n (sb_n (sb_n (sb_s sb_nil)))) (hJ2 () _ h)
theorem d_K_lower_0 : decode b_K_lower 0 = .ok (.iload_n 0, 1) := by decide +kernel
theorem d_K_lower_1 : decode b_K_lower 1 = .ok (.bipush 65, 2) := by decide +kernel
theorem d_K_lower_3 : decode b_K_lower 3 = .ok (.bipush 90, 2) := by decide +kernel
theorem d_K_lower_5 : decode b_K_lower 5 = .ok (.invokestatic 2, 3) := by decide +kernel
theorem d_K_lower_8 : decode b_K_lower 8 = .ok (.ifCond .eq 10, 3) := by decide +kernel
theorem d_K_lower_11 : decode b_K_lower 11 = .ok (.iload_n 0, 1) := by decide +kernel
theorem d_K_lower_12 : decode b_K_lower 12 = .ok (.bipush 32, 2) := by decide +kernel
theorem d_K_lower_14 : decode b_K_lower 14 = .ok (.iadd, 1) := by decide +kernel
theorem d_K_lower_15 : decode b_K_lower 15 = .ok (.goto 4, 3) := by decide +kernel
theorem d_K_lower_18 : decode b_K_lower 18 = .ok (.iload_n 0, 1) := by decide +kernel
theorem d_K_lower_19 : decode b_K_lower 19 = .ok (.ireturn, 1) := by decide +kernel
/-- K_lower -/
def w_K_lower (L : Nat → Nat) (a0 : Int) (Q : Int → IS → Prop) (σ : IS) : Prop := w_K_isIn L a0 65 90 (fun v2 σ1 => ((¬ v2 = 0 → inR (a0 + 32))) ∧ Q (if v2 = 0 then a0 else (a0 + 32)) σ1) σ
set_option maxHeartbeats 4000000 in
set_option maxRecDepth 20000 in
theorem s_K_lower {L : Nat → Nat} (hL : ∀ r, L r < 2147483648) {d : Nat} (hd : 1 ≤ d) {a0 : Int} {Q : Int → IS → Prop} {σ : IS}  (h : w_K_lower L a0 Q σ) : OkI BF L d 12 b_K_lower 1 1 0 [] [some (.inl a0)] σ (qi Q) := by
  unfold w_K_lower at h
  obtain ⟨d, rfl⟩ : ∃ e, d = e + 1 := ⟨d - 1, by omega⟩
  refine k_sb (lv' := [some (.inl a0)]) (sb_s sb_nil) ?_
  refine k_iload_n d_K_lower_0 rfl ?_
  refine k_bipush d_K_lower_1 cB_65 ?_
  refine k_bipush d_K_lower_3 cB_90 ?_
  refine k_csi [.inl a0, .inl 65, .inl 90] d_K_lower_5 ml_12_2 (Or.inl rfl) rfl rfl rfl (s_K_isIn hL (by omega)  h) (fun v2 σ1 h => ?_)
  obtain ⟨pt5, h⟩ := h
  have hV4 : OkI BF L (d + 1) 12 b_K_lower 1 1 19 [.inl (if v2 = 0 then a0 else (a0 + 32))] [some (.inl a0)] σ1 (qi Q) := by
    exact k_iret d_K_lower_19 (Or.inl rfl) h
  have pb6 := pt5
  refine k_ifeq d_K_lower_8 rfl (fun c7 => ?_) (fun c7 => ?_)
  · have hV8 := k_eqI (if_pos c7) hV4
    refine k_iload_n d_K_lower_18 rfl ?_
    exact hV8
  · have pb6 := pb6 c7
    have hV9 := k_eqI (if_neg c7) hV4
    have p3 := pb6
    refine k_iload_n d_K_lower_11 rfl ?_
    refine k_bipush d_K_lower_12 cB_32 ?_
    refine k_iadd d_K_lower_14 p3 ?_
    refine k_goto d_K_lower_15 rfl ?_
    exact hV9
theorem d_KReader_isNamed_0 : decode b_KReader_isNamed 0 = .ok (.iload_n 2, 1) := by decide +kernel
theorem d_KReader_isNamed_1 : decode b_KReader_isNamed 1 = .ok (.iload_n 1, 1) := by decide +kernel
theorem d_KReader_isNamed_2 : decode b_KReader_isNamed 2 = .ok (.isub, 1) := by decide +kernel
theorem d_KReader_isNamed_3 : decode b_KReader_isNamed 3 = .ok (.aload_n 3, 1) := by decide +kernel
theorem d_KReader_isNamed_4 : decode b_KReader_isNamed 4 = .ok (.invokevirtual 276, 3) := by decide +kernel
theorem d_KReader_isNamed_7 : decode b_KReader_isNamed 7 = .ok (.if_icmp .eq 5, 3) := by decide +kernel
theorem d_KReader_isNamed_10 : decode b_KReader_isNamed 10 = .ok (.iconst 0, 1) := by decide +kernel
theorem d_KReader_isNamed_11 : decode b_KReader_isNamed 11 = .ok (.ireturn, 1) := by decide +kernel
theorem d_KReader_isNamed_12 : decode b_KReader_isNamed 12 = .ok (.iconst 0, 1) := by decide +kernel
theorem d_KReader_isNamed_13 : decode b_KReader_isNamed 13 = .ok (.istore 4, 2) := by decide +kernel
theorem d_KReader_isNamed_15 : decode b_KReader_isNamed 15 = .ok (.iload 4, 2) := by decide +kernel
theorem d_KReader_isNamed_17 : decode b_KReader_isNamed 17 = .ok (.aload_n 3, 1) := by decide +kernel
theorem d_KReader_isNamed_18 : decode b_KReader_isNamed 18 = .ok (.invokevirtual 276, 3) := by decide +kernel
theorem d_KReader_isNamed_21 : decode b_KReader_isNamed 21 = .ok (.if_icmp .ge 30, 3) := by decide +kernel
theorem d_KReader_isNamed_24 : decode b_KReader_isNamed 24 = .ok (.aload_n 0, 1) := by decide +kernel
theorem d_KReader_isNamed_25 : decode b_KReader_isNamed 25 = .ok (.getfield 45, 3) := by decide +kernel
theorem d_KReader_isNamed_28 : decode b_KReader_isNamed 28 = .ok (.iload_n 1, 1) := by decide +kernel
theorem d_KReader_isNamed_29 : decode b_KReader_isNamed 29 = .ok (.iload 4, 2) := by decide +kernel
theorem d_KReader_isNamed_31 : decode b_KReader_isNamed 31 = .ok (.iadd, 1) := by decide +kernel
theorem d_KReader_isNamed_32 : decode b_KReader_isNamed 32 = .ok (.iaload, 1) := by decide +kernel
theorem d_KReader_isNamed_33 : decode b_KReader_isNamed 33 = .ok (.invokestatic 346, 3) := by decide +kernel
theorem d_KReader_isNamed_36 : decode b_KReader_isNamed 36 = .ok (.aload_n 3, 1) := by decide +kernel
theorem d_KReader_isNamed_37 : decode b_KReader_isNamed 37 = .ok (.iload 4, 2) := by decide +kernel
theorem d_KReader_isNamed_39 : decode b_KReader_isNamed 39 = .ok (.invokevirtual 286, 3) := by decide +kernel
theorem d_KReader_isNamed_42 : decode b_KReader_isNamed 42 = .ok (.if_icmp .ne 9, 3) := by decide +kernel
theorem d_KReader_isNamed_45 : decode b_KReader_isNamed 45 = .ok (.iinc 4 1, 3) := by decide +kernel
theorem d_KReader_isNamed_48 : decode b_KReader_isNamed 48 = .ok (.goto (-33), 3) := by decide +kernel
theorem d_KReader_isNamed_51 : decode b_KReader_isNamed 51 = .ok (.iload 4, 2) := by decide +kernel
theorem d_KReader_isNamed_53 : decode b_KReader_isNamed 53 = .ok (.aload_n 3, 1) := by decide +kernel
theorem d_KReader_isNamed_54 : decode b_KReader_isNamed 54 = .ok (.invokevirtual 276, 3) := by decide +kernel
theorem d_KReader_isNamed_57 : decode b_KReader_isNamed 57 = .ok (.if_icmp .ne 7, 3) := by decide +kernel
theorem d_KReader_isNamed_60 : decode b_KReader_isNamed 60 = .ok (.iconst 1, 1) := by decide +kernel
theorem d_KReader_isNamed_61 : decode b_KReader_isNamed 61 = .ok (.goto 4, 3) := by decide +kernel
theorem d_KReader_isNamed_64 : decode b_KReader_isNamed 64 = .ok (.iconst 0, 1) := by decide +kernel
theorem d_KReader_isNamed_65 : decode b_KReader_isNamed 65 = .ok (.ireturn, 1) := by decide +kernel
/-- KReader_isNamed -/
def w_KReader_isNamed (L : Nat → Nat) (a1 : Int) (a2 : Int) (a3 : Nat) (Q : Int → IS → Prop) (σ : IS) : Prop := inR (a2 - a1) ∧ if (a2 - a1) = (tN a3) then WL (fun (K2 : Int → IS → Prop) (s4 : Int) (σ5 : IS) => WJ (fun (s8 : Unit) (σ9 : IS) => Q (if s4 = (tN a3) then (1 : Int) else (0 : Int)) σ9) (fun J6 => if s4 < (tN a3) then inR (a1 + s4) ∧ inL L 176 (a1 + s4) ∧ w_K_lower L (σ5.2 176 (Int.toNat (a1 + s4))) (fun v16 σ15 => ((0 : Int) ≤ s4 ∧ s4 < tN a3) ∧ if v16 = (tC a3 s4) then inR (s4 + 1) ∧ K2 (s4 + 1) σ15 else J6 () σ15) σ5 else J6 () σ5)) 0 σ else Q 0 σ
set_option maxHeartbeats 4000000 in
set_option maxRecDepth 20000 in
theorem s_KReader_isNamed {L : Nat → Nat} (hL : ∀ r, L r < 2147483648) {d : Nat} (hd : 2 ≤ d) {a1 : Int} {a2 : Int} {a3 : Nat} {Q : Int → IS → Prop} {σ : IS} (ha3 : isT a3) (h : w_KReader_isNamed L a1 a2 a3 Q σ) : OkI BF L d 15 b_KReader_isNamed 5 2 0 [] [some (.inr 16), some (.inl a1), some (.inl a2), some (.inr a3)] σ (qi Q) := by
  unfold w_KReader_isNamed at h
  obtain ⟨d, rfl⟩ : ∃ e, d = e + 1 := ⟨d - 1, by omega⟩
  refine k_sb (lv' := [some (.inr 16), some (.inl a1), some (.inl a2), some (.inr a3), none]) (sb_s (sb_s (sb_s (sb_s (sb_e sb_nil))))) ?_
  refine k_iload_n d_KReader_isNamed_0 rfl ?_
  refine k_iload_n d_KReader_isNamed_1 rfl ?_
  obtain ⟨p22, h⟩ := h
  refine k_isub d_KReader_isNamed_2 p22 ?_
  refine k_aload_n d_KReader_isNamed_3 rfl ?_
  refine k_tlen d_KReader_isNamed_4 ml_15_276 ha3 rfl ?_
  refine k_iceq d_KReader_isNamed_7 rfl (fun c1 => ?_) (fun c1 => ?_)
  · have h := ipos c1 h
    refine k_iconst d_KReader_isNamed_12 cI_0 ?_
    refine k_istore (lv' := [some (.inr 16), some (.inl a1), some (.inl a2), some (.inr a3), some (.inl 0)]) d_KReader_isNamed_13 rfl rfl ?_
    refine k_sb (lv' := [some (.inr 16), some (.inl a1), none, some (.inr a3), some (.inl 0)]) (sb_s (sb_s (sb_n (sb_s (sb_s sb_nil))))) ?_
    refine k_loop (S := Int) (st := fun _ => []) (lv := fun s4 => [some (.inr 16), some (.inl a1), none, some (.inr a3), some (.inl s4)]) (fun K2 hK3 s4 σ5 h => ?_) 0 _ h
    refine k_iload d_KReader_isNamed_15 rfl ?_
    refine k_aload_n d_KReader_isNamed_17 rfl ?_
    refine k_tlen d_KReader_isNamed_18 ml_15_276 ha3 rfl ?_
    refine k_join (S := Unit) (pc' := 51) (st' := fun s8 => []) (lv' := fun s8 => [none, none, none, some (.inr a3), some (.inl s4)]) (fun s8 σ9 h => ?_) (fun J6 hJ7 h => ?_) h
    · refine k_iload d_KReader_isNamed_51 rfl ?_
      refine k_aload_n d_KReader_isNamed_53 rfl ?_
      refine k_tlen d_KReader_isNamed_54 ml_15_276 ha3 rfl ?_
      have hV10 : OkI BF L (d + 1) 15 b_KReader_isNamed 5 2 65 [.inl (if s4 = (tN a3) then (1 : Int) else (0 : Int))] [none, none, none, some (.inr a3), some (.inl s4)] σ9 (qi Q) := by
        exact k_iret d_KReader_isNamed_65 (Or.inr ⟨rfl, it01 (Or.inr rfl) (Or.inl rfl)⟩) h
      refine k_icne d_KReader_isNamed_57 rfl (fun c11 => ?_) (fun c11 => ?_)
      · have hV13 := k_eqI (if_neg c11) hV10
        refine k_iconst d_KReader_isNamed_64 cI_0 ?_
        exact hV13
      · have hV12 := k_eqI (if_pos c11) hV10
        refine k_iconst d_KReader_isNamed_60 cI_1 ?_
        refine k_goto d_KReader_isNamed_61 rfl ?_
        exact hV12
    · refine k_icge d_KReader_isNamed_21 rfl (fun c14 => ?_) (fun c14 => ?_)
      · have h := ineg c14 h
        exact k_sb (sb_n (sb_n (sb_s (sb_s (sb_s sb_nil))))) (hJ7 () _ h)
      · have h := ipos c14 h
        refine k_aload_n d_KReader_isNamed_24 rfl ?_
        refine k_getR d_KReader_isNamed_25 fl_15_45 ob_16 rfl ?_
        refine k_iload_n d_KReader_isNamed_28 rfl ?_
        refine k_iload d_KReader_isNamed_29 rfl ?_
        obtain ⟨p21, h⟩ := h
        refine k_iadd d_KReader_isNamed_31 p21 ?_
        obtain ⟨p20, h⟩ := h
        refine k_ild (x := (σ5.2 176 (Int.toNat (a1 + s4)))) d_KReader_isNamed_32 rI_176 p20 rfl ?_
        refine k_csi [.inl (σ5.2 176 (Int.toNat (a1 + s4)))] d_KReader_isNamed_33 ml_15_346 (Or.inr rfl) rfl rfl rfl (s_K_lower hL (by omega)  h) (fun v16 σ15 h => ?_)
        refine k_aload_n d_KReader_isNamed_36 rfl ?_
        refine k_iload d_KReader_isNamed_37 rfl ?_
        obtain ⟨p19, h⟩ := h
        refine k_tchr d_KReader_isNamed_39 ml_15_286 ha3 p19 rfl ?_
        refine k_icne d_KReader_isNamed_42 rfl (fun c17 => ?_) (fun c17 => ?_)
        · have h := ineg c17 h
          exact k_sb (sb_n (sb_n (sb_s (sb_s (sb_s sb_nil))))) (hJ7 () _ h)
        · have h := ipos c17 h
          obtain ⟨p18, h⟩ := h
          refine k_iinc (lv' := [some (.inr 16), some (.inl a1), none, some (.inr a3), some (.inl (s4 + 1))]) d_KReader_isNamed_45 cI_1 rfl rfl p18 rfl ?_
          refine k_goto d_KReader_isNamed_48 rfl ?_
          exact k_sb (sb_s (sb_s (sb_s (sb_s (sb_s sb_nil))))) (hK3 (s4 + 1) _ h)
  · have h := ineg c1 h
    refine k_iconst d_KReader_isNamed_10 cI_0 ?_
    exact k_iret d_KReader_isNamed_11 (Or.inr ⟨rfl, Or.inl rfl⟩) h
theorem d_KReader_head_0 : decode b_KReader_head 0 = .ok (.aload_n 0, 1) := by decide +kernel
theorem d_KReader_head_1 : decode b_KReader_head 1 = .ok (.aload_n 0, 1) := by decide +kernel
theorem d_KReader_head_2 : decode b_KReader_head 2 = .ok (.aload_n 0, 1) := by decide +kernel
theorem d_KReader_head_3 : decode b_KReader_head 3 = .ok (.iconst 5, 1) := by decide +kernel
theorem d_KReader_head_4 : decode b_KReader_head 4 = .ok (.invokevirtual 333, 3) := by decide +kernel
theorem d_KReader_head_7 : decode b_KReader_head 7 = .ok (.ldc_w 430, 3) := by decide +kernel
theorem d_KReader_head_10 : decode b_KReader_head 10 = .ok (.invokevirtual 329, 3) := by decide +kernel
theorem d_KReader_head_13 : decode b_KReader_head 13 = .ok (.invokevirtual 432, 3) := by decide +kernel
theorem d_KReader_head_16 : decode b_KReader_head 16 = .ok (.istore_n 1, 1) := by decide +kernel
theorem d_KReader_head_17 : decode b_KReader_head 17 = .ok (.iload_n 1, 1) := by decide +kernel
theorem d_KReader_head_18 : decode b_KReader_head 18 = .ok (.ifCond .ge 7, 3) := by decide +kernel
theorem d_KReader_head_21 : decode b_KReader_head 21 = .ok (.iconst 0, 1) := by decide +kernel
theorem d_KReader_head_22 : decode b_KReader_head 22 = .ok (.goto 8, 3) := by decide +kernel
theorem d_KReader_head_25 : decode b_KReader_head 25 = .ok (.aload_n 0, 1) := by decide +kernel
theorem d_KReader_head_26 : decode b_KReader_head 26 = .ok (.iload_n 1, 1) := by decide +kernel
theorem d_KReader_head_27 : decode b_KReader_head 27 = .ok (.invokevirtual 282, 3) := by decide +kernel
theorem d_KReader_head_30 : decode b_KReader_head 30 = .ok (.istore_n 2, 1) := by decide +kernel
theorem d_KReader_head_31 : decode b_KReader_head 31 = .ok (.iload_n 1, 1) := by decide +kernel
theorem d_KReader_head_32 : decode b_KReader_head 32 = .ok (.ifCond .lt 10, 3) := by decide +kernel
theorem d_KReader_head_35 : decode b_KReader_head 35 = .ok (.iload_n 2, 1) := by decide +kernel
theorem d_KReader_head_36 : decode b_KReader_head 36 = .ok (.invokestatic 310, 3) := by decide +kernel
theorem d_KReader_head_39 : decode b_KReader_head 39 = .ok (.ifCond .ne 7, 3) := by decide +kernel
theorem d_KReader_head_42 : decode b_KReader_head 42 = .ok (.iconst (-1), 1) := by decide +kernel
theorem d_KReader_head_43 : decode b_KReader_head 43 = .ok (.goto 13, 3) := by decide +kernel
theorem d_KReader_head_46 : decode b_KReader_head 46 = .ok (.aload_n 0, 1) := by decide +kernel
theorem d_KReader_head_47 : decode b_KReader_head 47 = .ok (.iload_n 1, 1) := by decide +kernel
theorem d_KReader_head_48 : decode b_KReader_head 48 = .ok (.iconst 1, 1) := by decide +kernel
theorem d_KReader_head_49 : decode b_KReader_head 49 = .ok (.iadd, 1) := by decide +kernel
theorem d_KReader_head_50 : decode b_KReader_head 50 = .ok (.ldc_w 435, 3) := by decide +kernel
theorem d_KReader_head_53 : decode b_KReader_head 53 = .ok (.invokevirtual 329, 3) := by decide +kernel
theorem d_KReader_head_56 : decode b_KReader_head 56 = .ok (.istore_n 3, 1) := by decide +kernel
theorem d_KReader_head_57 : decode b_KReader_head 57 = .ok (.iload_n 3, 1) := by decide +kernel
theorem d_KReader_head_58 : decode b_KReader_head 58 = .ok (.istore 4, 2) := by decide +kernel
theorem d_KReader_head_60 : decode b_KReader_head 60 = .ok (.iload_n 3, 1) := by decide +kernel
theorem d_KReader_head_61 : decode b_KReader_head 61 = .ok (.ifCond .lt 20, 3) := by decide +kernel
theorem d_KReader_head_64 : decode b_KReader_head 64 = .ok (.aload_n 0, 1) := by decide +kernel
theorem d_KReader_head_65 : decode b_KReader_head 65 = .ok (.iload_n 3, 1) := by decide +kernel
theorem d_KReader_head_66 : decode b_KReader_head 66 = .ok (.invokevirtual 282, 3) := by decide +kernel
theorem d_KReader_head_69 : decode b_KReader_head 69 = .ok (.invokestatic 319, 3) := by decide +kernel
theorem d_KReader_head_72 : decode b_KReader_head 72 = .ok (.ifCond .eq 9, 3) := by decide +kernel
theorem d_KReader_head_75 : decode b_KReader_head 75 = .ok (.iinc 3 1, 3) := by decide +kernel
theorem d_KReader_head_78 : decode b_KReader_head 78 = .ok (.goto (-18), 3) := by decide +kernel
theorem d_KReader_head_81 : decode b_KReader_head 81 = .ok (.aload_n 0, 1) := by decide +kernel
theorem d_KReader_head_82 : decode b_KReader_head 82 = .ok (.iload_n 3, 1) := by decide +kernel
theorem d_KReader_head_83 : decode b_KReader_head 83 = .ok (.ifCond .lt 18, 3) := by decide +kernel
theorem d_KReader_head_86 : decode b_KReader_head 86 = .ok (.iload_n 3, 1) := by decide +kernel
theorem d_KReader_head_87 : decode b_KReader_head 87 = .ok (.iload 4, 2) := by decide +kernel
theorem d_KReader_head_89 : decode b_KReader_head 89 = .ok (.if_icmp .eq 12, 3) := by decide +kernel
theorem d_KReader_head_92 : decode b_KReader_head 92 = .ok (.aload_n 0, 1) := by decide +kernel
theorem d_KReader_head_93 : decode b_KReader_head 93 = .ok (.iload_n 3, 1) := by decide +kernel
theorem d_KReader_head_94 : decode b_KReader_head 94 = .ok (.invokevirtual 282, 3) := by decide +kernel
theorem d_KReader_head_97 : decode b_KReader_head 97 = .ok (.iload_n 2, 1) := by decide +kernel
theorem d_KReader_head_98 : decode b_KReader_head 98 = .ok (.if_icmp .eq 7, 3) := by decide +kernel
theorem d_KReader_head_101 : decode b_KReader_head 101 = .ok (.iconst (-1), 1) := by decide +kernel
theorem d_KReader_head_102 : decode b_KReader_head 102 = .ok (.goto 4, 3) := by decide +kernel
theorem d_KReader_head_105 : decode b_KReader_head 105 = .ok (.iload_n 3, 1) := by decide +kernel
theorem d_KReader_head_106 : decode b_KReader_head 106 = .ok (.invokevirtual 437, 3) := by decide +kernel
theorem d_KReader_head_109 : decode b_KReader_head 109 = .ok (.ifCond .ne 4, 3) := by decide +kernel
theorem d_KReader_head_112 : decode b_KReader_head 112 = .ok (.return_, 1) := by decide +kernel
theorem d_KReader_head_113 : decode b_KReader_head 113 = .ok (.iinc 3 1, 3) := by decide +kernel
theorem d_KReader_head_116 : decode b_KReader_head 116 = .ok (.aload_n 0, 1) := by decide +kernel
theorem d_KReader_head_117 : decode b_KReader_head 117 = .ok (.aload_n 0, 1) := by decide +kernel
theorem d_KReader_head_118 : decode b_KReader_head 118 = .ok (.aload_n 0, 1) := by decide +kernel
theorem d_KReader_head_119 : decode b_KReader_head 119 = .ok (.iload_n 3, 1) := by decide +kernel
theorem d_KReader_head_120 : decode b_KReader_head 120 = .ok (.invokevirtual 333, 3) := by decide +kernel
theorem d_KReader_head_123 : decode b_KReader_head 123 = .ok (.ldc_w 440, 3) := by decide +kernel
theorem d_KReader_head_126 : decode b_KReader_head 126 = .ok (.invokevirtual 329, 3) := by decide +kernel
theorem d_KReader_head_129 : decode b_KReader_head 129 = .ok (.invokevirtual 432, 3) := by decide +kernel
theorem d_KReader_head_132 : decode b_KReader_head 132 = .ok (.istore 5, 2) := by decide +kernel
theorem d_KReader_head_134 : decode b_KReader_head 134 = .ok (.iconst 0, 1) := by decide +kernel
theorem d_KReader_head_135 : decode b_KReader_head 135 = .ok (.istore 6, 2) := by decide +kernel
theorem d_KReader_head_137 : decode b_KReader_head 137 = .ok (.iconst 0, 1) := by decide +kernel
theorem d_KReader_head_138 : decode b_KReader_head 138 = .ok (.istore 7, 2) := by decide +kernel
theorem d_KReader_head_140 : decode b_KReader_head 140 = .ok (.aload_n 0, 1) := by decide +kernel
theorem d_KReader_head_141 : decode b_KReader_head 141 = .ok (.aload_n 0, 1) := by decide +kernel
theorem d_KReader_head_142 : decode b_KReader_head 142 = .ok (.iload_n 3, 1) := by decide +kernel
theorem d_KReader_head_143 : decode b_KReader_head 143 = .ok (.invokevirtual 333, 3) := by decide +kernel
theorem d_KReader_head_146 : decode b_KReader_head 146 = .ok (.ldc_w 440, 3) := by decide +kernel
theorem d_KReader_head_149 : decode b_KReader_head 149 = .ok (.invokevirtual 329, 3) := by decide +kernel
theorem d_KReader_head_152 : decode b_KReader_head 152 = .ok (.ifCond .lt 167, 3) := by decide +kernel
theorem d_KReader_head_155 : decode b_KReader_head 155 = .ok (.iload 5, 2) := by decide +kernel
theorem d_KReader_head_157 : decode b_KReader_head 157 = .ok (.ifCond .ge 7, 3) := by decide +kernel
theorem d_KReader_head_160 : decode b_KReader_head 160 = .ok (.iconst 0, 1) := by decide +kernel
theorem d_KReader_head_161 : decode b_KReader_head 161 = .ok (.goto 9, 3) := by decide +kernel
theorem d_KReader_head_164 : decode b_KReader_head 164 = .ok (.aload_n 0, 1) := by decide +kernel
theorem d_KReader_head_165 : decode b_KReader_head 165 = .ok (.iload 5, 2) := by decide +kernel
theorem d_KReader_head_167 : decode b_KReader_head 167 = .ok (.invokevirtual 282, 3) := by decide +kernel
theorem d_KReader_head_170 : decode b_KReader_head 170 = .ok (.istore_n 2, 1) := by decide +kernel
theorem d_KReader_head_171 : decode b_KReader_head 171 = .ok (.iload 5, 2) := by decide +kernel
theorem d_KReader_head_173 : decode b_KReader_head 173 = .ok (.ifCond .lt 24, 3) := by decide +kernel
theorem d_KReader_head_176 : decode b_KReader_head 176 = .ok (.iload_n 2, 1) := by decide +kernel
theorem d_KReader_head_177 : decode b_KReader_head 177 = .ok (.invokestatic 310, 3) := by decide +kernel
theorem d_KReader_head_180 : decode b_KReader_head 180 = .ok (.ifCond .eq 17, 3) := by decide +kernel
theorem d_KReader_head_183 : decode b_KReader_head 183 = .ok (.aload_n 0, 1) := by decide +kernel
theorem d_KReader_head_184 : decode b_KReader_head 184 = .ok (.iload 5, 2) := by decide +kernel
theorem d_KReader_head_186 : decode b_KReader_head 186 = .ok (.iconst 1, 1) := by decide +kernel
theorem d_KReader_head_187 : decode b_KReader_head 187 = .ok (.iadd, 1) := by decide +kernel
theorem d_KReader_head_188 : decode b_KReader_head 188 = .ok (.invokevirtual 282, 3) := by decide +kernel
theorem d_KReader_head_191 : decode b_KReader_head 191 = .ok (.invokestatic 316, 3) := by decide +kernel
theorem d_KReader_head_194 : decode b_KReader_head 194 = .ok (.ifCond .ne 7, 3) := by decide +kernel
theorem d_KReader_head_197 : decode b_KReader_head 197 = .ok (.iconst (-1), 1) := by decide +kernel
theorem d_KReader_head_198 : decode b_KReader_head 198 = .ok (.goto 7, 3) := by decide +kernel
theorem d_KReader_head_201 : decode b_KReader_head 201 = .ok (.iload 5, 2) := by decide +kernel
theorem d_KReader_head_203 : decode b_KReader_head 203 = .ok (.iconst 2, 1) := by decide +kernel
theorem d_KReader_head_204 : decode b_KReader_head 204 = .ok (.iadd, 1) := by decide +kernel
theorem d_KReader_head_205 : decode b_KReader_head 205 = .ok (.istore 8, 2) := by decide +kernel
theorem d_KReader_head_207 : decode b_KReader_head 207 = .ok (.iload 8, 2) := by decide +kernel
theorem d_KReader_head_209 : decode b_KReader_head 209 = .ok (.ifCond .lt 66, 3) := by decide +kernel
theorem d_KReader_head_212 : decode b_KReader_head 212 = .ok (.aload_n 0, 1) := by decide +kernel
theorem d_KReader_head_213 : decode b_KReader_head 213 = .ok (.iload 8, 2) := by decide +kernel
theorem d_KReader_head_215 : decode b_KReader_head 215 = .ok (.invokevirtual 282, 3) := by decide +kernel
theorem d_KReader_head_218 : decode b_KReader_head 218 = .ok (.invokestatic 316, 3) := by decide +kernel
theorem d_KReader_head_221 : decode b_KReader_head 221 = .ok (.ifCond .ne 48, 3) := by decide +kernel
theorem d_KReader_head_224 : decode b_KReader_head 224 = .ok (.aload_n 0, 1) := by decide +kernel
theorem d_KReader_head_225 : decode b_KReader_head 225 = .ok (.iload 8, 2) := by decide +kernel
theorem d_KReader_head_227 : decode b_KReader_head 227 = .ok (.invokevirtual 282, 3) := by decide +kernel
theorem d_KReader_head_230 : decode b_KReader_head 230 = .ok (.invokestatic 319, 3) := by decide +kernel
theorem d_KReader_head_233 : decode b_KReader_head 233 = .ok (.ifCond .ne 36, 3) := by decide +kernel
theorem d_KReader_head_236 : decode b_KReader_head 236 = .ok (.aload_n 0, 1) := by decide +kernel
theorem d_KReader_head_237 : decode b_KReader_head 237 = .ok (.iload 8, 2) := by decide +kernel
theorem d_KReader_head_239 : decode b_KReader_head 239 = .ok (.invokevirtual 282, 3) := by decide +kernel
theorem d_KReader_head_242 : decode b_KReader_head 242 = .ok (.bipush 46, 2) := by decide +kernel
theorem d_KReader_head_244 : decode b_KReader_head 244 = .ok (.if_icmp .eq 25, 3) := by decide +kernel
theorem d_KReader_head_247 : decode b_KReader_head 247 = .ok (.aload_n 0, 1) := by decide +kernel
theorem d_KReader_head_248 : decode b_KReader_head 248 = .ok (.iload 8, 2) := by decide +kernel
theorem d_KReader_head_250 : decode b_KReader_head 250 = .ok (.invokevirtual 282, 3) := by decide +kernel
theorem d_KReader_head_253 : decode b_KReader_head 253 = .ok (.bipush 95, 2) := by decide +kernel
theorem d_KReader_head_255 : decode b_KReader_head 255 = .ok (.if_icmp .eq 14, 3) := by decide +kernel
theorem d_KReader_head_258 : decode b_KReader_head 258 = .ok (.aload_n 0, 1) := by decide +kernel
theorem d_KReader_head_259 : decode b_KReader_head 259 = .ok (.iload 8, 2) := by decide +kernel
theorem d_KReader_head_261 : decode b_KReader_head 261 = .ok (.invokevirtual 282, 3) := by decide +kernel
theorem d_KReader_head_264 : decode b_KReader_head 264 = .ok (.bipush 45, 2) := by decide +kernel
theorem d_KReader_head_266 : decode b_KReader_head 266 = .ok (.if_icmp .ne 9, 3) := by decide +kernel
theorem d_KReader_head_269 : decode b_KReader_head 269 = .ok (.iinc 8 1, 3) := by decide +kernel
theorem d_KReader_head_272 : decode b_KReader_head 272 = .ok (.goto (-65), 3) := by decide +kernel
theorem d_KReader_head_275 : decode b_KReader_head 275 = .ok (.aload_n 0, 1) := by decide +kernel
theorem d_KReader_head_276 : decode b_KReader_head 276 = .ok (.iload 8, 2) := by decide +kernel
theorem d_KReader_head_278 : decode b_KReader_head 278 = .ok (.ifCond .lt 13, 3) := by decide +kernel
theorem d_KReader_head_281 : decode b_KReader_head 281 = .ok (.aload_n 0, 1) := by decide +kernel
theorem d_KReader_head_282 : decode b_KReader_head 282 = .ok (.iload 8, 2) := by decide +kernel
theorem d_KReader_head_284 : decode b_KReader_head 284 = .ok (.invokevirtual 282, 3) := by decide +kernel
theorem d_KReader_head_287 : decode b_KReader_head 287 = .ok (.iload_n 2, 1) := by decide +kernel
theorem d_KReader_head_288 : decode b_KReader_head 288 = .ok (.if_icmp .eq 7, 3) := by decide +kernel
theorem d_KReader_head_291 : decode b_KReader_head 291 = .ok (.iconst (-1), 1) := by decide +kernel
theorem d_KReader_head_292 : decode b_KReader_head 292 = .ok (.goto 5, 3) := by decide +kernel
theorem d_KReader_head_295 : decode b_KReader_head 295 = .ok (.iload 8, 2) := by decide +kernel
theorem d_KReader_head_297 : decode b_KReader_head 297 = .ok (.invokevirtual 437, 3) := by decide +kernel
theorem d_KReader_head_300 : decode b_KReader_head 300 = .ok (.ifCond .ne 4, 3) := by decide +kernel
theorem d_KReader_head_303 : decode b_KReader_head 303 = .ok (.return_, 1) := by decide +kernel
theorem d_KReader_head_304 : decode b_KReader_head 304 = .ok (.iload 5, 2) := by decide +kernel
theorem d_KReader_head_306 : decode b_KReader_head 306 = .ok (.iconst 1, 1) := by decide +kernel
theorem d_KReader_head_307 : decode b_KReader_head 307 = .ok (.iadd, 1) := by decide +kernel
theorem d_KReader_head_308 : decode b_KReader_head 308 = .ok (.istore 6, 2) := by decide +kernel
theorem d_KReader_head_310 : decode b_KReader_head 310 = .ok (.iload 8, 2) := by decide +kernel
theorem d_KReader_head_312 : decode b_KReader_head 312 = .ok (.istore 7, 2) := by decide +kernel
theorem d_KReader_head_314 : decode b_KReader_head 314 = .ok (.iload 8, 2) := by decide +kernel
theorem d_KReader_head_316 : decode b_KReader_head 316 = .ok (.iconst 1, 1) := by decide +kernel
theorem d_KReader_head_317 : decode b_KReader_head 317 = .ok (.iadd, 1) := by decide +kernel
theorem d_KReader_head_318 : decode b_KReader_head 318 = .ok (.istore_n 3, 1) := by decide +kernel
theorem d_KReader_head_319 : decode b_KReader_head 319 = .ok (.iconst 0, 1) := by decide +kernel
theorem d_KReader_head_320 : decode b_KReader_head 320 = .ok (.istore 8, 2) := by decide +kernel
theorem d_KReader_head_322 : decode b_KReader_head 322 = .ok (.aload_n 0, 1) := by decide +kernel
theorem d_KReader_head_323 : decode b_KReader_head 323 = .ok (.aload_n 0, 1) := by decide +kernel
theorem d_KReader_head_324 : decode b_KReader_head 324 = .ok (.iload_n 3, 1) := by decide +kernel
theorem d_KReader_head_325 : decode b_KReader_head 325 = .ok (.invokevirtual 333, 3) := by decide +kernel
theorem d_KReader_head_328 : decode b_KReader_head 328 = .ok (.ldc_w 442, 3) := by decide +kernel
theorem d_KReader_head_331 : decode b_KReader_head 331 = .ok (.invokevirtual 329, 3) := by decide +kernel
theorem d_KReader_head_334 : decode b_KReader_head 334 = .ok (.ifCond .lt 76, 3) := by decide +kernel
theorem d_KReader_head_337 : decode b_KReader_head 337 = .ok (.aload_n 0, 1) := by decide +kernel
theorem d_KReader_head_338 : decode b_KReader_head 338 = .ok (.aload_n 0, 1) := by decide +kernel
theorem d_KReader_head_339 : decode b_KReader_head 339 = .ok (.aload_n 0, 1) := by decide +kernel
theorem d_KReader_head_340 : decode b_KReader_head 340 = .ok (.iload_n 3, 1) := by decide +kernel
theorem d_KReader_head_341 : decode b_KReader_head 341 = .ok (.invokevirtual 333, 3) := by decide +kernel
theorem d_KReader_head_344 : decode b_KReader_head 344 = .ok (.ldc_w 442, 3) := by decide +kernel
theorem d_KReader_head_347 : decode b_KReader_head 347 = .ok (.invokevirtual 329, 3) := by decide +kernel
theorem d_KReader_head_350 : decode b_KReader_head 350 = .ok (.invokevirtual 432, 3) := by decide +kernel
theorem d_KReader_head_353 : decode b_KReader_head 353 = .ok (.istore 9, 2) := by decide +kernel
theorem d_KReader_head_355 : decode b_KReader_head 355 = .ok (.aload_n 0, 1) := by decide +kernel
theorem d_KReader_head_356 : decode b_KReader_head 356 = .ok (.iload 9, 2) := by decide +kernel
theorem d_KReader_head_358 : decode b_KReader_head 358 = .ok (.ldc_w 444, 3) := by decide +kernel
theorem d_KReader_head_361 : decode b_KReader_head 361 = .ok (.invokevirtual 446, 3) := by decide +kernel
theorem d_KReader_head_364 : decode b_KReader_head 364 = .ok (.ifCond .lt 7, 3) := by decide +kernel
theorem d_KReader_head_367 : decode b_KReader_head 367 = .ok (.iconst 1, 1) := by decide +kernel
theorem d_KReader_head_368 : decode b_KReader_head 368 = .ok (.goto 4, 3) := by decide +kernel
theorem d_KReader_head_371 : decode b_KReader_head 371 = .ok (.iconst 0, 1) := by decide +kernel
theorem d_KReader_head_372 : decode b_KReader_head 372 = .ok (.istore 8, 2) := by decide +kernel
theorem d_KReader_head_374 : decode b_KReader_head 374 = .ok (.iload 8, 2) := by decide +kernel
theorem d_KReader_head_376 : decode b_KReader_head 376 = .ok (.ifCond .eq 15, 3) := by decide +kernel
theorem d_KReader_head_379 : decode b_KReader_head 379 = .ok (.aload_n 0, 1) := by decide +kernel
theorem d_KReader_head_380 : decode b_KReader_head 380 = .ok (.iload 9, 2) := by decide +kernel
theorem d_KReader_head_382 : decode b_KReader_head 382 = .ok (.ldc_w 444, 3) := by decide +kernel
theorem d_KReader_head_385 : decode b_KReader_head 385 = .ok (.invokevirtual 446, 3) := by decide +kernel
theorem d_KReader_head_388 : decode b_KReader_head 388 = .ok (.goto 12, 3) := by decide +kernel
theorem d_KReader_head_391 : decode b_KReader_head 391 = .ok (.aload_n 0, 1) := by decide +kernel
theorem d_KReader_head_392 : decode b_KReader_head 392 = .ok (.iload 9, 2) := by decide +kernel
theorem d_KReader_head_394 : decode b_KReader_head 394 = .ok (.ldc_w 449, 3) := by decide +kernel
theorem d_KReader_head_397 : decode b_KReader_head 397 = .ok (.invokevirtual 446, 3) := by decide +kernel
theorem d_KReader_head_400 : decode b_KReader_head 400 = .ok (.istore_n 3, 1) := by decide +kernel
theorem d_KReader_head_401 : decode b_KReader_head 401 = .ok (.aload_n 0, 1) := by decide +kernel
theorem d_KReader_head_402 : decode b_KReader_head 402 = .ok (.iload_n 3, 1) := by decide +kernel
theorem d_KReader_head_403 : decode b_KReader_head 403 = .ok (.invokevirtual 437, 3) := by decide +kernel
theorem d_KReader_head_406 : decode b_KReader_head 406 = .ok (.ifCond .ne 4, 3) := by decide +kernel
theorem d_KReader_head_409 : decode b_KReader_head 409 = .ok (.return_, 1) := by decide +kernel
theorem d_KReader_head_410 : decode b_KReader_head 410 = .ok (.aload_n 0, 1) := by decide +kernel
theorem d_KReader_head_411 : decode b_KReader_head 411 = .ok (.aload_n 0, 1) := by decide +kernel
theorem d_KReader_head_412 : decode b_KReader_head 412 = .ok (.iload_n 3, 1) := by decide +kernel
theorem d_KReader_head_413 : decode b_KReader_head 413 = .ok (.invokevirtual 297, 3) := by decide +kernel
theorem d_KReader_head_416 : decode b_KReader_head 416 = .ok (.ldc_w 451, 3) := by decide +kernel
theorem d_KReader_head_419 : decode b_KReader_head 419 = .ok (.invokevirtual 329, 3) := by decide +kernel
theorem d_KReader_head_422 : decode b_KReader_head 422 = .ok (.istore_n 3, 1) := by decide +kernel
theorem d_KReader_head_423 : decode b_KReader_head 423 = .ok (.aload_n 0, 1) := by decide +kernel
theorem d_KReader_head_424 : decode b_KReader_head 424 = .ok (.iload_n 3, 1) := by decide +kernel
theorem d_KReader_head_425 : decode b_KReader_head 425 = .ok (.invokevirtual 437, 3) := by decide +kernel
theorem d_KReader_head_428 : decode b_KReader_head 428 = .ok (.ifCond .ne 4, 3) := by decide +kernel
theorem d_KReader_head_431 : decode b_KReader_head 431 = .ok (.return_, 1) := by decide +kernel
theorem d_KReader_head_432 : decode b_KReader_head 432 = .ok (.iload 7, 2) := by decide +kernel
theorem d_KReader_head_434 : decode b_KReader_head 434 = .ok (.ifCond .le 37, 3) := by decide +kernel
theorem d_KReader_head_437 : decode b_KReader_head 437 = .ok (.aload_n 0, 1) := by decide +kernel
theorem d_KReader_head_438 : decode b_KReader_head 438 = .ok (.iload 6, 2) := by decide +kernel
theorem d_KReader_head_440 : decode b_KReader_head 440 = .ok (.iload 7, 2) := by decide +kernel
theorem d_KReader_head_442 : decode b_KReader_head 442 = .ok (.aload_n 0, 1) := by decide +kernel
theorem d_KReader_head_443 : decode b_KReader_head 443 = .ok (.getfield 237, 3) := by decide +kernel
theorem d_KReader_head_446 : decode b_KReader_head 446 = .ok (.ifCond .eq 9, 3) := by decide +kernel
theorem d_KReader_head_449 : decode b_KReader_head 449 = .ok (.ldc_w 453, 3) := by decide +kernel
theorem d_KReader_head_452 : decode b_KReader_head 452 = .ok (.goto 6, 3) := by decide +kernel
theorem d_KReader_head_455 : decode b_KReader_head 455 = .ok (.ldc_w 455, 3) := by decide +kernel
theorem d_KReader_head_458 : decode b_KReader_head 458 = .ok (.invokevirtual 457, 3) := by decide +kernel
theorem d_KReader_head_461 : decode b_KReader_head 461 = .ok (.ifCond .ne 10, 3) := by decide +kernel
theorem d_KReader_head_464 : decode b_KReader_head 464 = .ok (.aload_n 0, 1) := by decide +kernel
theorem d_KReader_head_465 : decode b_KReader_head 465 = .ok (.iconst 2, 1) := by decide +kernel
theorem d_KReader_head_466 : decode b_KReader_head 466 = .ok (.invokevirtual 392, 3) := by decide +kernel
theorem d_KReader_head_469 : decode b_KReader_head 469 = .ok (.pop, 1) := by decide +kernel
theorem d_KReader_head_470 : decode b_KReader_head 470 = .ok (.return_, 1) := by decide +kernel
theorem d_KReader_head_471 : decode b_KReader_head 471 = .ok (.aload_n 0, 1) := by decide +kernel
theorem d_KReader_head_472 : decode b_KReader_head 472 = .ok (.iload 8, 2) := by decide +kernel
theorem d_KReader_head_474 : decode b_KReader_head 474 = .ok (.putfield 188, 3) := by decide +kernel
theorem d_KReader_head_477 : decode b_KReader_head 477 = .ok (.aload_n 0, 1) := by decide +kernel
theorem d_KReader_head_478 : decode b_KReader_head 478 = .ok (.iload_n 3, 1) := by decide +kernel
theorem d_KReader_head_479 : decode b_KReader_head 479 = .ok (.putfield 379, 3) := by decide +kernel
theorem d_KReader_head_482 : decode b_KReader_head 482 = .ok (.return_, 1) := by decide +kernel
/-- KReader_head -/
def w_KReader_head (L : Nat → Nat)  (Q : IS → Prop) (σ : IS) : Prop := w_KReader_spaces L 5 (fun v2 σ1 => w_KReader_word L v2 1108 (fun v4 σ3 => w_KReader_equal L v4 (fun v6 σ5 => WJ (fun (s9 : Int) (σ10 : IS) => WJ (fun (s13 : Int) (σ14 : IS) => WL (fun (K15 : Int → IS → Prop) (s17 : Int) (σ18 : IS) => WJ (fun (s21 : Unit) (σ22 : IS) => WJ (fun (s25 : Int) (σ26 : IS) => w_KReader_written L s25 (fun v28 σ27 => if v28 = 0 then Q σ27 else inR (s17 + 1) ∧ w_KReader_spaces L (s17 + 1) (fun v31 σ30 => w_KReader_word L v31 1110 (fun v33 σ32 => w_KReader_equal L v33 (fun v35 σ34 => w_KReader_spaces L (s17 + 1) (fun v37 σ36 => w_KReader_word L v37 1110 (fun v39 σ38 => WJ (fun (s42 : Int × Int × Int) (σ43 : IS) => w_KReader_spaces L s42.1 (fun v45 σ44 => w_KReader_word L v45 1111 (fun v47 σ46 => WJ (fun (s50 : Int × Int) (σ51 : IS) => w_KReader_anySpaces L s50.1 (fun v53 σ52 => w_KReader_word L v53 1114 (fun v55 σ54 => w_KReader_written L v55 (fun v57 σ56 => if v57 = 0 then Q σ56 else WJ (fun (s61 : Unit) (σ62 : IS) => is01 s50.2 ∧ Q (pf (pf σ62 16 21 s50.2) 16 16 v55)) (fun J59 => if 0 < s42.2.2 then w_KReader_isNamed L s42.2.1 s42.2.2 (if (σ56.1 16 8) = 0 then 1116 else 1115) (fun v66 σ65 => if v66 = 0 then w_KReader_fail L 2 (fun v69 σ68 => Q σ68) σ65 else J59 () σ65) σ56 else J59 () σ56)) σ54) σ52) σ51) (fun J48 => if v47 < 0 then J48 (s42.1, 0) σ46 else w_KReader_spaces L s42.1 (fun v76 σ75 => w_KReader_word L v76 1111 (fun v78 σ77 => w_KReader_equal L v78 (fun v80 σ79 => w_KReader_quoted L v80 1112 (fun v82 σ81 => WJ (fun (s85 : Int) (σ86 : IS) => w_KReader_written L s85 (fun v88 σ87 => if v88 = 0 then Q σ87 else J48 (s85, (if v82 < 0 then (0 : Int) else (1 : Int))) σ87) σ86) (fun J83 => if (if v82 < 0 then (0 : Int) else (1 : Int)) = 0 then w_KReader_quoted L v80 1113 (fun v92 σ91 => J83 v92 σ91) σ81 else w_KReader_quoted L v80 1112 (fun v94 σ93 => J83 v94 σ93) σ81)) σ79) σ77) σ75) σ46)) σ44) σ43) (fun J40 => if v39 < 0 then J40 ((s17 + 1), 0, 0) σ38 else WJ (fun (s102 : Int) (σ103 : IS) => WJ (fun (s106 : Int) (σ107 : IS) => WL (fun (K108 : Int → IS → Prop) (s110 : Int) (σ111 : IS) => WJ (fun (s114 : Unit) (σ115 : IS) => WJ (fun (s118 : Int) (σ119 : IS) => w_KReader_written L s118 (fun v121 σ120 => if v121 = 0 then Q σ120 else inR (v35 + 1) ∧ inR (s110 + 1) ∧ J40 ((s110 + 1), (v35 + 1), s110) σ120) σ119) (fun J116 => WJ (fun (s127 : Unit) (σ128 : IS) => J116 (-1) σ128) (fun J125 => if s110 < 0 then J125 () σ115 else w_KReader_look L s110 (fun v131 σ130 => if v131 = s102 then J116 s110 σ130 else J125 () σ130) σ115))) (fun J112 => if s110 < 0 then J112 () σ111 else w_KReader_look L s110 (fun v135 σ134 => w_K_isLetter L v135 (fun v137 σ136 => WJ (fun (s140 : Unit) (σ141 : IS) => inR (s110 + 1) ∧ K108 (s110 + 1) σ141) (fun J138 => if v137 = 0 then w_KReader_look L s110 (fun v145 σ144 => w_K_isDigit L v145 (fun v147 σ146 => if v147 = 0 then w_KReader_look L s110 (fun v150 σ149 => if v150 = 46 then J138 () σ149 else w_KReader_look L s110 (fun v153 σ152 => if v153 = 95 then J138 () σ152 else w_KReader_look L s110 (fun v156 σ155 => if v156 = 45 then J138 () σ155 else J112 () σ155) σ152) σ149) σ146 else J138 () σ146) σ144) σ136 else J138 () σ136)) σ134) σ111)) s106 σ107) (fun J104 => WJ (fun (s160 : Unit) (σ161 : IS) => J104 (-1) σ161) (fun J158 => if v35 < 0 then J158 () σ103 else w_KReader_isQuote L s102 (fun v164 σ163 => if v164 = 0 then J158 () σ163 else inR (v35 + 1) ∧ w_KReader_look L (v35 + 1) (fun v167 σ166 => w_K_isLetter L v167 (fun v169 σ168 => if v169 = 0 then J158 () σ168 else inR (v35 + 2) ∧ J104 (v35 + 2) σ168) σ166) σ163) σ103))) (fun J100 => if v35 < 0 then J100 0 σ38 else w_KReader_look L v35 (fun v175 σ174 => J100 v175 σ174) σ38))) σ36) σ34) σ32) σ30) σ27) σ26) (fun J23 => WJ (fun (s179 : Unit) (σ180 : IS) => J23 (-1) σ180) (fun J177 => if ¬ s17 < 0 ∧ (¬ s17 = s13) then w_KReader_look L s17 (fun v182 σ181 => if v182 = s9 then J23 s17 σ181 else J177 () σ181) σ22 else J177 () σ22))) (fun J19 => if s17 < 0 then J19 () σ18 else w_KReader_look L s17 (fun v191 σ190 => w_K_isDigit L v191 (fun v193 σ192 => if v193 = 0 then J19 () σ192 else inR (s17 + 1) ∧ K15 (s17 + 1) σ192) σ190) σ18)) s13 σ14) (fun J11 => WJ (fun (s198 : Unit) (σ199 : IS) => J11 (-1) σ199) (fun J196 => if v6 < 0 then J196 () σ10 else w_KReader_isQuote L s9 (fun v202 σ201 => if v202 = 0 then J196 () σ201 else inR (v6 + 1) ∧ w_KReader_word L (v6 + 1) 1109 (fun v205 σ204 => J11 v205 σ204) σ201) σ10))) (fun J7 => if v6 < 0 then J7 0 σ5 else w_KReader_look L v6 (fun v209 σ208 => J7 v209 σ208) σ5)) σ3) σ1) σ
set_option maxHeartbeats 4000000 in
set_option maxRecDepth 20000 in
theorem s_KReader_head {L : Nat → Nat} (hL : ∀ r, L r < 2147483648) {d : Nat} (hd : 4 ≤ d)  {Q : IS → Prop} {σ : IS}  (h : w_KReader_head L  Q σ) : OkI BF L d 15 b_KReader_head 10 0 0 [] [some (.inr 16)] σ (qv Q) := by
  unfold w_KReader_head at h
  obtain ⟨d, rfl⟩ : ∃ e, d = e + 1 := ⟨d - 1, by omega⟩
  refine k_sb (lv' := [some (.inr 16), none, none, none, none, none, none, none, none, none]) (sb_s (sb_e (sb_e (sb_e (sb_e (sb_e (sb_e (sb_e (sb_e (sb_e sb_nil)))))))))) ?_
  refine k_aload_n d_KReader_head_0 rfl ?_
  refine k_aload_n d_KReader_head_1 rfl ?_
  refine k_aload_n d_KReader_head_2 rfl ?_
  refine k_iconst d_KReader_head_3 cI_5 ?_
  refine k_cvi [.inl 5] d_KReader_head_4 ml_15_333 rfl rfl ob_16 rfl (s_KReader_spaces hL (by omega)  h) (fun v2 σ1 h => ?_)
  refine k_ldcw d_KReader_head_7 ks_15_430 rfl ?_
  refine k_cvi [.inl v2, .inr 1108] d_KReader_head_10 ml_15_329 rfl rfl ob_16 rfl (s_KReader_word hL (by omega) it_1108 h) (fun v4 σ3 h => ?_)
  refine k_cvi [.inl v4] d_KReader_head_13 ml_15_432 rfl rfl ob_16 rfl (s_KReader_equal hL (by omega)  h) (fun v6 σ5 h => ?_)
  refine k_istore_n (lv' := [some (.inr 16), some (.inl v6), none, none, none, none, none, none, none, none]) d_KReader_head_16 rfl rfl ?_
  refine k_iload_n d_KReader_head_17 rfl ?_
  refine k_join (S := Int) (pc' := 30) (st' := fun s9 => [.inl s9]) (lv' := fun s9 => [some (.inr 16), some (.inl v6), none, none, none, none, none, none, none, none]) (fun s9 σ10 h => ?_) (fun J7 hJ8 h => ?_) h
  · refine k_istore_n (lv' := [some (.inr 16), some (.inl v6), some (.inl s9), none, none, none, none, none, none, none]) d_KReader_head_30 rfl rfl ?_
    refine k_iload_n d_KReader_head_31 rfl ?_
    refine k_join (S := Int) (pc' := 56) (st' := fun s13 => [.inl s13]) (lv' := fun s13 => [some (.inr 16), none, some (.inl s9), none, none, none, none, none, none, none]) (fun s13 σ14 h => ?_) (fun J11 hJ12 h => ?_) h
    · refine k_istore_n (lv' := [some (.inr 16), none, some (.inl s9), some (.inl s13), none, none, none, none, none, none]) d_KReader_head_56 rfl rfl ?_
      refine k_iload_n d_KReader_head_57 rfl ?_
      refine k_istore (lv' := [some (.inr 16), none, some (.inl s9), some (.inl s13), some (.inl s13), none, none, none, none, none]) d_KReader_head_58 rfl rfl ?_
      refine k_sb (lv' := [some (.inr 16), none, some (.inl s9), some (.inl s13), some (.inl s13), none, none, none, none, none]) (sb_s (sb_s (sb_s (sb_s (sb_s (sb_s (sb_s (sb_s (sb_s (sb_s sb_nil)))))))))) ?_
      refine k_loop (S := Int) (st := fun _ => []) (lv := fun s17 => [some (.inr 16), none, some (.inl s9), some (.inl s17), some (.inl s13), none, none, none, none, none]) (fun K15 hK16 s17 σ18 h => ?_) s13 _ h
      refine k_iload_n d_KReader_head_60 rfl ?_
      refine k_join (S := Unit) (pc' := 81) (st' := fun s21 => []) (lv' := fun s21 => [some (.inr 16), none, some (.inl s9), some (.inl s17), some (.inl s13), none, none, none, none, none]) (fun s21 σ22 h => ?_) (fun J19 hJ20 h => ?_) h
      · refine k_aload_n d_KReader_head_81 rfl ?_
        refine k_iload_n d_KReader_head_82 rfl ?_
        refine k_join (S := Int) (pc' := 106) (st' := fun s25 => [.inl s25, .inr 16]) (lv' := fun s25 => [some (.inr 16), none, none, some (.inl s17), none, none, none, none, none, none]) (fun s25 σ26 h => ?_) (fun J23 hJ24 h => ?_) h
        · refine k_cvi [.inl s25] d_KReader_head_106 ml_15_437 rfl rfl ob_16 rfl (s_KReader_written hL (by omega)  h) (fun v28 σ27 h => ?_)
          refine k_ifne d_KReader_head_109 rfl (fun c29 => ?_) (fun c29 => ?_)
          · have h := ineg c29 h
            obtain ⟨p176, h⟩ := h
            refine k_iinc (lv' := [some (.inr 16), none, none, some (.inl (s17 + 1)), none, none, none, none, none, none]) d_KReader_head_113 cI_1 rfl rfl p176 rfl ?_
            refine k_aload_n d_KReader_head_116 rfl ?_
            refine k_aload_n d_KReader_head_117 rfl ?_
            refine k_aload_n d_KReader_head_118 rfl ?_
            refine k_iload_n d_KReader_head_119 rfl ?_
            refine k_cvi [.inl (s17 + 1)] d_KReader_head_120 ml_15_333 rfl rfl ob_16 rfl (s_KReader_spaces hL (by omega)  h) (fun v31 σ30 h => ?_)
            refine k_ldcw d_KReader_head_123 ks_15_440 rfl ?_
            refine k_cvi [.inl v31, .inr 1110] d_KReader_head_126 ml_15_329 rfl rfl ob_16 rfl (s_KReader_word hL (by omega) it_1110 h) (fun v33 σ32 h => ?_)
            refine k_cvi [.inl v33] d_KReader_head_129 ml_15_432 rfl rfl ob_16 rfl (s_KReader_equal hL (by omega)  h) (fun v35 σ34 h => ?_)
            refine k_istore (lv' := [some (.inr 16), none, none, some (.inl (s17 + 1)), none, some (.inl v35), none, none, none, none]) d_KReader_head_132 rfl rfl ?_
            refine k_iconst d_KReader_head_134 cI_0 ?_
            refine k_istore (lv' := [some (.inr 16), none, none, some (.inl (s17 + 1)), none, some (.inl v35), some (.inl 0), none, none, none]) d_KReader_head_135 rfl rfl ?_
            refine k_iconst d_KReader_head_137 cI_0 ?_
            refine k_istore (lv' := [some (.inr 16), none, none, some (.inl (s17 + 1)), none, some (.inl v35), some (.inl 0), some (.inl 0), none, none]) d_KReader_head_138 rfl rfl ?_
            refine k_aload_n d_KReader_head_140 rfl ?_
            refine k_aload_n d_KReader_head_141 rfl ?_
            refine k_iload_n d_KReader_head_142 rfl ?_
            refine k_cvi [.inl (s17 + 1)] d_KReader_head_143 ml_15_333 rfl rfl ob_16 rfl (s_KReader_spaces hL (by omega)  h) (fun v37 σ36 h => ?_)
            refine k_ldcw d_KReader_head_146 ks_15_440 rfl ?_
            refine k_cvi [.inl v37, .inr 1110] d_KReader_head_149 ml_15_329 rfl rfl ob_16 rfl (s_KReader_word hL (by omega) it_1110 h) (fun v39 σ38 h => ?_)
            refine k_join (S := Int × Int × Int) (pc' := 319) (st' := fun s42 => []) (lv' := fun s42 => [some (.inr 16), none, none, some (.inl s42.1), none, none, some (.inl s42.2.1), some (.inl s42.2.2), none, none]) (fun s42 σ43 h => ?_) (fun J40 hJ41 h => ?_) h
            · refine k_iconst d_KReader_head_319 cI_0 ?_
              refine k_istore (lv' := [some (.inr 16), none, none, some (.inl s42.1), none, none, some (.inl s42.2.1), some (.inl s42.2.2), some (.inl 0), none]) d_KReader_head_320 rfl rfl ?_
              refine k_aload_n d_KReader_head_322 rfl ?_
              refine k_aload_n d_KReader_head_323 rfl ?_
              refine k_iload_n d_KReader_head_324 rfl ?_
              refine k_cvi [.inl s42.1] d_KReader_head_325 ml_15_333 rfl rfl ob_16 rfl (s_KReader_spaces hL (by omega)  h) (fun v45 σ44 h => ?_)
              refine k_ldcw d_KReader_head_328 ks_15_442 rfl ?_
              refine k_cvi [.inl v45, .inr 1111] d_KReader_head_331 ml_15_329 rfl rfl ob_16 rfl (s_KReader_word hL (by omega) it_1111 h) (fun v47 σ46 h => ?_)
              refine k_join (S := Int × Int) (pc' := 410) (st' := fun s50 => []) (lv' := fun s50 => [some (.inr 16), none, none, some (.inl s50.1), none, none, some (.inl s42.2.1), some (.inl s42.2.2), some (.inl s50.2), none]) (fun s50 σ51 h => ?_) (fun J48 hJ49 h => ?_) h
              · refine k_aload_n d_KReader_head_410 rfl ?_
                refine k_aload_n d_KReader_head_411 rfl ?_
                refine k_iload_n d_KReader_head_412 rfl ?_
                refine k_cvi [.inl s50.1] d_KReader_head_413 ml_15_297 rfl rfl ob_16 rfl (s_KReader_anySpaces hL (by omega)  h) (fun v53 σ52 h => ?_)
                refine k_ldcw d_KReader_head_416 ks_15_451 rfl ?_
                refine k_cvi [.inl v53, .inr 1114] d_KReader_head_419 ml_15_329 rfl rfl ob_16 rfl (s_KReader_word hL (by omega) it_1114 h) (fun v55 σ54 h => ?_)
                refine k_istore_n (lv' := [some (.inr 16), none, none, some (.inl v55), none, none, some (.inl s42.2.1), some (.inl s42.2.2), some (.inl s50.2), none]) d_KReader_head_422 rfl rfl ?_
                refine k_aload_n d_KReader_head_423 rfl ?_
                refine k_iload_n d_KReader_head_424 rfl ?_
                refine k_cvi [.inl v55] d_KReader_head_425 ml_15_437 rfl rfl ob_16 rfl (s_KReader_written hL (by omega)  h) (fun v57 σ56 h => ?_)
                refine k_ifne d_KReader_head_428 rfl (fun c58 => ?_) (fun c58 => ?_)
                · have h := ineg c58 h
                  refine k_iload d_KReader_head_432 rfl ?_
                  refine k_join (S := Unit) (pc' := 471) (st' := fun s61 => []) (lv' := fun s61 => [some (.inr 16), none, none, some (.inl v55), none, none, none, none, some (.inl s50.2), none]) (fun s61 σ62 h => ?_) (fun J59 hJ60 h => ?_) h
                  · refine k_aload_n d_KReader_head_471 rfl ?_
                    refine k_iload d_KReader_head_472 rfl ?_
                    obtain ⟨p63, h⟩ := h
                    refine k_putZ d_KReader_head_474 fl_15_188 ob_16 rfl p63 ?_
                    refine k_aload_n d_KReader_head_477 rfl ?_
                    refine k_iload_n d_KReader_head_478 rfl ?_
                    refine k_putI d_KReader_head_479 fl_15_379 ob_16 rfl ?_
                    exact k_ret d_KReader_head_482 h
                  · refine k_ifle d_KReader_head_434 rfl (fun c64 => ?_) (fun c64 => ?_)
                    · have h := ineg c64 h
                      exact k_sb (sb_s (sb_s (sb_s (sb_s (sb_s (sb_s (sb_n (sb_n (sb_s (sb_s sb_nil)))))))))) (hJ60 () _ h)
                    · have h := ipos c64 h
                      refine k_aload_n d_KReader_head_437 rfl ?_
                      refine k_iload d_KReader_head_438 rfl ?_
                      refine k_iload d_KReader_head_440 rfl ?_
                      refine k_aload_n d_KReader_head_442 rfl ?_
                      refine k_getI (x := (σ56.1 16 8)) d_KReader_head_443 fl_15_237 ob_16 rfl rfl ?_
                      have hV70 : OkI BF L (d + 1) 15 b_KReader_head 10 0 458 [.inr (if (σ56.1 16 8) = 0 then 1116 else 1115), .inl s42.2.2, .inl s42.2.1, .inr 16] [some (.inr 16), none, none, some (.inl v55), none, none, some (.inl s42.2.1), some (.inl s42.2.2), some (.inl s50.2), none] σ56 (qv Q) := by
                        refine k_cvi [.inl s42.2.1, .inl s42.2.2, .inr (if (σ56.1 16 8) = 0 then 1116 else 1115)] d_KReader_head_458 ml_15_457 rfl rfl ob_16 rfl (s_KReader_isNamed hL (by omega) (it_if it_1116 it_1115) h) (fun v66 σ65 h => ?_)
                        refine k_ifne d_KReader_head_461 rfl (fun c67 => ?_) (fun c67 => ?_)
                        · have h := ineg c67 h
                          exact k_sb (sb_s (sb_s (sb_s (sb_s (sb_s (sb_s (sb_n (sb_n (sb_s (sb_s sb_nil)))))))))) (hJ60 () _ h)
                        · have h := ipos c67 h
                          refine k_aload_n d_KReader_head_464 rfl ?_
                          refine k_iconst d_KReader_head_465 cI_2 ?_
                          refine k_cvi [.inl 2] d_KReader_head_466 ml_15_392 rfl rfl ob_16 rfl (s_KReader_fail hL (by omega)  h) (fun v69 σ68 h => ?_)
                          refine k_pop d_KReader_head_469 ?_
                          exact k_ret d_KReader_head_470 h
                      refine k_ifeq d_KReader_head_446 rfl (fun c71 => ?_) (fun c71 => ?_)
                      · have hV72 := k_eqR (if_pos c71) hV70
                        refine k_ldcw d_KReader_head_455 ks_15_455 rfl ?_
                        exact hV72
                      · have hV73 := k_eqR (if_neg c71) hV70
                        refine k_ldcw d_KReader_head_449 ks_15_453 rfl ?_
                        refine k_goto d_KReader_head_452 rfl ?_
                        exact hV73
                · have h := ipos c58 h
                  exact k_ret d_KReader_head_431 h
              · refine k_iflt d_KReader_head_334 rfl (fun c74 => ?_) (fun c74 => ?_)
                · have h := ipos c74 h
                  exact k_sb (sb_s (sb_s (sb_s (sb_s (sb_s (sb_s (sb_s (sb_s (sb_s (sb_s sb_nil)))))))))) (hJ49 (s42.1, 0) _ h)
                · have h := ineg c74 h
                  refine k_aload_n d_KReader_head_337 rfl ?_
                  refine k_aload_n d_KReader_head_338 rfl ?_
                  refine k_aload_n d_KReader_head_339 rfl ?_
                  refine k_iload_n d_KReader_head_340 rfl ?_
                  refine k_cvi [.inl s42.1] d_KReader_head_341 ml_15_333 rfl rfl ob_16 rfl (s_KReader_spaces hL (by omega)  h) (fun v76 σ75 h => ?_)
                  refine k_ldcw d_KReader_head_344 ks_15_442 rfl ?_
                  refine k_cvi [.inl v76, .inr 1111] d_KReader_head_347 ml_15_329 rfl rfl ob_16 rfl (s_KReader_word hL (by omega) it_1111 h) (fun v78 σ77 h => ?_)
                  refine k_cvi [.inl v78] d_KReader_head_350 ml_15_432 rfl rfl ob_16 rfl (s_KReader_equal hL (by omega)  h) (fun v80 σ79 h => ?_)
                  refine k_istore (lv' := [some (.inr 16), none, none, some (.inl s42.1), none, none, some (.inl s42.2.1), some (.inl s42.2.2), some (.inl 0), some (.inl v80)]) d_KReader_head_353 rfl rfl ?_
                  refine k_aload_n d_KReader_head_355 rfl ?_
                  refine k_iload d_KReader_head_356 rfl ?_
                  refine k_ldcw d_KReader_head_358 ks_15_444 rfl ?_
                  refine k_cvi [.inl v80, .inr 1112] d_KReader_head_361 ml_15_446 rfl rfl ob_16 rfl (s_KReader_quoted hL (by omega) it_1112 h) (fun v82 σ81 h => ?_)
                  have hV95 : OkI BF L (d + 1) 15 b_KReader_head 10 0 372 [.inl (if v82 < 0 then (0 : Int) else (1 : Int))] [some (.inr 16), none, none, some (.inl s42.1), none, none, some (.inl s42.2.1), some (.inl s42.2.2), some (.inl 0), some (.inl v80)] σ81 (qv Q) := by
                    refine k_istore (lv' := [some (.inr 16), none, none, some (.inl s42.1), none, none, some (.inl s42.2.1), some (.inl s42.2.2), some (.inl (if v82 < 0 then (0 : Int) else (1 : Int))), some (.inl v80)]) d_KReader_head_372 rfl rfl ?_
                    refine k_iload d_KReader_head_374 rfl ?_
                    refine k_join (S := Int) (pc' := 400) (st' := fun s85 => [.inl s85]) (lv' := fun s85 => [some (.inr 16), none, none, none, none, none, some (.inl s42.2.1), some (.inl s42.2.2), some (.inl (if v82 < 0 then (0 : Int) else (1 : Int))), none]) (fun s85 σ86 h => ?_) (fun J83 hJ84 h => ?_) h
                    · refine k_istore_n (lv' := [some (.inr 16), none, none, some (.inl s85), none, none, some (.inl s42.2.1), some (.inl s42.2.2), some (.inl (if v82 < 0 then (0 : Int) else (1 : Int))), none]) d_KReader_head_400 rfl rfl ?_
                      refine k_aload_n d_KReader_head_401 rfl ?_
                      refine k_iload_n d_KReader_head_402 rfl ?_
                      refine k_cvi [.inl s85] d_KReader_head_403 ml_15_437 rfl rfl ob_16 rfl (s_KReader_written hL (by omega)  h) (fun v88 σ87 h => ?_)
                      refine k_ifne d_KReader_head_406 rfl (fun c89 => ?_) (fun c89 => ?_)
                      · have h := ineg c89 h
                        exact k_sb (sb_s (sb_s (sb_s (sb_s (sb_s (sb_s (sb_s (sb_s (sb_s (sb_s sb_nil)))))))))) (hJ49 (s85, (if v82 < 0 then (0 : Int) else (1 : Int))) _ h)
                      · have h := ipos c89 h
                        exact k_ret d_KReader_head_409 h
                    · refine k_ifeq d_KReader_head_376 rfl (fun c90 => ?_) (fun c90 => ?_)
                      · have h := ipos c90 h
                        refine k_aload_n d_KReader_head_391 rfl ?_
                        refine k_iload d_KReader_head_392 rfl ?_
                        refine k_ldcw d_KReader_head_394 ks_15_449 rfl ?_
                        refine k_cvi [.inl v80, .inr 1113] d_KReader_head_397 ml_15_446 rfl rfl ob_16 rfl (s_KReader_quoted hL (by omega) it_1113 h) (fun v92 σ91 h => ?_)
                        exact k_sb (sb_s (sb_s (sb_s (sb_n (sb_s (sb_s (sb_s (sb_s (sb_s (sb_n sb_nil)))))))))) (hJ84 v92 _ h)
                      · have h := ineg c90 h
                        refine k_aload_n d_KReader_head_379 rfl ?_
                        refine k_iload d_KReader_head_380 rfl ?_
                        refine k_ldcw d_KReader_head_382 ks_15_444 rfl ?_
                        refine k_cvi [.inl v80, .inr 1112] d_KReader_head_385 ml_15_446 rfl rfl ob_16 rfl (s_KReader_quoted hL (by omega) it_1112 h) (fun v94 σ93 h => ?_)
                        refine k_goto d_KReader_head_388 rfl ?_
                        exact k_sb (sb_s (sb_s (sb_s (sb_n (sb_s (sb_s (sb_s (sb_s (sb_s (sb_n sb_nil)))))))))) (hJ84 v94 _ h)
                  refine k_iflt d_KReader_head_364 rfl (fun c96 => ?_) (fun c96 => ?_)
                  · have hV97 := k_eqI (if_pos c96) hV95
                    refine k_iconst d_KReader_head_371 cI_0 ?_
                    exact hV97
                  · have hV98 := k_eqI (if_neg c96) hV95
                    refine k_iconst d_KReader_head_367 cI_1 ?_
                    refine k_goto d_KReader_head_368 rfl ?_
                    exact hV98
            · refine k_iflt d_KReader_head_152 rfl (fun c99 => ?_) (fun c99 => ?_)
              · have h := ipos c99 h
                exact k_sb (sb_s (sb_s (sb_s (sb_s (sb_s (sb_n (sb_s (sb_s (sb_s (sb_s sb_nil)))))))))) (hJ41 ((s17 + 1), 0, 0) _ h)
              · have h := ineg c99 h
                refine k_iload d_KReader_head_155 rfl ?_
                refine k_join (S := Int) (pc' := 170) (st' := fun s102 => [.inl s102]) (lv' := fun s102 => [some (.inr 16), none, none, none, none, some (.inl v35), none, none, none, none]) (fun s102 σ103 h => ?_) (fun J100 hJ101 h => ?_) h
                · refine k_istore_n (lv' := [some (.inr 16), none, some (.inl s102), none, none, some (.inl v35), none, none, none, none]) d_KReader_head_170 rfl rfl ?_
                  refine k_iload d_KReader_head_171 rfl ?_
                  refine k_join (S := Int) (pc' := 205) (st' := fun s106 => [.inl s106]) (lv' := fun s106 => [some (.inr 16), none, some (.inl s102), none, none, some (.inl v35), none, none, none, none]) (fun s106 σ107 h => ?_) (fun J104 hJ105 h => ?_) h
                  · refine k_istore (lv' := [some (.inr 16), none, some (.inl s102), none, none, some (.inl v35), none, none, some (.inl s106), none]) d_KReader_head_205 rfl rfl ?_
                    refine k_sb (lv' := [some (.inr 16), none, some (.inl s102), none, none, some (.inl v35), none, none, some (.inl s106), none]) (sb_s (sb_s (sb_s (sb_s (sb_s (sb_s (sb_s (sb_s (sb_s (sb_s sb_nil)))))))))) ?_
                    refine k_loop (S := Int) (st := fun _ => []) (lv := fun s110 => [some (.inr 16), none, some (.inl s102), none, none, some (.inl v35), none, none, some (.inl s110), none]) (fun K108 hK109 s110 σ111 h => ?_) s106 _ h
                    refine k_iload d_KReader_head_207 rfl ?_
                    refine k_join (S := Unit) (pc' := 275) (st' := fun s114 => []) (lv' := fun s114 => [some (.inr 16), none, some (.inl s102), none, none, some (.inl v35), none, none, some (.inl s110), none]) (fun s114 σ115 h => ?_) (fun J112 hJ113 h => ?_) h
                    · refine k_aload_n d_KReader_head_275 rfl ?_
                      refine k_iload d_KReader_head_276 rfl ?_
                      refine k_join (S := Int) (pc' := 297) (st' := fun s118 => [.inl s118, .inr 16]) (lv' := fun s118 => [some (.inr 16), none, none, none, none, some (.inl v35), none, none, some (.inl s110), none]) (fun s118 σ119 h => ?_) (fun J116 hJ117 h => ?_) h
                      · refine k_cvi [.inl s118] d_KReader_head_297 ml_15_437 rfl rfl ob_16 rfl (s_KReader_written hL (by omega)  h) (fun v121 σ120 h => ?_)
                        refine k_ifne d_KReader_head_300 rfl (fun c122 => ?_) (fun c122 => ?_)
                        · have h := ineg c122 h
                          refine k_iload d_KReader_head_304 rfl ?_
                          refine k_iconst d_KReader_head_306 cI_1 ?_
                          obtain ⟨p124, h⟩ := h
                          refine k_iadd d_KReader_head_307 p124 ?_
                          refine k_istore (lv' := [some (.inr 16), none, none, none, none, some (.inl v35), some (.inl (v35 + 1)), none, some (.inl s110), none]) d_KReader_head_308 rfl rfl ?_
                          refine k_iload d_KReader_head_310 rfl ?_
                          refine k_istore (lv' := [some (.inr 16), none, none, none, none, some (.inl v35), some (.inl (v35 + 1)), some (.inl s110), some (.inl s110), none]) d_KReader_head_312 rfl rfl ?_
                          refine k_iload d_KReader_head_314 rfl ?_
                          refine k_iconst d_KReader_head_316 cI_1 ?_
                          obtain ⟨p123, h⟩ := h
                          refine k_iadd d_KReader_head_317 p123 ?_
                          refine k_istore_n (lv' := [some (.inr 16), none, none, some (.inl (s110 + 1)), none, some (.inl v35), some (.inl (v35 + 1)), some (.inl s110), some (.inl s110), none]) d_KReader_head_318 rfl rfl ?_
                          exact k_sb (sb_s (sb_s (sb_s (sb_s (sb_s (sb_n (sb_s (sb_s (sb_n (sb_s sb_nil)))))))))) (hJ41 ((s110 + 1), (v35 + 1), s110) _ h)
                        · have h := ipos c122 h
                          exact k_ret d_KReader_head_303 h
                      · refine k_join (S := Unit) (pc' := 291) (st' := fun s127 => [.inr 16]) (lv' := fun s127 => [some (.inr 16), none, none, none, none, some (.inl v35), none, none, some (.inl s110), none]) (fun s127 σ128 h => ?_) (fun J125 hJ126 h => ?_) h
                        · refine k_iconst d_KReader_head_291 cI_m1 ?_
                          refine k_goto d_KReader_head_292 rfl ?_
                          exact k_sb (sb_s (sb_s (sb_s (sb_s (sb_s (sb_s (sb_s (sb_s (sb_s (sb_s sb_nil)))))))))) (hJ117 (-1) _ h)
                        · refine k_iflt d_KReader_head_278 rfl (fun c129 => ?_) (fun c129 => ?_)
                          · have h := ipos c129 h
                            exact k_sb (sb_s (sb_s (sb_n (sb_s (sb_s (sb_s (sb_s (sb_s (sb_s (sb_s sb_nil)))))))))) (hJ126 () _ h)
                          · have h := ineg c129 h
                            refine k_aload_n d_KReader_head_281 rfl ?_
                            refine k_iload d_KReader_head_282 rfl ?_
                            refine k_cvi [.inl s110] d_KReader_head_284 ml_15_282 rfl rfl ob_16 rfl (s_KReader_look hL (by omega)  h) (fun v131 σ130 h => ?_)
                            refine k_iload_n d_KReader_head_287 rfl ?_
                            refine k_iceq d_KReader_head_288 rfl (fun c132 => ?_) (fun c132 => ?_)
                            · have h := ipos c132 h
                              refine k_iload d_KReader_head_295 rfl ?_
                              exact k_sb (sb_s (sb_s (sb_n (sb_s (sb_s (sb_s (sb_s (sb_s (sb_s (sb_s sb_nil)))))))))) (hJ117 s110 _ h)
                            · have h := ineg c132 h
                              exact k_sb (sb_s (sb_s (sb_n (sb_s (sb_s (sb_s (sb_s (sb_s (sb_s (sb_s sb_nil)))))))))) (hJ126 () _ h)
                    · refine k_iflt d_KReader_head_209 rfl (fun c133 => ?_) (fun c133 => ?_)
                      · have h := ipos c133 h
                        exact k_sb (sb_s (sb_s (sb_s (sb_s (sb_s (sb_s (sb_s (sb_s (sb_s (sb_s sb_nil)))))))))) (hJ113 () _ h)
                      · have h := ineg c133 h
                        refine k_aload_n d_KReader_head_212 rfl ?_
                        refine k_iload d_KReader_head_213 rfl ?_
                        refine k_cvi [.inl s110] d_KReader_head_215 ml_15_282 rfl rfl ob_16 rfl (s_KReader_look hL (by omega)  h) (fun v135 σ134 h => ?_)
                        refine k_csi [.inl v135] d_KReader_head_218 ml_15_316 (Or.inr rfl) rfl rfl rfl (s_K_isLetter hL (by omega)  h) (fun v137 σ136 h => ?_)
                        refine k_join (S := Unit) (pc' := 269) (st' := fun s140 => []) (lv' := fun s140 => [some (.inr 16), none, some (.inl s102), none, none, some (.inl v35), none, none, some (.inl s110), none]) (fun s140 σ141 h => ?_) (fun J138 hJ139 h => ?_) h
                        · obtain ⟨p142, h⟩ := h
                          refine k_iinc (lv' := [some (.inr 16), none, some (.inl s102), none, none, some (.inl v35), none, none, some (.inl (s110 + 1)), none]) d_KReader_head_269 cI_1 rfl rfl p142 rfl ?_
                          refine k_goto d_KReader_head_272 rfl ?_
                          exact k_sb (sb_s (sb_s (sb_s (sb_s (sb_s (sb_s (sb_s (sb_s (sb_s (sb_s sb_nil)))))))))) (hK109 (s110 + 1) _ h)
                        · refine k_ifne d_KReader_head_221 rfl (fun c143 => ?_) (fun c143 => ?_)
                          · have h := ineg c143 h
                            exact k_sb (sb_s (sb_s (sb_s (sb_s (sb_s (sb_s (sb_s (sb_s (sb_s (sb_s sb_nil)))))))))) (hJ139 () _ h)
                          · have h := ipos c143 h
                            refine k_aload_n d_KReader_head_224 rfl ?_
                            refine k_iload d_KReader_head_225 rfl ?_
                            refine k_cvi [.inl s110] d_KReader_head_227 ml_15_282 rfl rfl ob_16 rfl (s_KReader_look hL (by omega)  h) (fun v145 σ144 h => ?_)
                            refine k_csi [.inl v145] d_KReader_head_230 ml_15_319 (Or.inr rfl) rfl rfl rfl (s_K_isDigit hL (by omega)  h) (fun v147 σ146 h => ?_)
                            refine k_ifne d_KReader_head_233 rfl (fun c148 => ?_) (fun c148 => ?_)
                            · have h := ineg c148 h
                              exact k_sb (sb_s (sb_s (sb_s (sb_s (sb_s (sb_s (sb_s (sb_s (sb_s (sb_s sb_nil)))))))))) (hJ139 () _ h)
                            · have h := ipos c148 h
                              refine k_aload_n d_KReader_head_236 rfl ?_
                              refine k_iload d_KReader_head_237 rfl ?_
                              refine k_cvi [.inl s110] d_KReader_head_239 ml_15_282 rfl rfl ob_16 rfl (s_KReader_look hL (by omega)  h) (fun v150 σ149 h => ?_)
                              refine k_bipush d_KReader_head_242 cB_46 ?_
                              refine k_iceq d_KReader_head_244 rfl (fun c151 => ?_) (fun c151 => ?_)
                              · have h := ipos c151 h
                                exact k_sb (sb_s (sb_s (sb_s (sb_s (sb_s (sb_s (sb_s (sb_s (sb_s (sb_s sb_nil)))))))))) (hJ139 () _ h)
                              · have h := ineg c151 h
                                refine k_aload_n d_KReader_head_247 rfl ?_
                                refine k_iload d_KReader_head_248 rfl ?_
                                refine k_cvi [.inl s110] d_KReader_head_250 ml_15_282 rfl rfl ob_16 rfl (s_KReader_look hL (by omega)  h) (fun v153 σ152 h => ?_)
                                refine k_bipush d_KReader_head_253 cB_95 ?_
                                refine k_iceq d_KReader_head_255 rfl (fun c154 => ?_) (fun c154 => ?_)
                                · have h := ipos c154 h
                                  exact k_sb (sb_s (sb_s (sb_s (sb_s (sb_s (sb_s (sb_s (sb_s (sb_s (sb_s sb_nil)))))))))) (hJ139 () _ h)
                                · have h := ineg c154 h
                                  refine k_aload_n d_KReader_head_258 rfl ?_
                                  refine k_iload d_KReader_head_259 rfl ?_
                                  refine k_cvi [.inl s110] d_KReader_head_261 ml_15_282 rfl rfl ob_16 rfl (s_KReader_look hL (by omega)  h) (fun v156 σ155 h => ?_)
                                  refine k_bipush d_KReader_head_264 cB_45 ?_
                                  refine k_icne d_KReader_head_266 rfl (fun c157 => ?_) (fun c157 => ?_)
                                  · have h := ineg c157 h
                                    exact k_sb (sb_s (sb_s (sb_s (sb_s (sb_s (sb_s (sb_s (sb_s (sb_s (sb_s sb_nil)))))))))) (hJ113 () _ h)
                                  · have h := ipos c157 h
                                    exact k_sb (sb_s (sb_s (sb_s (sb_s (sb_s (sb_s (sb_s (sb_s (sb_s (sb_s sb_nil)))))))))) (hJ139 () _ h)
                  · refine k_join (S := Unit) (pc' := 197) (st' := fun s160 => []) (lv' := fun s160 => [some (.inr 16), none, some (.inl s102), none, none, some (.inl v35), none, none, none, none]) (fun s160 σ161 h => ?_) (fun J158 hJ159 h => ?_) h
                    · refine k_iconst d_KReader_head_197 cI_m1 ?_
                      refine k_goto d_KReader_head_198 rfl ?_
                      exact k_sb (sb_s (sb_s (sb_s (sb_s (sb_s (sb_s (sb_s (sb_s (sb_s (sb_s sb_nil)))))))))) (hJ105 (-1) _ h)
                    · refine k_iflt d_KReader_head_173 rfl (fun c162 => ?_) (fun c162 => ?_)
                      · have h := ipos c162 h
                        exact k_sb (sb_s (sb_s (sb_s (sb_s (sb_s (sb_s (sb_s (sb_s (sb_s (sb_s sb_nil)))))))))) (hJ159 () _ h)
                      · have h := ineg c162 h
                        refine k_iload_n d_KReader_head_176 rfl ?_
                        refine k_csi [.inl s102] d_KReader_head_177 ml_15_310 (Or.inl rfl) rfl rfl rfl (s_KReader_isQuote hL (by omega)  h) (fun v164 σ163 h => ?_)
                        refine k_ifeq d_KReader_head_180 rfl (fun c165 => ?_) (fun c165 => ?_)
                        · have h := ipos c165 h
                          exact k_sb (sb_s (sb_s (sb_s (sb_s (sb_s (sb_s (sb_s (sb_s (sb_s (sb_s sb_nil)))))))))) (hJ159 () _ h)
                        · have h := ineg c165 h
                          refine k_aload_n d_KReader_head_183 rfl ?_
                          refine k_iload d_KReader_head_184 rfl ?_
                          refine k_iconst d_KReader_head_186 cI_1 ?_
                          obtain ⟨p172, h⟩ := h
                          refine k_iadd d_KReader_head_187 p172 ?_
                          refine k_cvi [.inl (v35 + 1)] d_KReader_head_188 ml_15_282 rfl rfl ob_16 rfl (s_KReader_look hL (by omega)  h) (fun v167 σ166 h => ?_)
                          refine k_csi [.inl v167] d_KReader_head_191 ml_15_316 (Or.inr rfl) rfl rfl rfl (s_K_isLetter hL (by omega)  h) (fun v169 σ168 h => ?_)
                          refine k_ifne d_KReader_head_194 rfl (fun c170 => ?_) (fun c170 => ?_)
                          · have h := ineg c170 h
                            refine k_iload d_KReader_head_201 rfl ?_
                            refine k_iconst d_KReader_head_203 cI_2 ?_
                            obtain ⟨p171, h⟩ := h
                            refine k_iadd d_KReader_head_204 p171 ?_
                            exact k_sb (sb_s (sb_s (sb_s (sb_s (sb_s (sb_s (sb_s (sb_s (sb_s (sb_s sb_nil)))))))))) (hJ105 (v35 + 2) _ h)
                          · have h := ipos c170 h
                            exact k_sb (sb_s (sb_s (sb_s (sb_s (sb_s (sb_s (sb_s (sb_s (sb_s (sb_s sb_nil)))))))))) (hJ159 () _ h)
                · refine k_ifge d_KReader_head_157 rfl (fun c173 => ?_) (fun c173 => ?_)
                  · have h := ineg c173 h
                    refine k_aload_n d_KReader_head_164 rfl ?_
                    refine k_iload d_KReader_head_165 rfl ?_
                    refine k_cvi [.inl v35] d_KReader_head_167 ml_15_282 rfl rfl ob_16 rfl (s_KReader_look hL (by omega)  h) (fun v175 σ174 h => ?_)
                    exact k_sb (sb_s (sb_s (sb_s (sb_n (sb_s (sb_s (sb_n (sb_n (sb_s (sb_s sb_nil)))))))))) (hJ101 v175 _ h)
                  · have h := ipos c173 h
                    refine k_iconst d_KReader_head_160 cI_0 ?_
                    refine k_goto d_KReader_head_161 rfl ?_
                    exact k_sb (sb_s (sb_s (sb_s (sb_n (sb_s (sb_s (sb_n (sb_n (sb_s (sb_s sb_nil)))))))))) (hJ101 0 _ h)
          · have h := ipos c29 h
            exact k_ret d_KReader_head_112 h
        · refine k_join (S := Unit) (pc' := 101) (st' := fun s179 => [.inr 16]) (lv' := fun s179 => [some (.inr 16), none, none, some (.inl s17), none, none, none, none, none, none]) (fun s179 σ180 h => ?_) (fun J177 hJ178 h => ?_) h
          · refine k_iconst d_KReader_head_101 cI_m1 ?_
            refine k_goto d_KReader_head_102 rfl ?_
            exact k_sb (sb_s (sb_s (sb_s (sb_s (sb_s (sb_s (sb_s (sb_s (sb_s (sb_s sb_nil)))))))))) (hJ24 (-1) _ h)
          · have hX184 : (¬ s17 < 0 ∧ (¬ s17 = s13)) → OkI BF L (d + 1) 15 b_KReader_head 10 0 92 [.inr 16] [some (.inr 16), none, some (.inl s9), some (.inl s17), some (.inl s13), none, none, none, none, none] σ22 (qv Q) := fun e186 => by
              have h := ipos e186 h
              refine k_aload_n d_KReader_head_92 rfl ?_
              refine k_iload_n d_KReader_head_93 rfl ?_
              refine k_cvi [.inl s17] d_KReader_head_94 ml_15_282 rfl rfl ob_16 rfl (s_KReader_look hL (by omega)  h) (fun v182 σ181 h => ?_)
              refine k_iload_n d_KReader_head_97 rfl ?_
              refine k_iceq d_KReader_head_98 rfl (fun c183 => ?_) (fun c183 => ?_)
              · have h := ipos c183 h
                refine k_iload_n d_KReader_head_105 rfl ?_
                exact k_sb (sb_s (sb_s (sb_n (sb_s (sb_n (sb_s (sb_s (sb_s (sb_s (sb_s sb_nil)))))))))) (hJ24 s17 _ h)
              · have h := ineg c183 h
                exact k_sb (sb_s (sb_s (sb_n (sb_s (sb_n (sb_s (sb_s (sb_s (sb_s (sb_s sb_nil)))))))))) (hJ178 () _ h)
            have hY185 : ¬ (¬ s17 < 0 ∧ (¬ s17 = s13)) → OkI BF L (d + 1) 15 b_KReader_head 10 0 101 [.inr 16] [some (.inr 16), none, some (.inl s9), some (.inl s17), some (.inl s13), none, none, none, none, none] σ22 (qv Q) := fun e186 => by
              have h := ineg e186 h
              exact k_sb (sb_s (sb_s (sb_n (sb_s (sb_n (sb_s (sb_s (sb_s (sb_s (sb_s sb_nil)))))))))) (hJ178 () _ h)
            refine k_iflt d_KReader_head_83 rfl (fun c187 => ?_) (fun c187 => ?_)
            · exact hY185 (fun z => z.1 c187)
            · refine k_iload_n d_KReader_head_86 rfl ?_
              refine k_iload d_KReader_head_87 rfl ?_
              refine k_iceq d_KReader_head_89 rfl (fun c188 => ?_) (fun c188 => ?_)
              · exact hY185 (fun z => (fun z => z c188) z.2)
              · exact hX184 (⟨c187, c188⟩)
      · refine k_iflt d_KReader_head_61 rfl (fun c189 => ?_) (fun c189 => ?_)
        · have h := ipos c189 h
          exact k_sb (sb_s (sb_s (sb_s (sb_s (sb_s (sb_s (sb_s (sb_s (sb_s (sb_s sb_nil)))))))))) (hJ20 () _ h)
        · have h := ineg c189 h
          refine k_aload_n d_KReader_head_64 rfl ?_
          refine k_iload_n d_KReader_head_65 rfl ?_
          refine k_cvi [.inl s17] d_KReader_head_66 ml_15_282 rfl rfl ob_16 rfl (s_KReader_look hL (by omega)  h) (fun v191 σ190 h => ?_)
          refine k_csi [.inl v191] d_KReader_head_69 ml_15_319 (Or.inr rfl) rfl rfl rfl (s_K_isDigit hL (by omega)  h) (fun v193 σ192 h => ?_)
          refine k_ifeq d_KReader_head_72 rfl (fun c194 => ?_) (fun c194 => ?_)
          · have h := ipos c194 h
            exact k_sb (sb_s (sb_s (sb_s (sb_s (sb_s (sb_s (sb_s (sb_s (sb_s (sb_s sb_nil)))))))))) (hJ20 () _ h)
          · have h := ineg c194 h
            obtain ⟨p195, h⟩ := h
            refine k_iinc (lv' := [some (.inr 16), none, some (.inl s9), some (.inl (s17 + 1)), some (.inl s13), none, none, none, none, none]) d_KReader_head_75 cI_1 rfl rfl p195 rfl ?_
            refine k_goto d_KReader_head_78 rfl ?_
            exact k_sb (sb_s (sb_s (sb_s (sb_s (sb_s (sb_s (sb_s (sb_s (sb_s (sb_s sb_nil)))))))))) (hK16 (s17 + 1) _ h)
    · refine k_join (S := Unit) (pc' := 42) (st' := fun s198 => []) (lv' := fun s198 => [some (.inr 16), none, some (.inl s9), none, none, none, none, none, none, none]) (fun s198 σ199 h => ?_) (fun J196 hJ197 h => ?_) h
      · refine k_iconst d_KReader_head_42 cI_m1 ?_
        refine k_goto d_KReader_head_43 rfl ?_
        exact k_sb (sb_s (sb_s (sb_s (sb_s (sb_s (sb_s (sb_s (sb_s (sb_s (sb_s sb_nil)))))))))) (hJ12 (-1) _ h)
      · refine k_iflt d_KReader_head_32 rfl (fun c200 => ?_) (fun c200 => ?_)
        · have h := ipos c200 h
          exact k_sb (sb_s (sb_n (sb_s (sb_s (sb_s (sb_s (sb_s (sb_s (sb_s (sb_s sb_nil)))))))))) (hJ197 () _ h)
        · have h := ineg c200 h
          refine k_iload_n d_KReader_head_35 rfl ?_
          refine k_csi [.inl s9] d_KReader_head_36 ml_15_310 (Or.inl rfl) rfl rfl rfl (s_KReader_isQuote hL (by omega)  h) (fun v202 σ201 h => ?_)
          refine k_ifne d_KReader_head_39 rfl (fun c203 => ?_) (fun c203 => ?_)
          · have h := ineg c203 h
            refine k_aload_n d_KReader_head_46 rfl ?_
            refine k_iload_n d_KReader_head_47 rfl ?_
            refine k_iconst d_KReader_head_48 cI_1 ?_
            obtain ⟨p206, h⟩ := h
            refine k_iadd d_KReader_head_49 p206 ?_
            refine k_ldcw d_KReader_head_50 ks_15_435 rfl ?_
            refine k_cvi [.inl (v6 + 1), .inr 1109] d_KReader_head_53 ml_15_329 rfl rfl ob_16 rfl (s_KReader_word hL (by omega) it_1109 h) (fun v205 σ204 h => ?_)
            exact k_sb (sb_s (sb_n (sb_s (sb_s (sb_s (sb_s (sb_s (sb_s (sb_s (sb_s sb_nil)))))))))) (hJ12 v205 _ h)
          · have h := ipos c203 h
            exact k_sb (sb_s (sb_n (sb_s (sb_s (sb_s (sb_s (sb_s (sb_s (sb_s (sb_s sb_nil)))))))))) (hJ197 () _ h)
  · refine k_ifge d_KReader_head_18 rfl (fun c207 => ?_) (fun c207 => ?_)
    · have h := ineg c207 h
      refine k_aload_n d_KReader_head_25 rfl ?_
      refine k_iload_n d_KReader_head_26 rfl ?_
      refine k_cvi [.inl v6] d_KReader_head_27 ml_15_282 rfl rfl ob_16 rfl (s_KReader_look hL (by omega)  h) (fun v209 σ208 h => ?_)
      exact k_sb (sb_s (sb_s (sb_s (sb_s (sb_s (sb_s (sb_s (sb_s (sb_s (sb_s sb_nil)))))))))) (hJ8 v209 _ h)
    · have h := ipos c207 h
      refine k_iconst d_KReader_head_21 cI_0 ?_
      refine k_goto d_KReader_head_22 rfl ?_
      exact k_sb (sb_s (sb_s (sb_s (sb_s (sb_s (sb_s (sb_s (sb_s (sb_s (sb_s sb_nil)))))))))) (hJ8 0 _ h)
theorem d_KReader_pop_0 : decode b_KReader_pop 0 = .ok (.aload_n 0, 1) := by decide +kernel
theorem d_KReader_pop_1 : decode b_KReader_pop 1 = .ok (.dup, 1) := by decide +kernel
theorem d_KReader_pop_2 : decode b_KReader_pop 2 = .ok (.getfield 175, 3) := by decide +kernel
theorem d_KReader_pop_5 : decode b_KReader_pop 5 = .ok (.iconst 1, 1) := by decide +kernel
theorem d_KReader_pop_6 : decode b_KReader_pop 6 = .ok (.isub, 1) := by decide +kernel
theorem d_KReader_pop_7 : decode b_KReader_pop 7 = .ok (.putfield 175, 3) := by decide +kernel
theorem d_KReader_pop_10 : decode b_KReader_pop 10 = .ok (.aload_n 0, 1) := by decide +kernel
theorem d_KReader_pop_11 : decode b_KReader_pop 11 = .ok (.getfield 75, 3) := by decide +kernel
theorem d_KReader_pop_14 : decode b_KReader_pop 14 = .ok (.aload_n 0, 1) := by decide +kernel
theorem d_KReader_pop_15 : decode b_KReader_pop 15 = .ok (.getfield 54, 3) := by decide +kernel
theorem d_KReader_pop_18 : decode b_KReader_pop 18 = .ok (.aload_n 0, 1) := by decide +kernel
theorem d_KReader_pop_19 : decode b_KReader_pop 19 = .ok (.getfield 175, 3) := by decide +kernel
theorem d_KReader_pop_22 : decode b_KReader_pop 22 = .ok (.iaload, 1) := by decide +kernel
theorem d_KReader_pop_23 : decode b_KReader_pop 23 = .ok (.iconst 0, 1) := by decide +kernel
theorem d_KReader_pop_24 : decode b_KReader_pop 24 = .ok (.bastore, 1) := by decide +kernel
theorem d_KReader_pop_25 : decode b_KReader_pop 25 = .ok (.aload_n 0, 1) := by decide +kernel
theorem d_KReader_pop_26 : decode b_KReader_pop 26 = .ok (.aload_n 0, 1) := by decide +kernel
theorem d_KReader_pop_27 : decode b_KReader_pop 27 = .ok (.getfield 48, 3) := by decide +kernel
theorem d_KReader_pop_30 : decode b_KReader_pop 30 = .ok (.aload_n 0, 1) := by decide +kernel
theorem d_KReader_pop_31 : decode b_KReader_pop 31 = .ok (.getfield 175, 3) := by decide +kernel
theorem d_KReader_pop_34 : decode b_KReader_pop 34 = .ok (.iconst 1, 1) := by decide +kernel
theorem d_KReader_pop_35 : decode b_KReader_pop 35 = .ok (.isub, 1) := by decide +kernel
theorem d_KReader_pop_36 : decode b_KReader_pop 36 = .ok (.iaload, 1) := by decide +kernel
theorem d_KReader_pop_37 : decode b_KReader_pop 37 = .ok (.putfield 379, 3) := by decide +kernel
theorem d_KReader_pop_40 : decode b_KReader_pop 40 = .ok (.aload_n 0, 1) := by decide +kernel
theorem d_KReader_pop_41 : decode b_KReader_pop 41 = .ok (.aload_n 0, 1) := by decide +kernel
theorem d_KReader_pop_42 : decode b_KReader_pop 42 = .ok (.getfield 51, 3) := by decide +kernel
theorem d_KReader_pop_45 : decode b_KReader_pop 45 = .ok (.aload_n 0, 1) := by decide +kernel
theorem d_KReader_pop_46 : decode b_KReader_pop 46 = .ok (.getfield 175, 3) := by decide +kernel
theorem d_KReader_pop_49 : decode b_KReader_pop 49 = .ok (.iconst 1, 1) := by decide +kernel
theorem d_KReader_pop_50 : decode b_KReader_pop 50 = .ok (.isub, 1) := by decide +kernel
theorem d_KReader_pop_51 : decode b_KReader_pop 51 = .ok (.iaload, 1) := by decide +kernel
theorem d_KReader_pop_52 : decode b_KReader_pop 52 = .ok (.putfield 273, 3) := by decide +kernel
theorem d_KReader_pop_55 : decode b_KReader_pop 55 = .ok (.return_, 1) := by decide +kernel
/-- KReader_pop -/
def w_KReader_pop (L : Nat → Nat)  (Q : IS → Prop) (σ : IS) : Prop := inR ((σ.1 16 14) - 1) ∧ inL L 179 ((σ.1 16 14) - 1) ∧ inL L 186 (σ.2 179 (Int.toNat ((σ.1 16 14) - 1))) ∧ inR (((σ.1 16 14) - 1) - 1) ∧ inL L 177 (((σ.1 16 14) - 1) - 1) ∧ inR (((σ.1 16 14) - 1) - 1) ∧ inL L 178 (((σ.1 16 14) - 1) - 1) ∧ Q (pf (pf (pr (pf σ 16 14 ((σ.1 16 14) - 1)) 186 (Int.toNat (σ.2 179 (Int.toNat ((σ.1 16 14) - 1)))) 0) 16 16 (σ.2 177 (Int.toNat (((σ.1 16 14) - 1) - 1)))) 16 17 (σ.2 178 (Int.toNat (((σ.1 16 14) - 1) - 1))))
set_option maxHeartbeats 4000000 in
set_option maxRecDepth 20000 in
theorem s_KReader_pop {L : Nat → Nat} (hL : ∀ r, L r < 2147483648) {d : Nat} (hd : 0 ≤ d)  {Q : IS → Prop} {σ : IS}  (h : w_KReader_pop L  Q σ) : OkI BF L d 15 b_KReader_pop 1 0 0 [] [some (.inr 16)] σ (qv Q) := by
  unfold w_KReader_pop at h
  refine k_sb (lv' := [some (.inr 16)]) (sb_s sb_nil) ?_
  refine k_aload_n d_KReader_pop_0 rfl ?_
  refine k_dup d_KReader_pop_1 ?_
  refine k_getI (x := (σ.1 16 14)) d_KReader_pop_2 fl_15_175 ob_16 rfl rfl ?_
  refine k_iconst d_KReader_pop_5 cI_1 ?_
  obtain ⟨p7, h⟩ := h
  refine k_isub d_KReader_pop_6 p7 ?_
  refine k_putI d_KReader_pop_7 fl_15_175 ob_16 rfl ?_
  refine k_aload_n d_KReader_pop_10 rfl ?_
  refine k_getR d_KReader_pop_11 fl_15_75 ob_16 rfl ?_
  refine k_aload_n d_KReader_pop_14 rfl ?_
  refine k_getR d_KReader_pop_15 fl_15_54 ob_16 rfl ?_
  refine k_aload_n d_KReader_pop_18 rfl ?_
  refine k_getI (x := ((σ.1 16 14) - 1)) d_KReader_pop_19 fl_15_175 ob_16 rfl rfl ?_
  obtain ⟨p6, h⟩ := h
  refine k_ild (x := (σ.2 179 (Int.toNat ((σ.1 16 14) - 1)))) d_KReader_pop_22 rI_179 p6 rfl ?_
  refine k_iconst d_KReader_pop_23 cI_0 ?_
  obtain ⟨p5, h⟩ := h
  refine k_zst d_KReader_pop_24 rz_186 p5 (Or.inl rfl) ?_
  refine k_aload_n d_KReader_pop_25 rfl ?_
  refine k_aload_n d_KReader_pop_26 rfl ?_
  refine k_getR d_KReader_pop_27 fl_15_48 ob_16 rfl ?_
  refine k_aload_n d_KReader_pop_30 rfl ?_
  refine k_getI (x := ((σ.1 16 14) - 1)) d_KReader_pop_31 fl_15_175 ob_16 rfl rfl ?_
  refine k_iconst d_KReader_pop_34 cI_1 ?_
  obtain ⟨p4, h⟩ := h
  refine k_isub d_KReader_pop_35 p4 ?_
  obtain ⟨p3, h⟩ := h
  refine k_ild (x := (σ.2 177 (Int.toNat (((σ.1 16 14) - 1) - 1)))) d_KReader_pop_36 rI_177 p3 rfl ?_
  refine k_putI d_KReader_pop_37 fl_15_379 ob_16 rfl ?_
  refine k_aload_n d_KReader_pop_40 rfl ?_
  refine k_aload_n d_KReader_pop_41 rfl ?_
  refine k_getR d_KReader_pop_42 fl_15_51 ob_16 rfl ?_
  refine k_aload_n d_KReader_pop_45 rfl ?_
  refine k_getI (x := ((σ.1 16 14) - 1)) d_KReader_pop_46 fl_15_175 ob_16 rfl rfl ?_
  refine k_iconst d_KReader_pop_49 cI_1 ?_
  obtain ⟨p2, h⟩ := h
  refine k_isub d_KReader_pop_50 p2 ?_
  obtain ⟨p1, h⟩ := h
  refine k_ild (x := (σ.2 178 (Int.toNat (((σ.1 16 14) - 1) - 1)))) d_KReader_pop_51 rI_178 p1 rfl ?_
  refine k_putI d_KReader_pop_52 fl_15_273 ob_16 rfl ?_
  exact k_ret d_KReader_pop_55 h
theorem d_KReader_touch_0 : decode b_KReader_touch 0 = .ok (.aload_n 0, 1) := by decide +kernel
theorem d_KReader_touch_1 : decode b_KReader_touch 1 = .ok (.getfield 181, 3) := by decide +kernel
theorem d_KReader_touch_4 : decode b_KReader_touch 4 = .ok (.iconst 2, 1) := by decide +kernel
theorem d_KReader_touch_5 : decode b_KReader_touch 5 = .ok (.if_icmp .ne 15, 3) := by decide +kernel
theorem d_KReader_touch_8 : decode b_KReader_touch 8 = .ok (.aload_n 0, 1) := by decide +kernel
theorem d_KReader_touch_9 : decode b_KReader_touch 9 = .ok (.getfield 18, 3) := by decide +kernel
theorem d_KReader_touch_12 : decode b_KReader_touch 12 = .ok (.aload_n 0, 1) := by decide +kernel
theorem d_KReader_touch_13 : decode b_KReader_touch 13 = .ok (.getfield 221, 3) := by decide +kernel
theorem d_KReader_touch_16 : decode b_KReader_touch 16 = .ok (.iconst 1, 1) := by decide +kernel
theorem d_KReader_touch_17 : decode b_KReader_touch 17 = .ok (.isub, 1) := by decide +kernel
theorem d_KReader_touch_18 : decode b_KReader_touch 18 = .ok (.iconst 1, 1) := by decide +kernel
theorem d_KReader_touch_19 : decode b_KReader_touch 19 = .ok (.bastore, 1) := by decide +kernel
theorem d_KReader_touch_20 : decode b_KReader_touch 20 = .ok (.return_, 1) := by decide +kernel
/-- KReader_touch -/
def w_KReader_touch (L : Nat → Nat)  (Q : IS → Prop) (σ : IS) : Prop := WJ (fun (s3 : Unit) (σ4 : IS) => Q σ4) (fun J1 => if (σ.1 16 19) = 2 then inR ((σ.1 16 64) - 1) ∧ inL L 168 ((σ.1 16 64) - 1) ∧ J1 () (pr σ 168 (Int.toNat ((σ.1 16 64) - 1)) 1) else J1 () σ)
set_option maxHeartbeats 4000000 in
set_option maxRecDepth 20000 in
theorem s_KReader_touch {L : Nat → Nat} (hL : ∀ r, L r < 2147483648) {d : Nat} (hd : 0 ≤ d)  {Q : IS → Prop} {σ : IS}  (h : w_KReader_touch L  Q σ) : OkI BF L d 15 b_KReader_touch 1 0 0 [] [some (.inr 16)] σ (qv Q) := by
  unfold w_KReader_touch at h
  refine k_sb (lv' := [some (.inr 16)]) (sb_s sb_nil) ?_
  refine k_aload_n d_KReader_touch_0 rfl ?_
  refine k_getI (x := (σ.1 16 19)) d_KReader_touch_1 fl_15_181 ob_16 rfl rfl ?_
  refine k_iconst d_KReader_touch_4 cI_2 ?_
  refine k_join (S := Unit) (pc' := 20) (st' := fun s3 => []) (lv' := fun s3 => [none]) (fun s3 σ4 h => ?_) (fun J1 hJ2 h => ?_) h
  · exact k_ret d_KReader_touch_20 h
  · refine k_icne d_KReader_touch_5 rfl (fun c5 => ?_) (fun c5 => ?_)
    · have h := ineg c5 h
      exact k_sb (sb_n sb_nil) (hJ2 () _ h)
    · have h := ipos c5 h
      refine k_aload_n d_KReader_touch_8 rfl ?_
      refine k_getR d_KReader_touch_9 fl_15_18 ob_16 rfl ?_
      refine k_aload_n d_KReader_touch_12 rfl ?_
      refine k_getI (x := (σ.1 16 64)) d_KReader_touch_13 fl_15_221 ob_16 rfl rfl ?_
      refine k_iconst d_KReader_touch_16 cI_1 ?_
      obtain ⟨p7, h⟩ := h
      refine k_isub d_KReader_touch_17 p7 ?_
      refine k_iconst d_KReader_touch_18 cI_1 ?_
      obtain ⟨p6, h⟩ := h
      refine k_zst d_KReader_touch_19 rz_168 p6 (Or.inr rfl) ?_
      exact k_sb (sb_n sb_nil) (hJ2 () _ h)
theorem d_KReader_comment_0 : decode b_KReader_comment 0 = .ok (.aload_n 0, 1) := by decide +kernel
theorem d_KReader_comment_1 : decode b_KReader_comment 1 = .ok (.getfield 379, 3) := by decide +kernel
theorem d_KReader_comment_4 : decode b_KReader_comment 4 = .ok (.iconst 4, 1) := by decide +kernel
theorem d_KReader_comment_5 : decode b_KReader_comment 5 = .ok (.iadd, 1) := by decide +kernel
theorem d_KReader_comment_6 : decode b_KReader_comment 6 = .ok (.istore_n 1, 1) := by decide +kernel
theorem d_KReader_comment_7 : decode b_KReader_comment 7 = .ok (.iload_n 1, 1) := by decide +kernel
theorem d_KReader_comment_8 : decode b_KReader_comment 8 = .ok (.aload_n 0, 1) := by decide +kernel
theorem d_KReader_comment_9 : decode b_KReader_comment 9 = .ok (.getfield 273, 3) := by decide +kernel
theorem d_KReader_comment_12 : decode b_KReader_comment 12 = .ok (.if_icmp .ge 20, 3) := by decide +kernel
theorem d_KReader_comment_15 : decode b_KReader_comment 15 = .ok (.aload_n 0, 1) := by decide +kernel
theorem d_KReader_comment_16 : decode b_KReader_comment 16 = .ok (.iload_n 1, 1) := by decide +kernel
theorem d_KReader_comment_17 : decode b_KReader_comment 17 = .ok (.ldc_w 461, 3) := by decide +kernel
theorem d_KReader_comment_20 : decode b_KReader_comment 20 = .ok (.invokevirtual 290, 3) := by decide +kernel
theorem d_KReader_comment_23 : decode b_KReader_comment 23 = .ok (.ifCond .ne 9, 3) := by decide +kernel
theorem d_KReader_comment_26 : decode b_KReader_comment 26 = .ok (.iinc 1 1, 3) := by decide +kernel
theorem d_KReader_comment_29 : decode b_KReader_comment 29 = .ok (.goto (-22), 3) := by decide +kernel
theorem d_KReader_comment_32 : decode b_KReader_comment 32 = .ok (.aload_n 0, 1) := by decide +kernel
theorem d_KReader_comment_33 : decode b_KReader_comment 33 = .ok (.iload_n 1, 1) := by decide +kernel
theorem d_KReader_comment_34 : decode b_KReader_comment 34 = .ok (.ldc_w 463, 3) := by decide +kernel
theorem d_KReader_comment_37 : decode b_KReader_comment 37 = .ok (.invokevirtual 329, 3) := by decide +kernel
theorem d_KReader_comment_40 : decode b_KReader_comment 40 = .ok (.istore_n 1, 1) := by decide +kernel
theorem d_KReader_comment_41 : decode b_KReader_comment 41 = .ok (.aload_n 0, 1) := by decide +kernel
theorem d_KReader_comment_42 : decode b_KReader_comment 42 = .ok (.iload_n 1, 1) := by decide +kernel
theorem d_KReader_comment_43 : decode b_KReader_comment 43 = .ok (.invokevirtual 437, 3) := by decide +kernel
theorem d_KReader_comment_46 : decode b_KReader_comment 46 = .ok (.ifCond .eq 12, 3) := by decide +kernel
theorem d_KReader_comment_49 : decode b_KReader_comment 49 = .ok (.aload_n 0, 1) := by decide +kernel
theorem d_KReader_comment_50 : decode b_KReader_comment 50 = .ok (.invokevirtual 465, 3) := by decide +kernel
theorem d_KReader_comment_53 : decode b_KReader_comment 53 = .ok (.aload_n 0, 1) := by decide +kernel
theorem d_KReader_comment_54 : decode b_KReader_comment 54 = .ok (.iload_n 1, 1) := by decide +kernel
theorem d_KReader_comment_55 : decode b_KReader_comment 55 = .ok (.putfield 379, 3) := by decide +kernel
theorem d_KReader_comment_58 : decode b_KReader_comment 58 = .ok (.return_, 1) := by decide +kernel
/-- KReader_comment -/
def w_KReader_comment (L : Nat → Nat)  (Q : IS → Prop) (σ : IS) : Prop := inR ((σ.1 16 16) + 4) ∧ WL (fun (K1 : Int → IS → Prop) (s3 : Int) (σ4 : IS) => WJ (fun (s7 : Unit) (σ8 : IS) => w_KReader_word L s3 1118 (fun v10 σ9 => w_KReader_written L v10 (fun v12 σ11 => WJ (fun (s15 : Unit) (σ16 : IS) => Q σ16) (fun J13 => if v12 = 0 then J13 () σ11 else w_KReader_touch L  (fun σ18 => J13 () (pf σ18 16 16 v10)) σ11)) σ9) σ8) (fun J5 => if s3 < (σ4.1 16 17) then w_KReader_says L s3 1117 (fun v22 σ21 => if v22 = 0 then inR (s3 + 1) ∧ K1 (s3 + 1) σ21 else J5 () σ21) σ4 else J5 () σ4)) ((σ.1 16 16) + 4) σ
set_option maxHeartbeats 4000000 in
set_option maxRecDepth 20000 in
theorem s_KReader_comment {L : Nat → Nat} (hL : ∀ r, L r < 2147483648) {d : Nat} (hd : 3 ≤ d)  {Q : IS → Prop} {σ : IS}  (h : w_KReader_comment L  Q σ) : OkI BF L d 15 b_KReader_comment 2 0 0 [] [some (.inr 16)] σ (qv Q) := by
  unfold w_KReader_comment at h
  obtain ⟨d, rfl⟩ : ∃ e, d = e + 1 := ⟨d - 1, by omega⟩
  refine k_sb (lv' := [some (.inr 16), none]) (sb_s (sb_e sb_nil)) ?_
  refine k_aload_n d_KReader_comment_0 rfl ?_
  refine k_getI (x := (σ.1 16 16)) d_KReader_comment_1 fl_15_379 ob_16 rfl rfl ?_
  refine k_iconst d_KReader_comment_4 cI_4 ?_
  obtain ⟨p25, h⟩ := h
  refine k_iadd d_KReader_comment_5 p25 ?_
  refine k_istore_n (lv' := [some (.inr 16), some (.inl ((σ.1 16 16) + 4))]) d_KReader_comment_6 rfl rfl ?_
  refine k_sb (lv' := [some (.inr 16), some (.inl ((σ.1 16 16) + 4))]) (sb_s (sb_s sb_nil)) ?_
  refine k_loop (S := Int) (st := fun _ => []) (lv := fun s3 => [some (.inr 16), some (.inl s3)]) (fun K1 hK2 s3 σ4 h => ?_) ((σ.1 16 16) + 4) _ h
  refine k_iload_n d_KReader_comment_7 rfl ?_
  refine k_aload_n d_KReader_comment_8 rfl ?_
  refine k_getI (x := (σ4.1 16 17)) d_KReader_comment_9 fl_15_273 ob_16 rfl rfl ?_
  refine k_join (S := Unit) (pc' := 32) (st' := fun s7 => []) (lv' := fun s7 => [some (.inr 16), some (.inl s3)]) (fun s7 σ8 h => ?_) (fun J5 hJ6 h => ?_) h
  · refine k_aload_n d_KReader_comment_32 rfl ?_
    refine k_iload_n d_KReader_comment_33 rfl ?_
    refine k_ldcw d_KReader_comment_34 ks_15_463 rfl ?_
    refine k_cvi [.inl s3, .inr 1118] d_KReader_comment_37 ml_15_329 rfl rfl ob_16 rfl (s_KReader_word hL (by omega) it_1118 h) (fun v10 σ9 h => ?_)
    refine k_istore_n (lv' := [some (.inr 16), some (.inl v10)]) d_KReader_comment_40 rfl rfl ?_
    refine k_aload_n d_KReader_comment_41 rfl ?_
    refine k_iload_n d_KReader_comment_42 rfl ?_
    refine k_cvi [.inl v10] d_KReader_comment_43 ml_15_437 rfl rfl ob_16 rfl (s_KReader_written hL (by omega)  h) (fun v12 σ11 h => ?_)
    refine k_join (S := Unit) (pc' := 58) (st' := fun s15 => []) (lv' := fun s15 => [none, none]) (fun s15 σ16 h => ?_) (fun J13 hJ14 h => ?_) h
    · exact k_ret d_KReader_comment_58 h
    · refine k_ifeq d_KReader_comment_46 rfl (fun c17 => ?_) (fun c17 => ?_)
      · have h := ipos c17 h
        exact k_sb (sb_n (sb_n sb_nil)) (hJ14 () _ h)
      · have h := ineg c17 h
        refine k_aload_n d_KReader_comment_49 rfl ?_
        refine k_cvv [] d_KReader_comment_50 ml_15_465 rfl rfl ob_16 rfl (s_KReader_touch hL (by omega)  h) (fun σ18 h => ?_)
        refine k_aload_n d_KReader_comment_53 rfl ?_
        refine k_iload_n d_KReader_comment_54 rfl ?_
        refine k_putI d_KReader_comment_55 fl_15_379 ob_16 rfl ?_
        exact k_sb (sb_n (sb_n sb_nil)) (hJ14 () _ h)
  · refine k_icge d_KReader_comment_12 rfl (fun c20 => ?_) (fun c20 => ?_)
    · have h := ineg c20 h
      exact k_sb (sb_s (sb_s sb_nil)) (hJ6 () _ h)
    · have h := ipos c20 h
      refine k_aload_n d_KReader_comment_15 rfl ?_
      refine k_iload_n d_KReader_comment_16 rfl ?_
      refine k_ldcw d_KReader_comment_17 ks_15_461 rfl ?_
      refine k_cvi [.inl s3, .inr 1117] d_KReader_comment_20 ml_15_290 rfl rfl ob_16 rfl (s_KReader_says hL (by omega) it_1117 h) (fun v22 σ21 h => ?_)
      refine k_ifne d_KReader_comment_23 rfl (fun c23 => ?_) (fun c23 => ?_)
      · have h := ineg c23 h
        exact k_sb (sb_s (sb_s sb_nil)) (hJ6 () _ h)
      · have h := ipos c23 h
        obtain ⟨p24, h⟩ := h
        refine k_iinc (lv' := [some (.inr 16), some (.inl (s3 + 1))]) d_KReader_comment_26 cI_1 rfl rfl p24 rfl ?_
        refine k_goto d_KReader_comment_29 rfl ?_
        exact k_sb (sb_s (sb_s sb_nil)) (hK2 (s3 + 1) _ h)
theorem d_KReader_naming_0 : decode b_KReader_naming 0 = .ok (.iload_n 1, 1) := by decide +kernel
theorem d_KReader_naming_1 : decode b_KReader_naming 1 = .ok (.ifCond .lt 32, 3) := by decide +kernel
theorem d_KReader_naming_4 : decode b_KReader_naming 4 = .ok (.iload_n 2, 1) := by decide +kernel
theorem d_KReader_naming_5 : decode b_KReader_naming 5 = .ok (.ifCond .eq 17, 3) := by decide +kernel
theorem d_KReader_naming_8 : decode b_KReader_naming 8 = .ok (.aload_n 0, 1) := by decide +kernel
theorem d_KReader_naming_9 : decode b_KReader_naming 9 = .ok (.iload_n 1, 1) := by decide +kernel
theorem d_KReader_naming_10 : decode b_KReader_naming 10 = .ok (.invokevirtual 282, 3) := by decide +kernel
theorem d_KReader_naming_13 : decode b_KReader_naming 13 = .ok (.invokestatic 300, 3) := by decide +kernel
theorem d_KReader_naming_16 : decode b_KReader_naming 16 = .ok (.ifCond .eq 17, 3) := by decide +kernel
theorem d_KReader_naming_19 : decode b_KReader_naming 19 = .ok (.goto 16, 3) := by decide +kernel
theorem d_KReader_naming_22 : decode b_KReader_naming 22 = .ok (.aload_n 0, 1) := by decide +kernel
theorem d_KReader_naming_23 : decode b_KReader_naming 23 = .ok (.iload_n 1, 1) := by decide +kernel
theorem d_KReader_naming_24 : decode b_KReader_naming 24 = .ok (.invokevirtual 282, 3) := by decide +kernel
theorem d_KReader_naming_27 : decode b_KReader_naming 27 = .ok (.invokestatic 303, 3) := by decide +kernel
theorem d_KReader_naming_30 : decode b_KReader_naming 30 = .ok (.ifCond .ne 5, 3) := by decide +kernel
theorem d_KReader_naming_33 : decode b_KReader_naming 33 = .ok (.iconst (-1), 1) := by decide +kernel
theorem d_KReader_naming_34 : decode b_KReader_naming 34 = .ok (.ireturn, 1) := by decide +kernel
theorem d_KReader_naming_35 : decode b_KReader_naming 35 = .ok (.iload_n 1, 1) := by decide +kernel
theorem d_KReader_naming_36 : decode b_KReader_naming 36 = .ok (.iconst 1, 1) := by decide +kernel
theorem d_KReader_naming_37 : decode b_KReader_naming 37 = .ok (.iadd, 1) := by decide +kernel
theorem d_KReader_naming_38 : decode b_KReader_naming 38 = .ok (.istore_n 3, 1) := by decide +kernel
theorem d_KReader_naming_39 : decode b_KReader_naming 39 = .ok (.aload_n 0, 1) := by decide +kernel
theorem d_KReader_naming_40 : decode b_KReader_naming 40 = .ok (.iload_n 3, 1) := by decide +kernel
theorem d_KReader_naming_41 : decode b_KReader_naming 41 = .ok (.invokevirtual 282, 3) := by decide +kernel
theorem d_KReader_naming_44 : decode b_KReader_naming 44 = .ok (.invokestatic 303, 3) := by decide +kernel
theorem d_KReader_naming_47 : decode b_KReader_naming 47 = .ok (.ifCond .eq 9, 3) := by decide +kernel
theorem d_KReader_naming_50 : decode b_KReader_naming 50 = .ok (.iinc 3 1, 3) := by decide +kernel
theorem d_KReader_naming_53 : decode b_KReader_naming 53 = .ok (.goto (-14), 3) := by decide +kernel
theorem d_KReader_naming_56 : decode b_KReader_naming 56 = .ok (.iload_n 3, 1) := by decide +kernel
theorem d_KReader_naming_57 : decode b_KReader_naming 57 = .ok (.ireturn, 1) := by decide +kernel
/-- KReader_naming -/
def w_KReader_naming (L : Nat → Nat) (a1 : Int) (a2 : Int) (Q : Int → IS → Prop) (σ : IS) : Prop := WJ (fun (s3 : Unit) (σ4 : IS) => Q (-1) σ4) (fun J1 => if a1 < 0 then J1 () σ else WJ (fun (s8 : Unit) (σ9 : IS) => inR (a1 + 1) ∧ WL (fun (K10 : Int → IS → Prop) (s12 : Int) (σ13 : IS) => w_KReader_look L s12 (fun v15 σ14 => w_K_isNaming L v15 (fun v17 σ16 => if v17 = 0 then Q s12 σ16 else inR (s12 + 1) ∧ K10 (s12 + 1) σ16) σ14) σ13) (a1 + 1) σ9) (fun J6 => if a2 = 0 then w_KReader_look L a1 (fun v23 σ22 => w_K_isNaming L v23 (fun v25 σ24 => if v25 = 0 then J1 () σ24 else J6 () σ24) σ22) σ else w_KReader_look L a1 (fun v28 σ27 => w_K_isStart L v28 (fun v30 σ29 => if v30 = 0 then J1 () σ29 else J6 () σ29) σ27) σ))
set_option maxHeartbeats 4000000 in
set_option maxRecDepth 20000 in
theorem s_KReader_naming {L : Nat → Nat} (hL : ∀ r, L r < 2147483648) {d : Nat} (hd : 3 ≤ d) {a1 : Int} {a2 : Int} {Q : Int → IS → Prop} {σ : IS}  (h : w_KReader_naming L a1 a2 Q σ) : OkI BF L d 15 b_KReader_naming 4 1 0 [] [some (.inr 16), some (.inl a1), some (.inl a2)] σ (qi Q) := by
  unfold w_KReader_naming at h
  obtain ⟨d, rfl⟩ : ∃ e, d = e + 1 := ⟨d - 1, by omega⟩
  refine k_sb (lv' := [some (.inr 16), some (.inl a1), some (.inl a2), none]) (sb_s (sb_s (sb_s (sb_e sb_nil)))) ?_
  refine k_iload_n d_KReader_naming_0 rfl ?_
  refine k_join (S := Unit) (pc' := 33) (st' := fun s3 => []) (lv' := fun s3 => [none, none, none, none]) (fun s3 σ4 h => ?_) (fun J1 hJ2 h => ?_) h
  · refine k_iconst d_KReader_naming_33 cI_m1 ?_
    exact k_iret d_KReader_naming_34 (Or.inl rfl) h
  · refine k_iflt d_KReader_naming_1 rfl (fun c5 => ?_) (fun c5 => ?_)
    · have h := ipos c5 h
      exact k_sb (sb_n (sb_n (sb_n (sb_s sb_nil)))) (hJ2 () _ h)
    · have h := ineg c5 h
      refine k_iload_n d_KReader_naming_4 rfl ?_
      refine k_join (S := Unit) (pc' := 35) (st' := fun s8 => []) (lv' := fun s8 => [some (.inr 16), some (.inl a1), none, none]) (fun s8 σ9 h => ?_) (fun J6 hJ7 h => ?_) h
      · refine k_iload_n d_KReader_naming_35 rfl ?_
        refine k_iconst d_KReader_naming_36 cI_1 ?_
        obtain ⟨p20, h⟩ := h
        refine k_iadd d_KReader_naming_37 p20 ?_
        refine k_istore_n (lv' := [some (.inr 16), some (.inl a1), none, some (.inl (a1 + 1))]) d_KReader_naming_38 rfl rfl ?_
        refine k_sb (lv' := [some (.inr 16), none, none, some (.inl (a1 + 1))]) (sb_s (sb_n (sb_s (sb_s sb_nil)))) ?_
        refine k_loop (S := Int) (st := fun _ => []) (lv := fun s12 => [some (.inr 16), none, none, some (.inl s12)]) (fun K10 hK11 s12 σ13 h => ?_) (a1 + 1) _ h
        refine k_aload_n d_KReader_naming_39 rfl ?_
        refine k_iload_n d_KReader_naming_40 rfl ?_
        refine k_cvi [.inl s12] d_KReader_naming_41 ml_15_282 rfl rfl ob_16 rfl (s_KReader_look hL (by omega)  h) (fun v15 σ14 h => ?_)
        refine k_csi [.inl v15] d_KReader_naming_44 ml_15_303 (Or.inr rfl) rfl rfl rfl (s_K_isNaming hL (by omega)  h) (fun v17 σ16 h => ?_)
        refine k_ifeq d_KReader_naming_47 rfl (fun c18 => ?_) (fun c18 => ?_)
        · have h := ipos c18 h
          refine k_iload_n d_KReader_naming_56 rfl ?_
          exact k_iret d_KReader_naming_57 (Or.inl rfl) h
        · have h := ineg c18 h
          obtain ⟨p19, h⟩ := h
          refine k_iinc (lv' := [some (.inr 16), none, none, some (.inl (s12 + 1))]) d_KReader_naming_50 cI_1 rfl rfl p19 rfl ?_
          refine k_goto d_KReader_naming_53 rfl ?_
          exact k_sb (sb_s (sb_s (sb_s (sb_s sb_nil)))) (hK11 (s12 + 1) _ h)
      · refine k_ifeq d_KReader_naming_5 rfl (fun c21 => ?_) (fun c21 => ?_)
        · have h := ipos c21 h
          refine k_aload_n d_KReader_naming_22 rfl ?_
          refine k_iload_n d_KReader_naming_23 rfl ?_
          refine k_cvi [.inl a1] d_KReader_naming_24 ml_15_282 rfl rfl ob_16 rfl (s_KReader_look hL (by omega)  h) (fun v23 σ22 h => ?_)
          refine k_csi [.inl v23] d_KReader_naming_27 ml_15_303 (Or.inr rfl) rfl rfl rfl (s_K_isNaming hL (by omega)  h) (fun v25 σ24 h => ?_)
          refine k_ifne d_KReader_naming_30 rfl (fun c26 => ?_) (fun c26 => ?_)
          · have h := ineg c26 h
            exact k_sb (sb_s (sb_s (sb_n (sb_s sb_nil)))) (hJ7 () _ h)
          · have h := ipos c26 h
            exact k_sb (sb_n (sb_n (sb_n (sb_s sb_nil)))) (hJ2 () _ h)
        · have h := ineg c21 h
          refine k_aload_n d_KReader_naming_8 rfl ?_
          refine k_iload_n d_KReader_naming_9 rfl ?_
          refine k_cvi [.inl a1] d_KReader_naming_10 ml_15_282 rfl rfl ob_16 rfl (s_KReader_look hL (by omega)  h) (fun v28 σ27 h => ?_)
          refine k_csi [.inl v28] d_KReader_naming_13 ml_15_300 (Or.inr rfl) rfl rfl rfl (s_K_isStart hL (by omega)  h) (fun v30 σ29 h => ?_)
          refine k_ifeq d_KReader_naming_16 rfl (fun c31 => ?_) (fun c31 => ?_)
          · have h := ipos c31 h
            exact k_sb (sb_n (sb_n (sb_n (sb_s sb_nil)))) (hJ2 () _ h)
          · have h := ineg c31 h
            refine k_goto d_KReader_naming_19 rfl ?_
            exact k_sb (sb_s (sb_s (sb_n (sb_s sb_nil)))) (hJ7 () _ h)
theorem d_KReader_name_0 : decode b_KReader_name 0 = .ok (.aload_n 0, 1) := by decide +kernel
theorem d_KReader_name_1 : decode b_KReader_name 1 = .ok (.iload_n 1, 1) := by decide +kernel
theorem d_KReader_name_2 : decode b_KReader_name 2 = .ok (.iconst 1, 1) := by decide +kernel
theorem d_KReader_name_3 : decode b_KReader_name 3 = .ok (.invokevirtual 306, 3) := by decide +kernel
theorem d_KReader_name_6 : decode b_KReader_name 6 = .ok (.ireturn, 1) := by decide +kernel
/-- KReader_name -/
def w_KReader_name (L : Nat → Nat) (a1 : Int) (Q : Int → IS → Prop) (σ : IS) : Prop := w_KReader_naming L a1 1 (fun v2 σ1 => Q v2 σ1) σ
set_option maxHeartbeats 4000000 in
set_option maxRecDepth 20000 in
theorem s_KReader_name {L : Nat → Nat} (hL : ∀ r, L r < 2147483648) {d : Nat} (hd : 4 ≤ d) {a1 : Int} {Q : Int → IS → Prop} {σ : IS}  (h : w_KReader_name L a1 Q σ) : OkI BF L d 15 b_KReader_name 2 1 0 [] [some (.inr 16), some (.inl a1)] σ (qi Q) := by
  unfold w_KReader_name at h
  obtain ⟨d, rfl⟩ : ∃ e, d = e + 1 := ⟨d - 1, by omega⟩
  refine k_sb (lv' := [some (.inr 16), some (.inl a1)]) (sb_s (sb_s sb_nil)) ?_
  refine k_aload_n d_KReader_name_0 rfl ?_
  refine k_iload_n d_KReader_name_1 rfl ?_
  refine k_iconst d_KReader_name_2 cI_1 ?_
  refine k_cvi [.inl a1, .inl 1] d_KReader_name_3 ml_15_306 rfl rfl ob_16 rfl (s_KReader_naming hL (by omega)  h) (fun v2 σ1 h => ?_)
  exact k_iret d_KReader_name_6 (Or.inl rfl) h
theorem d_KBook_bucket_0 : decode b_KBook_bucket 0 = .ok (.iload_n 2, 1) := by decide +kernel
theorem d_KBook_bucket_1 : decode b_KBook_bucket 1 = .ok (.istore_n 3, 1) := by decide +kernel
theorem d_KBook_bucket_2 : decode b_KBook_bucket 2 = .ok (.iconst 0, 1) := by decide +kernel
theorem d_KBook_bucket_3 : decode b_KBook_bucket 3 = .ok (.istore 4, 2) := by decide +kernel
theorem d_KBook_bucket_5 : decode b_KBook_bucket 5 = .ok (.iload 4, 2) := by decide +kernel
theorem d_KBook_bucket_7 : decode b_KBook_bucket 7 = .ok (.iload_n 2, 1) := by decide +kernel
theorem d_KBook_bucket_8 : decode b_KBook_bucket 8 = .ok (.if_icmp .ge 21, 3) := by decide +kernel
theorem d_KBook_bucket_11 : decode b_KBook_bucket 11 = .ok (.bipush 31, 2) := by decide +kernel
theorem d_KBook_bucket_13 : decode b_KBook_bucket 13 = .ok (.iload_n 3, 1) := by decide +kernel
theorem d_KBook_bucket_14 : decode b_KBook_bucket 14 = .ok (.imul, 1) := by decide +kernel
theorem d_KBook_bucket_15 : decode b_KBook_bucket 15 = .ok (.aload_n 0, 1) := by decide +kernel
theorem d_KBook_bucket_16 : decode b_KBook_bucket 16 = .ok (.iload_n 1, 1) := by decide +kernel
theorem d_KBook_bucket_17 : decode b_KBook_bucket 17 = .ok (.iload 4, 2) := by decide +kernel
theorem d_KBook_bucket_19 : decode b_KBook_bucket 19 = .ok (.iadd, 1) := by decide +kernel
theorem d_KBook_bucket_20 : decode b_KBook_bucket 20 = .ok (.iaload, 1) := by decide +kernel
theorem d_KBook_bucket_21 : decode b_KBook_bucket 21 = .ok (.iadd, 1) := by decide +kernel
theorem d_KBook_bucket_22 : decode b_KBook_bucket 22 = .ok (.istore_n 3, 1) := by decide +kernel
theorem d_KBook_bucket_23 : decode b_KBook_bucket 23 = .ok (.iinc 4 1, 3) := by decide +kernel
theorem d_KBook_bucket_26 : decode b_KBook_bucket 26 = .ok (.goto (-21), 3) := by decide +kernel
theorem d_KBook_bucket_29 : decode b_KBook_bucket 29 = .ok (.iload_n 3, 1) := by decide +kernel
theorem d_KBook_bucket_30 : decode b_KBook_bucket 30 = .ok (.iload_n 3, 1) := by decide +kernel
theorem d_KBook_bucket_31 : decode b_KBook_bucket 31 = .ok (.bipush 13, 2) := by decide +kernel
theorem d_KBook_bucket_33 : decode b_KBook_bucket 33 = .ok (.iushr, 1) := by decide +kernel
theorem d_KBook_bucket_34 : decode b_KBook_bucket 34 = .ok (.ixor, 1) := by decide +kernel
theorem d_KBook_bucket_35 : decode b_KBook_bucket 35 = .ok (.sipush 8191, 3) := by decide +kernel
theorem d_KBook_bucket_38 : decode b_KBook_bucket 38 = .ok (.iand, 1) := by decide +kernel
theorem d_KBook_bucket_39 : decode b_KBook_bucket 39 = .ok (.ireturn, 1) := by decide +kernel
/-- KBook_bucket -/
def w_KBook_bucket (L : Nat → Nat) (a0 : Nat) (a1 : Int) (a2 : Int) (Q : Int → IS → Prop) (σ : IS) : Prop := WL (fun (K1 : Int × Int → IS → Prop) (s3 : Int × Int) (σ4 : IS) => if s3.2 < a2 then inR (a1 + s3.2) ∧ inL L a0 (a1 + s3.2) ∧ inR (s3.2 + 1) ∧ K1 ((wr ((wr (31 * s3.1)) + (σ4.2 a0 (Int.toNat (a1 + s3.2))))), (s3.2 + 1)) σ4 else Q (ia (ix s3.1 (iur s3.1 13)) 8191) σ4) (a2, 0) σ
set_option maxHeartbeats 4000000 in
set_option maxRecDepth 20000 in
theorem s_KBook_bucket {L : Nat → Nat} (hL : ∀ r, L r < 2147483648) {d : Nat} (hd : 0 ≤ d) {a0 : Nat} {a1 : Int} {a2 : Int} {Q : Int → IS → Prop} {σ : IS} (ha0 : rwI BF a0) (h : w_KBook_bucket L a0 a1 a2 Q σ) : OkI BF L d 13 b_KBook_bucket 5 1 0 [] [some (.inr a0), some (.inl a1), some (.inl a2)] σ (qi Q) := by
  unfold w_KBook_bucket at h
  refine k_sb (lv' := [some (.inr a0), some (.inl a1), some (.inl a2), none, none]) (sb_s (sb_s (sb_s (sb_e (sb_e sb_nil))))) ?_
  refine k_iload_n d_KBook_bucket_0 rfl ?_
  refine k_istore_n (lv' := [some (.inr a0), some (.inl a1), some (.inl a2), some (.inl a2), none]) d_KBook_bucket_1 rfl rfl ?_
  refine k_iconst d_KBook_bucket_2 cI_0 ?_
  refine k_istore (lv' := [some (.inr a0), some (.inl a1), some (.inl a2), some (.inl a2), some (.inl 0)]) d_KBook_bucket_3 rfl rfl ?_
  refine k_sb (lv' := [some (.inr a0), some (.inl a1), some (.inl a2), some (.inl a2), some (.inl 0)]) (sb_s (sb_s (sb_s (sb_s (sb_s sb_nil))))) ?_
  refine k_loop (S := Int × Int) (st := fun _ => []) (lv := fun s3 => [some (.inr a0), some (.inl a1), some (.inl a2), some (.inl s3.1), some (.inl s3.2)]) (fun K1 hK2 s3 σ4 h => ?_) (a2, 0) _ h
  refine k_iload d_KBook_bucket_5 rfl ?_
  refine k_iload_n d_KBook_bucket_7 rfl ?_
  refine k_icge d_KBook_bucket_8 rfl (fun c5 => ?_) (fun c5 => ?_)
  · have h := ineg c5 h
    refine k_iload_n d_KBook_bucket_29 rfl ?_
    refine k_iload_n d_KBook_bucket_30 rfl ?_
    refine k_bipush d_KBook_bucket_31 cB_13 ?_
    refine k_iushr d_KBook_bucket_33 ?_
    refine k_ixor d_KBook_bucket_34 ?_
    refine k_sipush d_KBook_bucket_35 cS_8191 ?_
    refine k_iand d_KBook_bucket_38 ?_
    exact k_iret d_KBook_bucket_39 (Or.inl rfl) h
  · have h := ipos c5 h
    refine k_bipush d_KBook_bucket_11 cB_31 ?_
    refine k_iload_n d_KBook_bucket_13 rfl ?_
    refine k_imulw d_KBook_bucket_14 ?_
    refine k_aload_n d_KBook_bucket_15 rfl ?_
    refine k_iload_n d_KBook_bucket_16 rfl ?_
    refine k_iload d_KBook_bucket_17 rfl ?_
    obtain ⟨p8, h⟩ := h
    refine k_iadd d_KBook_bucket_19 p8 ?_
    obtain ⟨p7, h⟩ := h
    refine k_ild (x := (σ4.2 a0 (Int.toNat (a1 + s3.2)))) d_KBook_bucket_20 ha0 p7 rfl ?_
    refine k_iaddw d_KBook_bucket_21 ?_
    refine k_istore_n (lv' := [some (.inr a0), some (.inl a1), some (.inl a2), some (.inl (wr ((wr (31 * s3.1)) + (σ4.2 a0 (Int.toNat (a1 + s3.2)))))), some (.inl s3.2)]) d_KBook_bucket_22 rfl rfl ?_
    obtain ⟨p6, h⟩ := h
    refine k_iinc (lv' := [some (.inr a0), some (.inl a1), some (.inl a2), some (.inl (wr ((wr (31 * s3.1)) + (σ4.2 a0 (Int.toNat (a1 + s3.2)))))), some (.inl (s3.2 + 1))]) d_KBook_bucket_23 cI_1 rfl rfl p6 rfl ?_
    refine k_goto d_KBook_bucket_26 rfl ?_
    exact k_sb (sb_s (sb_s (sb_s (sb_s (sb_s sb_nil))))) (hK2 ((wr ((wr (31 * s3.1)) + (σ4.2 a0 (Int.toNat (a1 + s3.2))))), (s3.2 + 1)) _ h)
theorem d_KBook_is_0 : decode b_KBook_is 0 = .ok (.aload_n 0, 1) := by decide +kernel
theorem d_KBook_is_1 : decode b_KBook_is 1 = .ok (.getfield 21, 3) := by decide +kernel
theorem d_KBook_is_4 : decode b_KBook_is 4 = .ok (.iload_n 1, 1) := by decide +kernel
theorem d_KBook_is_5 : decode b_KBook_is 5 = .ok (.iaload, 1) := by decide +kernel
theorem d_KBook_is_6 : decode b_KBook_is 6 = .ok (.iload 4, 2) := by decide +kernel
theorem d_KBook_is_8 : decode b_KBook_is 8 = .ok (.if_icmp .eq 5, 3) := by decide +kernel
theorem d_KBook_is_11 : decode b_KBook_is 11 = .ok (.iconst 0, 1) := by decide +kernel
theorem d_KBook_is_12 : decode b_KBook_is 12 = .ok (.ireturn, 1) := by decide +kernel
theorem d_KBook_is_13 : decode b_KBook_is 13 = .ok (.iconst 0, 1) := by decide +kernel
theorem d_KBook_is_14 : decode b_KBook_is 14 = .ok (.istore 5, 2) := by decide +kernel
theorem d_KBook_is_16 : decode b_KBook_is 16 = .ok (.iload 5, 2) := by decide +kernel
theorem d_KBook_is_18 : decode b_KBook_is 18 = .ok (.iload 4, 2) := by decide +kernel
theorem d_KBook_is_20 : decode b_KBook_is 20 = .ok (.if_icmp .ge 32, 3) := by decide +kernel
theorem d_KBook_is_23 : decode b_KBook_is 23 = .ok (.aload_n 0, 1) := by decide +kernel
theorem d_KBook_is_24 : decode b_KBook_is 24 = .ok (.getfield 15, 3) := by decide +kernel
theorem d_KBook_is_27 : decode b_KBook_is 27 = .ok (.aload_n 0, 1) := by decide +kernel
theorem d_KBook_is_28 : decode b_KBook_is 28 = .ok (.getfield 18, 3) := by decide +kernel
theorem d_KBook_is_31 : decode b_KBook_is 31 = .ok (.iload_n 1, 1) := by decide +kernel
theorem d_KBook_is_32 : decode b_KBook_is 32 = .ok (.iaload, 1) := by decide +kernel
theorem d_KBook_is_33 : decode b_KBook_is 33 = .ok (.iload 5, 2) := by decide +kernel
theorem d_KBook_is_35 : decode b_KBook_is 35 = .ok (.iadd, 1) := by decide +kernel
theorem d_KBook_is_36 : decode b_KBook_is 36 = .ok (.iaload, 1) := by decide +kernel
theorem d_KBook_is_37 : decode b_KBook_is 37 = .ok (.aload_n 2, 1) := by decide +kernel
theorem d_KBook_is_38 : decode b_KBook_is 38 = .ok (.iload_n 3, 1) := by decide +kernel
theorem d_KBook_is_39 : decode b_KBook_is 39 = .ok (.iload 5, 2) := by decide +kernel
theorem d_KBook_is_41 : decode b_KBook_is 41 = .ok (.iadd, 1) := by decide +kernel
theorem d_KBook_is_42 : decode b_KBook_is 42 = .ok (.iaload, 1) := by decide +kernel
theorem d_KBook_is_43 : decode b_KBook_is 43 = .ok (.if_icmp .ne 9, 3) := by decide +kernel
theorem d_KBook_is_46 : decode b_KBook_is 46 = .ok (.iinc 5 1, 3) := by decide +kernel
theorem d_KBook_is_49 : decode b_KBook_is 49 = .ok (.goto (-33), 3) := by decide +kernel
theorem d_KBook_is_52 : decode b_KBook_is 52 = .ok (.iload 5, 2) := by decide +kernel
theorem d_KBook_is_54 : decode b_KBook_is 54 = .ok (.iload 4, 2) := by decide +kernel
theorem d_KBook_is_56 : decode b_KBook_is 56 = .ok (.if_icmp .ne 7, 3) := by decide +kernel
theorem d_KBook_is_59 : decode b_KBook_is 59 = .ok (.iconst 1, 1) := by decide +kernel
theorem d_KBook_is_60 : decode b_KBook_is 60 = .ok (.goto 4, 3) := by decide +kernel
theorem d_KBook_is_63 : decode b_KBook_is 63 = .ok (.iconst 0, 1) := by decide +kernel
theorem d_KBook_is_64 : decode b_KBook_is 64 = .ok (.ireturn, 1) := by decide +kernel
/-- KBook_is -/
def w_KBook_is (L : Nat → Nat) (a1 : Int) (a2 : Nat) (a3 : Int) (a4 : Int) (Q : Int → IS → Prop) (σ : IS) : Prop := inL L 214 a1 ∧ if (σ.2 214 (Int.toNat a1)) = a4 then WL (fun (K2 : Int → IS → Prop) (s4 : Int) (σ5 : IS) => ((s4 < a4 → (inL L 213 a1 ∧ inR ((σ5.2 213 (Int.toNat a1)) + s4) ∧ inL L 212 ((σ5.2 213 (Int.toNat a1)) + s4) ∧ inR (a3 + s4) ∧ inL L a2 (a3 + s4)))) ∧ if s4 < a4 ∧ ((σ5.2 212 (Int.toNat ((σ5.2 213 (Int.toNat a1)) + s4))) = (σ5.2 a2 (Int.toNat (a3 + s4)))) then inR (s4 + 1) ∧ K2 (s4 + 1) σ5 else Q (if s4 = a4 then (1 : Int) else (0 : Int)) σ5) 0 σ else Q 0 σ
set_option maxHeartbeats 4000000 in
set_option maxRecDepth 20000 in
theorem s_KBook_is {L : Nat → Nat} (hL : ∀ r, L r < 2147483648) {d : Nat} (hd : 0 ≤ d) {a1 : Int} {a2 : Nat} {a3 : Int} {a4 : Int} {Q : Int → IS → Prop} {σ : IS} (ha2 : rwI BF a2) (h : w_KBook_is L a1 a2 a3 a4 Q σ) : OkI BF L d 13 b_KBook_is 6 2 0 [] [some (.inr 13), some (.inl a1), some (.inr a2), some (.inl a3), some (.inl a4)] σ (qi Q) := by
  unfold w_KBook_is at h
  refine k_sb (lv' := [some (.inr 13), some (.inl a1), some (.inr a2), some (.inl a3), some (.inl a4), none]) (sb_s (sb_s (sb_s (sb_s (sb_s (sb_e sb_nil)))))) ?_
  refine k_aload_n d_KBook_is_0 rfl ?_
  refine k_getR d_KBook_is_1 fl_13_21 ob_13 rfl ?_
  refine k_iload_n d_KBook_is_4 rfl ?_
  obtain ⟨p23, h⟩ := h
  refine k_ild (x := (σ.2 214 (Int.toNat a1))) d_KBook_is_5 rI_214 p23 rfl ?_
  refine k_iload d_KBook_is_6 rfl ?_
  refine k_iceq d_KBook_is_8 rfl (fun c1 => ?_) (fun c1 => ?_)
  · have h := ipos c1 h
    refine k_iconst d_KBook_is_13 cI_0 ?_
    refine k_istore (lv' := [some (.inr 13), some (.inl a1), some (.inr a2), some (.inl a3), some (.inl a4), some (.inl 0)]) d_KBook_is_14 rfl rfl ?_
    refine k_sb (lv' := [some (.inr 13), some (.inl a1), some (.inr a2), some (.inl a3), some (.inl a4), some (.inl 0)]) (sb_s (sb_s (sb_s (sb_s (sb_s (sb_s sb_nil)))))) ?_
    refine k_loop (S := Int) (st := fun _ => []) (lv := fun s4 => [some (.inr 13), some (.inl a1), some (.inr a2), some (.inl a3), some (.inl a4), some (.inl s4)]) (fun K2 hK3 s4 σ5 h => ?_) 0 _ h
    refine k_iload d_KBook_is_16 rfl ?_
    refine k_iload d_KBook_is_18 rfl ?_
    obtain ⟨pt19, h⟩ := h
    have hX16 : (s4 < a4 ∧ ((σ5.2 212 (Int.toNat ((σ5.2 213 (Int.toNat a1)) + s4))) = (σ5.2 a2 (Int.toNat (a3 + s4))))) → OkI BF L d 13 b_KBook_is 6 2 46 [] [some (.inr 13), some (.inl a1), some (.inr a2), some (.inl a3), some (.inl a4), some (.inl s4)] σ5 (qi Q) := fun e18 => by
      have h := ipos e18 h
      obtain ⟨p11, h⟩ := h
      refine k_iinc (lv' := [some (.inr 13), some (.inl a1), some (.inr a2), some (.inl a3), some (.inl a4), some (.inl (s4 + 1))]) d_KBook_is_46 cI_1 rfl rfl p11 rfl ?_
      refine k_goto d_KBook_is_49 rfl ?_
      exact k_sb (sb_s (sb_s (sb_s (sb_s (sb_s (sb_s sb_nil)))))) (hK3 (s4 + 1) _ h)
    have hY17 : ¬ (s4 < a4 ∧ ((σ5.2 212 (Int.toNat ((σ5.2 213 (Int.toNat a1)) + s4))) = (σ5.2 a2 (Int.toNat (a3 + s4))))) → OkI BF L d 13 b_KBook_is 6 2 52 [] [some (.inr 13), some (.inl a1), some (.inr a2), some (.inl a3), some (.inl a4), some (.inl s4)] σ5 (qi Q) := fun e18 => by
      have h := ineg e18 h
      refine k_iload d_KBook_is_52 rfl ?_
      refine k_iload d_KBook_is_54 rfl ?_
      have hV12 : OkI BF L d 13 b_KBook_is 6 2 64 [.inl (if s4 = a4 then (1 : Int) else (0 : Int))] [some (.inr 13), some (.inl a1), some (.inr a2), some (.inl a3), some (.inl a4), some (.inl s4)] σ5 (qi Q) := by
        exact k_iret d_KBook_is_64 (Or.inr ⟨rfl, it01 (Or.inr rfl) (Or.inl rfl)⟩) h
      refine k_icne d_KBook_is_56 rfl (fun c13 => ?_) (fun c13 => ?_)
      · have hV15 := k_eqI (if_neg c13) hV12
        refine k_iconst d_KBook_is_63 cI_0 ?_
        exact hV15
      · have hV14 := k_eqI (if_pos c13) hV12
        refine k_iconst d_KBook_is_59 cI_1 ?_
        refine k_goto d_KBook_is_60 rfl ?_
        exact hV14
    have pa20 := pt19
    refine k_icge d_KBook_is_20 rfl (fun c21 => ?_) (fun c21 => ?_)
    · exact hY17 (fun z => c21 z.1)
    · have pa20 := pa20 c21
      obtain ⟨p6, p7, p8, p9, p10⟩ := pa20
      refine k_aload_n d_KBook_is_23 rfl ?_
      refine k_getR d_KBook_is_24 fl_13_15 ob_13 rfl ?_
      refine k_aload_n d_KBook_is_27 rfl ?_
      refine k_getR d_KBook_is_28 fl_13_18 ob_13 rfl ?_
      refine k_iload_n d_KBook_is_31 rfl ?_
      refine k_ild (x := (σ5.2 213 (Int.toNat a1))) d_KBook_is_32 rI_213 p6 rfl ?_
      refine k_iload d_KBook_is_33 rfl ?_
      refine k_iadd d_KBook_is_35 p7 ?_
      refine k_ild (x := (σ5.2 212 (Int.toNat ((σ5.2 213 (Int.toNat a1)) + s4)))) d_KBook_is_36 rI_212 p8 rfl ?_
      refine k_aload_n d_KBook_is_37 rfl ?_
      refine k_iload_n d_KBook_is_38 rfl ?_
      refine k_iload d_KBook_is_39 rfl ?_
      refine k_iadd d_KBook_is_41 p9 ?_
      refine k_ild (x := (σ5.2 a2 (Int.toNat (a3 + s4)))) d_KBook_is_42 ha2 p10 rfl ?_
      refine k_icne d_KBook_is_43 rfl (fun c22 => ?_) (fun c22 => ?_)
      · exact hY17 (fun z => (c22) z.2)
      · exact hX16 (⟨c21, c22⟩)
  · have h := ineg c1 h
    refine k_iconst d_KBook_is_11 cI_0 ?_
    exact k_iret d_KBook_is_12 (Or.inr ⟨rfl, Or.inl rfl⟩) h
theorem d_KBook_find_0 : decode b_KBook_find 0 = .ok (.aload_n 0, 1) := by decide +kernel
theorem d_KBook_find_1 : decode b_KBook_find 1 = .ok (.getfield 9, 3) := by decide +kernel
theorem d_KBook_find_4 : decode b_KBook_find 4 = .ok (.aload_n 1, 1) := by decide +kernel
theorem d_KBook_find_5 : decode b_KBook_find 5 = .ok (.iload_n 2, 1) := by decide +kernel
theorem d_KBook_find_6 : decode b_KBook_find 6 = .ok (.iload_n 3, 1) := by decide +kernel
theorem d_KBook_find_7 : decode b_KBook_find 7 = .ok (.invokestatic 37, 3) := by decide +kernel
theorem d_KBook_find_10 : decode b_KBook_find 10 = .ok (.iaload, 1) := by decide +kernel
theorem d_KBook_find_11 : decode b_KBook_find 11 = .ok (.istore 4, 2) := by decide +kernel
theorem d_KBook_find_13 : decode b_KBook_find 13 = .ok (.iload 4, 2) := by decide +kernel
theorem d_KBook_find_15 : decode b_KBook_find 15 = .ok (.ifCond .lt 27, 3) := by decide +kernel
theorem d_KBook_find_18 : decode b_KBook_find 18 = .ok (.aload_n 0, 1) := by decide +kernel
theorem d_KBook_find_19 : decode b_KBook_find 19 = .ok (.iload 4, 2) := by decide +kernel
theorem d_KBook_find_21 : decode b_KBook_find 21 = .ok (.aload_n 1, 1) := by decide +kernel
theorem d_KBook_find_22 : decode b_KBook_find 22 = .ok (.iload_n 2, 1) := by decide +kernel
theorem d_KBook_find_23 : decode b_KBook_find 23 = .ok (.iload_n 3, 1) := by decide +kernel
theorem d_KBook_find_24 : decode b_KBook_find 24 = .ok (.invokevirtual 41, 3) := by decide +kernel
theorem d_KBook_find_27 : decode b_KBook_find 27 = .ok (.ifCond .ne 15, 3) := by decide +kernel
theorem d_KBook_find_30 : decode b_KBook_find 30 = .ok (.aload_n 0, 1) := by decide +kernel
theorem d_KBook_find_31 : decode b_KBook_find 31 = .ok (.getfield 24, 3) := by decide +kernel
theorem d_KBook_find_34 : decode b_KBook_find 34 = .ok (.iload 4, 2) := by decide +kernel
theorem d_KBook_find_36 : decode b_KBook_find 36 = .ok (.iaload, 1) := by decide +kernel
theorem d_KBook_find_37 : decode b_KBook_find 37 = .ok (.istore 4, 2) := by decide +kernel
theorem d_KBook_find_39 : decode b_KBook_find 39 = .ok (.goto (-26), 3) := by decide +kernel
theorem d_KBook_find_42 : decode b_KBook_find 42 = .ok (.iload 4, 2) := by decide +kernel
theorem d_KBook_find_44 : decode b_KBook_find 44 = .ok (.ireturn, 1) := by decide +kernel
/-- KBook_find -/
def w_KBook_find (L : Nat → Nat) (a1 : Nat) (a2 : Int) (a3 : Int) (Q : Int → IS → Prop) (σ : IS) : Prop := w_KBook_bucket L a1 a2 a3 (fun v2 σ1 => inL L 211 v2 ∧ WL (fun (K3 : Int → IS → Prop) (s5 : Int) (σ6 : IS) => WJ (fun (s9 : Unit) (σ10 : IS) => Q s5 σ10) (fun J7 => if s5 < 0 then J7 () σ6 else w_KBook_is L s5 a1 a2 a3 (fun v13 σ12 => if v13 = 0 then inL L 215 s5 ∧ K3 (σ12.2 215 (Int.toNat s5)) σ12 else J7 () σ12) σ6)) (σ1.2 211 (Int.toNat v2)) σ1) σ
set_option maxHeartbeats 4000000 in
set_option maxRecDepth 20000 in
theorem s_KBook_find {L : Nat → Nat} (hL : ∀ r, L r < 2147483648) {d : Nat} (hd : 1 ≤ d) {a1 : Nat} {a2 : Int} {a3 : Int} {Q : Int → IS → Prop} {σ : IS} (ha1 : rwI BF a1) (h : w_KBook_find L a1 a2 a3 Q σ) : OkI BF L d 13 b_KBook_find 5 1 0 [] [some (.inr 13), some (.inr a1), some (.inl a2), some (.inl a3)] σ (qi Q) := by
  unfold w_KBook_find at h
  obtain ⟨d, rfl⟩ : ∃ e, d = e + 1 := ⟨d - 1, by omega⟩
  refine k_sb (lv' := [some (.inr 13), some (.inr a1), some (.inl a2), some (.inl a3), none]) (sb_s (sb_s (sb_s (sb_s (sb_e sb_nil))))) ?_
  refine k_aload_n d_KBook_find_0 rfl ?_
  refine k_getR d_KBook_find_1 fl_13_9 ob_13 rfl ?_
  refine k_aload_n d_KBook_find_4 rfl ?_
  refine k_iload_n d_KBook_find_5 rfl ?_
  refine k_iload_n d_KBook_find_6 rfl ?_
  refine k_csi [.inr a1, .inl a2, .inl a3] d_KBook_find_7 ml_13_37 (Or.inl rfl) rfl rfl rfl (s_KBook_bucket hL (by omega) ha1 h) (fun v2 σ1 h => ?_)
  obtain ⟨p16, h⟩ := h
  refine k_ild (x := (σ1.2 211 (Int.toNat v2))) d_KBook_find_10 rI_211 p16 rfl ?_
  refine k_istore (lv' := [some (.inr 13), some (.inr a1), some (.inl a2), some (.inl a3), some (.inl (σ1.2 211 (Int.toNat v2)))]) d_KBook_find_11 rfl rfl ?_
  refine k_sb (lv' := [some (.inr 13), some (.inr a1), some (.inl a2), some (.inl a3), some (.inl (σ1.2 211 (Int.toNat v2)))]) (sb_s (sb_s (sb_s (sb_s (sb_s sb_nil))))) ?_
  refine k_loop (S := Int) (st := fun _ => []) (lv := fun s5 => [some (.inr 13), some (.inr a1), some (.inl a2), some (.inl a3), some (.inl s5)]) (fun K3 hK4 s5 σ6 h => ?_) (σ1.2 211 (Int.toNat v2)) _ h
  refine k_iload d_KBook_find_13 rfl ?_
  refine k_join (S := Unit) (pc' := 42) (st' := fun s9 => []) (lv' := fun s9 => [none, none, none, none, some (.inl s5)]) (fun s9 σ10 h => ?_) (fun J7 hJ8 h => ?_) h
  · refine k_iload d_KBook_find_42 rfl ?_
    exact k_iret d_KBook_find_44 (Or.inl rfl) h
  · refine k_iflt d_KBook_find_15 rfl (fun c11 => ?_) (fun c11 => ?_)
    · have h := ipos c11 h
      exact k_sb (sb_n (sb_n (sb_n (sb_n (sb_s sb_nil))))) (hJ8 () _ h)
    · have h := ineg c11 h
      refine k_aload_n d_KBook_find_18 rfl ?_
      refine k_iload d_KBook_find_19 rfl ?_
      refine k_aload_n d_KBook_find_21 rfl ?_
      refine k_iload_n d_KBook_find_22 rfl ?_
      refine k_iload_n d_KBook_find_23 rfl ?_
      refine k_cvi [.inl s5, .inr a1, .inl a2, .inl a3] d_KBook_find_24 ml_13_41 rfl rfl ob_13 rfl (s_KBook_is hL (by omega) ha1 h) (fun v13 σ12 h => ?_)
      refine k_ifne d_KBook_find_27 rfl (fun c14 => ?_) (fun c14 => ?_)
      · have h := ineg c14 h
        exact k_sb (sb_n (sb_n (sb_n (sb_n (sb_s sb_nil))))) (hJ8 () _ h)
      · have h := ipos c14 h
        refine k_aload_n d_KBook_find_30 rfl ?_
        refine k_getR d_KBook_find_31 fl_13_24 ob_13 rfl ?_
        refine k_iload d_KBook_find_34 rfl ?_
        obtain ⟨p15, h⟩ := h
        refine k_ild (x := (σ12.2 215 (Int.toNat s5))) d_KBook_find_36 rI_215 p15 rfl ?_
        refine k_istore (lv' := [some (.inr 13), some (.inr a1), some (.inl a2), some (.inl a3), some (.inl (σ12.2 215 (Int.toNat s5)))]) d_KBook_find_37 rfl rfl ?_
        refine k_goto d_KBook_find_39 rfl ?_
        exact k_sb (sb_s (sb_s (sb_s (sb_s (sb_s sb_nil))))) (hK4 (σ12.2 215 (Int.toNat s5)) _ h)
theorem d_KBook_keep_0 : decode b_KBook_keep 0 = .ok (.aload_n 0, 1) := by decide +kernel
theorem d_KBook_keep_1 : decode b_KBook_keep 1 = .ok (.aload_n 1, 1) := by decide +kernel
theorem d_KBook_keep_2 : decode b_KBook_keep 2 = .ok (.iload_n 2, 1) := by decide +kernel
theorem d_KBook_keep_3 : decode b_KBook_keep 3 = .ok (.iload_n 3, 1) := by decide +kernel
theorem d_KBook_keep_4 : decode b_KBook_keep 4 = .ok (.invokevirtual 45, 3) := by decide +kernel
theorem d_KBook_keep_7 : decode b_KBook_keep 7 = .ok (.istore 4, 2) := by decide +kernel
theorem d_KBook_keep_9 : decode b_KBook_keep 9 = .ok (.iload 4, 2) := by decide +kernel
theorem d_KBook_keep_11 : decode b_KBook_keep 11 = .ok (.ifCond .ge 109, 3) := by decide +kernel
theorem d_KBook_keep_14 : decode b_KBook_keep 14 = .ok (.aload_n 0, 1) := by decide +kernel
theorem d_KBook_keep_15 : decode b_KBook_keep 15 = .ok (.getfield 34, 3) := by decide +kernel
theorem d_KBook_keep_18 : decode b_KBook_keep 18 = .ok (.istore 4, 2) := by decide +kernel
theorem d_KBook_keep_20 : decode b_KBook_keep 20 = .ok (.aload_n 0, 1) := by decide +kernel
theorem d_KBook_keep_21 : decode b_KBook_keep 21 = .ok (.dup, 1) := by decide +kernel
theorem d_KBook_keep_22 : decode b_KBook_keep 22 = .ok (.getfield 34, 3) := by decide +kernel
theorem d_KBook_keep_25 : decode b_KBook_keep 25 = .ok (.iconst 1, 1) := by decide +kernel
theorem d_KBook_keep_26 : decode b_KBook_keep 26 = .ok (.iadd, 1) := by decide +kernel
theorem d_KBook_keep_27 : decode b_KBook_keep 27 = .ok (.putfield 34, 3) := by decide +kernel
theorem d_KBook_keep_30 : decode b_KBook_keep 30 = .ok (.aload_n 0, 1) := by decide +kernel
theorem d_KBook_keep_31 : decode b_KBook_keep 31 = .ok (.getfield 18, 3) := by decide +kernel
theorem d_KBook_keep_34 : decode b_KBook_keep 34 = .ok (.iload 4, 2) := by decide +kernel
theorem d_KBook_keep_36 : decode b_KBook_keep 36 = .ok (.aload_n 0, 1) := by decide +kernel
theorem d_KBook_keep_37 : decode b_KBook_keep 37 = .ok (.getfield 30, 3) := by decide +kernel
theorem d_KBook_keep_40 : decode b_KBook_keep 40 = .ok (.iastore, 1) := by decide +kernel
theorem d_KBook_keep_41 : decode b_KBook_keep 41 = .ok (.aload_n 0, 1) := by decide +kernel
theorem d_KBook_keep_42 : decode b_KBook_keep 42 = .ok (.getfield 21, 3) := by decide +kernel
theorem d_KBook_keep_45 : decode b_KBook_keep 45 = .ok (.iload 4, 2) := by decide +kernel
theorem d_KBook_keep_47 : decode b_KBook_keep 47 = .ok (.iload_n 3, 1) := by decide +kernel
theorem d_KBook_keep_48 : decode b_KBook_keep 48 = .ok (.iastore, 1) := by decide +kernel
theorem d_KBook_keep_49 : decode b_KBook_keep 49 = .ok (.iconst 0, 1) := by decide +kernel
theorem d_KBook_keep_50 : decode b_KBook_keep 50 = .ok (.istore 5, 2) := by decide +kernel
theorem d_KBook_keep_52 : decode b_KBook_keep 52 = .ok (.iload 5, 2) := by decide +kernel
theorem d_KBook_keep_54 : decode b_KBook_keep 54 = .ok (.iload_n 3, 1) := by decide +kernel
theorem d_KBook_keep_55 : decode b_KBook_keep 55 = .ok (.if_icmp .ge 34, 3) := by decide +kernel
theorem d_KBook_keep_58 : decode b_KBook_keep 58 = .ok (.aload_n 0, 1) := by decide +kernel
theorem d_KBook_keep_59 : decode b_KBook_keep 59 = .ok (.getfield 15, 3) := by decide +kernel
theorem d_KBook_keep_62 : decode b_KBook_keep 62 = .ok (.aload_n 0, 1) := by decide +kernel
theorem d_KBook_keep_63 : decode b_KBook_keep 63 = .ok (.getfield 30, 3) := by decide +kernel
theorem d_KBook_keep_66 : decode b_KBook_keep 66 = .ok (.aload_n 1, 1) := by decide +kernel
theorem d_KBook_keep_67 : decode b_KBook_keep 67 = .ok (.iload_n 2, 1) := by decide +kernel
theorem d_KBook_keep_68 : decode b_KBook_keep 68 = .ok (.iload 5, 2) := by decide +kernel
theorem d_KBook_keep_70 : decode b_KBook_keep 70 = .ok (.iadd, 1) := by decide +kernel
theorem d_KBook_keep_71 : decode b_KBook_keep 71 = .ok (.iaload, 1) := by decide +kernel
theorem d_KBook_keep_72 : decode b_KBook_keep 72 = .ok (.iastore, 1) := by decide +kernel
theorem d_KBook_keep_73 : decode b_KBook_keep 73 = .ok (.aload_n 0, 1) := by decide +kernel
theorem d_KBook_keep_74 : decode b_KBook_keep 74 = .ok (.dup, 1) := by decide +kernel
theorem d_KBook_keep_75 : decode b_KBook_keep 75 = .ok (.getfield 30, 3) := by decide +kernel
theorem d_KBook_keep_78 : decode b_KBook_keep 78 = .ok (.iconst 1, 1) := by decide +kernel
theorem d_KBook_keep_79 : decode b_KBook_keep 79 = .ok (.iadd, 1) := by decide +kernel
theorem d_KBook_keep_80 : decode b_KBook_keep 80 = .ok (.putfield 30, 3) := by decide +kernel
theorem d_KBook_keep_83 : decode b_KBook_keep 83 = .ok (.iinc 5 1, 3) := by decide +kernel
theorem d_KBook_keep_86 : decode b_KBook_keep 86 = .ok (.goto (-34), 3) := by decide +kernel
theorem d_KBook_keep_89 : decode b_KBook_keep 89 = .ok (.aload_n 1, 1) := by decide +kernel
theorem d_KBook_keep_90 : decode b_KBook_keep 90 = .ok (.iload_n 2, 1) := by decide +kernel
theorem d_KBook_keep_91 : decode b_KBook_keep 91 = .ok (.iload_n 3, 1) := by decide +kernel
theorem d_KBook_keep_92 : decode b_KBook_keep 92 = .ok (.invokestatic 37, 3) := by decide +kernel
theorem d_KBook_keep_95 : decode b_KBook_keep 95 = .ok (.istore 5, 2) := by decide +kernel
theorem d_KBook_keep_97 : decode b_KBook_keep 97 = .ok (.aload_n 0, 1) := by decide +kernel
theorem d_KBook_keep_98 : decode b_KBook_keep 98 = .ok (.getfield 24, 3) := by decide +kernel
theorem d_KBook_keep_101 : decode b_KBook_keep 101 = .ok (.iload 4, 2) := by decide +kernel
theorem d_KBook_keep_103 : decode b_KBook_keep 103 = .ok (.aload_n 0, 1) := by decide +kernel
theorem d_KBook_keep_104 : decode b_KBook_keep 104 = .ok (.getfield 9, 3) := by decide +kernel
theorem d_KBook_keep_107 : decode b_KBook_keep 107 = .ok (.iload 5, 2) := by decide +kernel
theorem d_KBook_keep_109 : decode b_KBook_keep 109 = .ok (.iaload, 1) := by decide +kernel
theorem d_KBook_keep_110 : decode b_KBook_keep 110 = .ok (.iastore, 1) := by decide +kernel
theorem d_KBook_keep_111 : decode b_KBook_keep 111 = .ok (.aload_n 0, 1) := by decide +kernel
theorem d_KBook_keep_112 : decode b_KBook_keep 112 = .ok (.getfield 9, 3) := by decide +kernel
theorem d_KBook_keep_115 : decode b_KBook_keep 115 = .ok (.iload 5, 2) := by decide +kernel
theorem d_KBook_keep_117 : decode b_KBook_keep 117 = .ok (.iload 4, 2) := by decide +kernel
theorem d_KBook_keep_119 : decode b_KBook_keep 119 = .ok (.iastore, 1) := by decide +kernel
theorem d_KBook_keep_120 : decode b_KBook_keep 120 = .ok (.iload 4, 2) := by decide +kernel
theorem d_KBook_keep_122 : decode b_KBook_keep 122 = .ok (.ireturn, 1) := by decide +kernel
/-- KBook_keep -/
def w_KBook_keep (L : Nat → Nat) (a1 : Nat) (a2 : Int) (a3 : Int) (Q : Int → IS → Prop) (σ : IS) : Prop := w_KBook_find L a1 a2 a3 (fun v2 σ1 => WJ (fun (s5 : Int) (σ6 : IS) => Q s5 σ6) (fun J3 => if v2 < 0 then inR ((σ1.1 13 6) + 1) ∧ inL L 213 (σ1.1 13 6) ∧ inL L 214 (σ1.1 13 6) ∧ WL (fun (K8 : Int → IS → Prop) (s10 : Int) (σ11 : IS) => if s10 < a3 then inR (a2 + s10) ∧ inL L a1 (a2 + s10) ∧ inL L 212 (σ11.1 13 1) ∧ inR ((σ11.1 13 1) + 1) ∧ inR (s10 + 1) ∧ K8 (s10 + 1) (pf (pr σ11 212 (Int.toNat (σ11.1 13 1)) (σ11.2 a1 (Int.toNat (a2 + s10)))) 13 1 ((σ11.1 13 1) + 1)) else w_KBook_bucket L a1 a2 a3 (fun v14 σ13 => inL L 211 v14 ∧ inL L 215 (σ1.1 13 6) ∧ inL L 211 v14 ∧ J3 (σ1.1 13 6) (pr (pr σ13 215 (Int.toNat (σ1.1 13 6)) (σ13.2 211 (Int.toNat v14))) 211 (Int.toNat v14) (σ1.1 13 6))) σ11) 0 (pr (pr (pf σ1 13 6 ((σ1.1 13 6) + 1)) 213 (Int.toNat (σ1.1 13 6)) (σ1.1 13 1)) 214 (Int.toNat (σ1.1 13 6)) a3) else J3 v2 σ1)) σ
set_option maxHeartbeats 4000000 in
set_option maxRecDepth 20000 in
theorem s_KBook_keep {L : Nat → Nat} (hL : ∀ r, L r < 2147483648) {d : Nat} (hd : 2 ≤ d) {a1 : Nat} {a2 : Int} {a3 : Int} {Q : Int → IS → Prop} {σ : IS} (ha1 : rwI BF a1) (h : w_KBook_keep L a1 a2 a3 Q σ) : OkI BF L d 13 b_KBook_keep 6 1 0 [] [some (.inr 13), some (.inr a1), some (.inl a2), some (.inl a3)] σ (qi Q) := by
  unfold w_KBook_keep at h
  obtain ⟨d, rfl⟩ : ∃ e, d = e + 1 := ⟨d - 1, by omega⟩
  refine k_sb (lv' := [some (.inr 13), some (.inr a1), some (.inl a2), some (.inl a3), none, none]) (sb_s (sb_s (sb_s (sb_s (sb_e (sb_e sb_nil)))))) ?_
  refine k_aload_n d_KBook_keep_0 rfl ?_
  refine k_aload_n d_KBook_keep_1 rfl ?_
  refine k_iload_n d_KBook_keep_2 rfl ?_
  refine k_iload_n d_KBook_keep_3 rfl ?_
  refine k_cvi [.inr a1, .inl a2, .inl a3] d_KBook_keep_4 ml_13_45 rfl rfl ob_13 rfl (s_KBook_find hL (by omega) ha1 h) (fun v2 σ1 h => ?_)
  refine k_istore (lv' := [some (.inr 13), some (.inr a1), some (.inl a2), some (.inl a3), some (.inl v2), none]) d_KBook_keep_7 rfl rfl ?_
  refine k_iload d_KBook_keep_9 rfl ?_
  refine k_join (S := Int) (pc' := 120) (st' := fun s5 => []) (lv' := fun s5 => [none, none, none, none, some (.inl s5), none]) (fun s5 σ6 h => ?_) (fun J3 hJ4 h => ?_) h
  · refine k_iload d_KBook_keep_120 rfl ?_
    exact k_iret d_KBook_keep_122 (Or.inl rfl) h
  · refine k_ifge d_KBook_keep_11 rfl (fun c7 => ?_) (fun c7 => ?_)
    · have h := ineg c7 h
      exact k_sb (sb_n (sb_n (sb_n (sb_n (sb_s (sb_s sb_nil)))))) (hJ4 v2 _ h)
    · have h := ipos c7 h
      refine k_aload_n d_KBook_keep_14 rfl ?_
      refine k_getI (x := (σ1.1 13 6)) d_KBook_keep_15 fl_13_34 ob_13 rfl rfl ?_
      refine k_istore (lv' := [some (.inr 13), some (.inr a1), some (.inl a2), some (.inl a3), some (.inl (σ1.1 13 6)), none]) d_KBook_keep_18 rfl rfl ?_
      refine k_aload_n d_KBook_keep_20 rfl ?_
      refine k_dup d_KBook_keep_21 ?_
      refine k_getI (x := (σ1.1 13 6)) d_KBook_keep_22 fl_13_34 ob_13 rfl rfl ?_
      refine k_iconst d_KBook_keep_25 cI_1 ?_
      obtain ⟨p25, h⟩ := h
      refine k_iadd d_KBook_keep_26 p25 ?_
      refine k_putI d_KBook_keep_27 fl_13_34 ob_13 rfl ?_
      refine k_aload_n d_KBook_keep_30 rfl ?_
      refine k_getR d_KBook_keep_31 fl_13_18 ob_13 rfl ?_
      refine k_iload d_KBook_keep_34 rfl ?_
      refine k_aload_n d_KBook_keep_36 rfl ?_
      refine k_getI (x := (σ1.1 13 1)) d_KBook_keep_37 fl_13_30 ob_13 rfl rfl ?_
      obtain ⟨p24, h⟩ := h
      refine k_ist d_KBook_keep_40 rI_213 p24 ?_
      refine k_aload_n d_KBook_keep_41 rfl ?_
      refine k_getR d_KBook_keep_42 fl_13_21 ob_13 rfl ?_
      refine k_iload d_KBook_keep_45 rfl ?_
      refine k_iload_n d_KBook_keep_47 rfl ?_
      obtain ⟨p23, h⟩ := h
      refine k_ist d_KBook_keep_48 rI_214 p23 ?_
      refine k_iconst d_KBook_keep_49 cI_0 ?_
      refine k_istore (lv' := [some (.inr 13), some (.inr a1), some (.inl a2), some (.inl a3), some (.inl (σ1.1 13 6)), some (.inl 0)]) d_KBook_keep_50 rfl rfl ?_
      refine k_sb (lv' := [some (.inr 13), some (.inr a1), some (.inl a2), some (.inl a3), some (.inl (σ1.1 13 6)), some (.inl 0)]) (sb_s (sb_s (sb_s (sb_s (sb_s (sb_s sb_nil)))))) ?_
      refine k_loop (S := Int) (st := fun _ => []) (lv := fun s10 => [some (.inr 13), some (.inr a1), some (.inl a2), some (.inl a3), some (.inl (σ1.1 13 6)), some (.inl s10)]) (fun K8 hK9 s10 σ11 h => ?_) 0 _ h
      refine k_iload d_KBook_keep_52 rfl ?_
      refine k_iload_n d_KBook_keep_54 rfl ?_
      refine k_icge d_KBook_keep_55 rfl (fun c12 => ?_) (fun c12 => ?_)
      · have h := ineg c12 h
        refine k_aload_n d_KBook_keep_89 rfl ?_
        refine k_iload_n d_KBook_keep_90 rfl ?_
        refine k_iload_n d_KBook_keep_91 rfl ?_
        refine k_csi [.inr a1, .inl a2, .inl a3] d_KBook_keep_92 ml_13_37 (Or.inl rfl) rfl rfl rfl (s_KBook_bucket hL (by omega) ha1 h) (fun v14 σ13 h => ?_)
        refine k_istore (lv' := [some (.inr 13), some (.inr a1), some (.inl a2), some (.inl a3), some (.inl (σ1.1 13 6)), some (.inl v14)]) d_KBook_keep_95 rfl rfl ?_
        refine k_aload_n d_KBook_keep_97 rfl ?_
        refine k_getR d_KBook_keep_98 fl_13_24 ob_13 rfl ?_
        refine k_iload d_KBook_keep_101 rfl ?_
        refine k_aload_n d_KBook_keep_103 rfl ?_
        refine k_getR d_KBook_keep_104 fl_13_9 ob_13 rfl ?_
        refine k_iload d_KBook_keep_107 rfl ?_
        obtain ⟨p17, h⟩ := h
        refine k_ild (x := (σ13.2 211 (Int.toNat v14))) d_KBook_keep_109 rI_211 p17 rfl ?_
        obtain ⟨p16, h⟩ := h
        refine k_ist d_KBook_keep_110 rI_215 p16 ?_
        refine k_aload_n d_KBook_keep_111 rfl ?_
        refine k_getR d_KBook_keep_112 fl_13_9 ob_13 rfl ?_
        refine k_iload d_KBook_keep_115 rfl ?_
        refine k_iload d_KBook_keep_117 rfl ?_
        obtain ⟨p15, h⟩ := h
        refine k_ist d_KBook_keep_119 rI_211 p15 ?_
        exact k_sb (sb_n (sb_n (sb_n (sb_n (sb_s (sb_n sb_nil)))))) (hJ4 (σ1.1 13 6) _ h)
      · have h := ipos c12 h
        refine k_aload_n d_KBook_keep_58 rfl ?_
        refine k_getR d_KBook_keep_59 fl_13_15 ob_13 rfl ?_
        refine k_aload_n d_KBook_keep_62 rfl ?_
        refine k_getI (x := (σ11.1 13 1)) d_KBook_keep_63 fl_13_30 ob_13 rfl rfl ?_
        refine k_aload_n d_KBook_keep_66 rfl ?_
        refine k_iload_n d_KBook_keep_67 rfl ?_
        refine k_iload d_KBook_keep_68 rfl ?_
        obtain ⟨p22, h⟩ := h
        refine k_iadd d_KBook_keep_70 p22 ?_
        obtain ⟨p21, h⟩ := h
        refine k_ild (x := (σ11.2 a1 (Int.toNat (a2 + s10)))) d_KBook_keep_71 ha1 p21 rfl ?_
        obtain ⟨p20, h⟩ := h
        refine k_ist d_KBook_keep_72 rI_212 p20 ?_
        refine k_aload_n d_KBook_keep_73 rfl ?_
        refine k_dup d_KBook_keep_74 ?_
        refine k_getI (x := (σ11.1 13 1)) d_KBook_keep_75 fl_13_30 ob_13 rfl rfl ?_
        refine k_iconst d_KBook_keep_78 cI_1 ?_
        obtain ⟨p19, h⟩ := h
        refine k_iadd d_KBook_keep_79 p19 ?_
        refine k_putI d_KBook_keep_80 fl_13_30 ob_13 rfl ?_
        obtain ⟨p18, h⟩ := h
        refine k_iinc (lv' := [some (.inr 13), some (.inr a1), some (.inl a2), some (.inl a3), some (.inl (σ1.1 13 6)), some (.inl (s10 + 1))]) d_KBook_keep_83 cI_1 rfl rfl p18 rfl ?_
        refine k_goto d_KBook_keep_86 rfl ?_
        exact k_sb (sb_s (sb_s (sb_s (sb_s (sb_s (sb_s sb_nil)))))) (hK9 (s10 + 1) _ h)
theorem d_KReader_keep_0 : decode b_KReader_keep 0 = .ok (.aload_n 0, 1) := by decide +kernel
theorem d_KReader_keep_1 : decode b_KReader_keep 1 = .ok (.getfield 150, 3) := by decide +kernel
theorem d_KReader_keep_4 : decode b_KReader_keep 4 = .ok (.getfield 227, 3) := by decide +kernel
theorem d_KReader_keep_7 : decode b_KReader_keep 7 = .ok (.aload_n 0, 1) := by decide +kernel
theorem d_KReader_keep_8 : decode b_KReader_keep 8 = .ok (.getfield 45, 3) := by decide +kernel
theorem d_KReader_keep_11 : decode b_KReader_keep 11 = .ok (.iload_n 1, 1) := by decide +kernel
theorem d_KReader_keep_12 : decode b_KReader_keep 12 = .ok (.iload_n 2, 1) := by decide +kernel
theorem d_KReader_keep_13 : decode b_KReader_keep 13 = .ok (.invokevirtual 231, 3) := by decide +kernel
theorem d_KReader_keep_16 : decode b_KReader_keep 16 = .ok (.ireturn, 1) := by decide +kernel
/-- KReader_keep -/
def w_KReader_keep (L : Nat → Nat) (a1 : Int) (a2 : Int) (Q : Int → IS → Prop) (σ : IS) : Prop := dyD (σ.1 16 2) ∧ w_KBook_keep L 176 a1 a2 (fun v3 σ2 => Q v3 σ2) σ
set_option maxHeartbeats 4000000 in
set_option maxRecDepth 20000 in
theorem s_KReader_keep {L : Nat → Nat} (hL : ∀ r, L r < 2147483648) {d : Nat} (hd : 3 ≤ d) {a1 : Int} {a2 : Int} {Q : Int → IS → Prop} {σ : IS}  (h : w_KReader_keep L a1 a2 Q σ) : OkI BF L d 15 b_KReader_keep 3 1 0 [] [some (.inr 16), some (.inl a1), some (.inl a2)] σ (qi Q) := by
  unfold w_KReader_keep at h
  obtain ⟨d, rfl⟩ : ∃ e, d = e + 1 := ⟨d - 1, by omega⟩
  refine k_sb (lv' := [some (.inr 16), some (.inl a1), some (.inl a2)]) (sb_s (sb_s (sb_s sb_nil))) ?_
  refine k_aload_n d_KReader_keep_0 rfl ?_
  obtain ⟨y1, h⟩ := h
  refine k_getD (x := (σ.1 16 2)) d_KReader_keep_1 fl_15_150 ob_16 rfl rfl (dyD_pos y1) ?_
  refine k_getR d_KReader_keep_4 fl_15_227 (doc_ob (dyD_doc y1)) (dfr_0 (dyD_doc y1)) ?_
  refine k_aload_n d_KReader_keep_7 rfl ?_
  refine k_getR d_KReader_keep_8 fl_15_45 ob_16 rfl ?_
  refine k_iload_n d_KReader_keep_11 rfl ?_
  refine k_iload_n d_KReader_keep_12 rfl ?_
  refine k_cvi [.inr 176, .inl a1, .inl a2] d_KReader_keep_13 ml_15_231 rfl rfl ob_13 rfl (s_KBook_keep hL (by omega) rI_176 h) (fun v3 σ2 h => ?_)
  exact k_iret d_KReader_keep_16 (Or.inl rfl) h
theorem d_KReader_colons_0 : decode b_KReader_colons 0 = .ok (.iconst 0, 1) := by decide +kernel
theorem d_KReader_colons_1 : decode b_KReader_colons 1 = .ok (.istore_n 2, 1) := by decide +kernel
theorem d_KReader_colons_2 : decode b_KReader_colons 2 = .ok (.iconst 0, 1) := by decide +kernel
theorem d_KReader_colons_3 : decode b_KReader_colons 3 = .ok (.istore_n 3, 1) := by decide +kernel
theorem d_KReader_colons_4 : decode b_KReader_colons 4 = .ok (.iload_n 3, 1) := by decide +kernel
theorem d_KReader_colons_5 : decode b_KReader_colons 5 = .ok (.aload_n 0, 1) := by decide +kernel
theorem d_KReader_colons_6 : decode b_KReader_colons 6 = .ok (.getfield 150, 3) := by decide +kernel
theorem d_KReader_colons_9 : decode b_KReader_colons 9 = .ok (.getfield 227, 3) := by decide +kernel
theorem d_KReader_colons_12 : decode b_KReader_colons 12 = .ok (.iload_n 1, 1) := by decide +kernel
theorem d_KReader_colons_13 : decode b_KReader_colons 13 = .ok (.invokevirtual 495, 3) := by decide +kernel
theorem d_KReader_colons_16 : decode b_KReader_colons 16 = .ok (.if_icmp .ge 36, 3) := by decide +kernel
theorem d_KReader_colons_19 : decode b_KReader_colons 19 = .ok (.iload_n 2, 1) := by decide +kernel
theorem d_KReader_colons_20 : decode b_KReader_colons 20 = .ok (.ifCond .ne 20, 3) := by decide +kernel
theorem d_KReader_colons_23 : decode b_KReader_colons 23 = .ok (.aload_n 0, 1) := by decide +kernel
theorem d_KReader_colons_24 : decode b_KReader_colons 24 = .ok (.getfield 150, 3) := by decide +kernel
theorem d_KReader_colons_27 : decode b_KReader_colons 27 = .ok (.getfield 227, 3) := by decide +kernel
theorem d_KReader_colons_30 : decode b_KReader_colons 30 = .ok (.iload_n 1, 1) := by decide +kernel
theorem d_KReader_colons_31 : decode b_KReader_colons 31 = .ok (.iload_n 3, 1) := by decide +kernel
theorem d_KReader_colons_32 : decode b_KReader_colons 32 = .ok (.invokevirtual 497, 3) := by decide +kernel
theorem d_KReader_colons_35 : decode b_KReader_colons 35 = .ok (.bipush 58, 2) := by decide +kernel
theorem d_KReader_colons_37 : decode b_KReader_colons 37 = .ok (.if_icmp .ne 7, 3) := by decide +kernel
theorem d_KReader_colons_40 : decode b_KReader_colons 40 = .ok (.iconst 1, 1) := by decide +kernel
theorem d_KReader_colons_41 : decode b_KReader_colons 41 = .ok (.goto 4, 3) := by decide +kernel
theorem d_KReader_colons_44 : decode b_KReader_colons 44 = .ok (.iconst 0, 1) := by decide +kernel
theorem d_KReader_colons_45 : decode b_KReader_colons 45 = .ok (.istore_n 2, 1) := by decide +kernel
theorem d_KReader_colons_46 : decode b_KReader_colons 46 = .ok (.iinc 3 1, 3) := by decide +kernel
theorem d_KReader_colons_49 : decode b_KReader_colons 49 = .ok (.goto (-45), 3) := by decide +kernel
theorem d_KReader_colons_52 : decode b_KReader_colons 52 = .ok (.aload_n 0, 1) := by decide +kernel
theorem d_KReader_colons_53 : decode b_KReader_colons 53 = .ok (.getfield 150, 3) := by decide +kernel
theorem d_KReader_colons_56 : decode b_KReader_colons 56 = .ok (.getfield 499, 3) := by decide +kernel
theorem d_KReader_colons_59 : decode b_KReader_colons 59 = .ok (.iconst 5, 1) := by decide +kernel
theorem d_KReader_colons_60 : decode b_KReader_colons 60 = .ok (.dup2, 1) := by decide +kernel
theorem d_KReader_colons_61 : decode b_KReader_colons 61 = .ok (.iaload, 1) := by decide +kernel
theorem d_KReader_colons_62 : decode b_KReader_colons 62 = .ok (.iload_n 2, 1) := by decide +kernel
theorem d_KReader_colons_63 : decode b_KReader_colons 63 = .ok (.ifCond .eq 7, 3) := by decide +kernel
theorem d_KReader_colons_66 : decode b_KReader_colons 66 = .ok (.iconst 1, 1) := by decide +kernel
theorem d_KReader_colons_67 : decode b_KReader_colons 67 = .ok (.goto 4, 3) := by decide +kernel
theorem d_KReader_colons_70 : decode b_KReader_colons 70 = .ok (.iconst 0, 1) := by decide +kernel
theorem d_KReader_colons_71 : decode b_KReader_colons 71 = .ok (.iadd, 1) := by decide +kernel
theorem d_KReader_colons_72 : decode b_KReader_colons 72 = .ok (.iastore, 1) := by decide +kernel
theorem d_KReader_colons_73 : decode b_KReader_colons 73 = .ok (.return_, 1) := by decide +kernel
/-- KReader_colons -/
def w_KReader_colons (L : Nat → Nat) (a1 : Int) (Q : IS → Prop) (σ : IS) : Prop := WL (fun (K1 : Int × Int → IS → Prop) (s3 : Int × Int) (σ4 : IS) => dyD (σ4.1 16 2) ∧ w_KBook_length L a1 (fun v7 σ6 => if s3.2 < v7 then WJ (fun (s19 : Int) (σ20 : IS) => inR (s3.2 + 1) ∧ K1 (s19, (s3.2 + 1)) σ20) (fun J17 => WJ (fun (s24 : Unit) (σ25 : IS) => J17 1 σ25) (fun J22 => if s3.1 = 0 then dyD (σ6.1 16 2) ∧ w_KBook_at L a1 s3.2 (fun v29 σ28 => if v29 = 58 then J22 () σ28 else J17 0 σ28) σ6 else J22 () σ6)) else dyD (σ6.1 16 2) ∧ inL L (rfo (Int.toNat (σ6.1 16 2)) 19) 5 ∧ inR ((σ6.2 (rfo (Int.toNat (σ6.1 16 2)) 19) (Int.toNat 5)) + (if s3.1 = 0 then (0 : Int) else (1 : Int))) ∧ inL L (rfo (Int.toNat (σ6.1 16 2)) 19) 5 ∧ Q (pr σ6 (rfo (Int.toNat (σ6.1 16 2)) 19) (Int.toNat 5) ((σ6.2 (rfo (Int.toNat (σ6.1 16 2)) 19) (Int.toNat 5)) + (if s3.1 = 0 then (0 : Int) else (1 : Int))))) σ4) (0, 0) σ
set_option maxHeartbeats 4000000 in
set_option maxRecDepth 20000 in
theorem s_KReader_colons {L : Nat → Nat} (hL : ∀ r, L r < 2147483648) {d : Nat} (hd : 1 ≤ d) {a1 : Int} {Q : IS → Prop} {σ : IS}  (h : w_KReader_colons L a1 Q σ) : OkI BF L d 15 b_KReader_colons 4 0 0 [] [some (.inr 16), some (.inl a1)] σ (qv Q) := by
  unfold w_KReader_colons at h
  obtain ⟨d, rfl⟩ : ∃ e, d = e + 1 := ⟨d - 1, by omega⟩
  refine k_sb (lv' := [some (.inr 16), some (.inl a1), none, none]) (sb_s (sb_s (sb_e (sb_e sb_nil)))) ?_
  refine k_iconst d_KReader_colons_0 cI_0 ?_
  refine k_istore_n (lv' := [some (.inr 16), some (.inl a1), some (.inl 0), none]) d_KReader_colons_1 rfl rfl ?_
  refine k_iconst d_KReader_colons_2 cI_0 ?_
  refine k_istore_n (lv' := [some (.inr 16), some (.inl a1), some (.inl 0), some (.inl 0)]) d_KReader_colons_3 rfl rfl ?_
  refine k_sb (lv' := [some (.inr 16), some (.inl a1), some (.inl 0), some (.inl 0)]) (sb_s (sb_s (sb_s (sb_s sb_nil)))) ?_
  refine k_loop (S := Int × Int) (st := fun _ => []) (lv := fun s3 => [some (.inr 16), some (.inl a1), some (.inl s3.1), some (.inl s3.2)]) (fun K1 hK2 s3 σ4 h => ?_) (0, 0) _ h
  refine k_iload_n d_KReader_colons_4 rfl ?_
  refine k_aload_n d_KReader_colons_5 rfl ?_
  obtain ⟨y5, h⟩ := h
  refine k_getD (x := (σ4.1 16 2)) d_KReader_colons_6 fl_15_150 ob_16 rfl rfl (dyD_pos y5) ?_
  refine k_getR d_KReader_colons_9 fl_15_227 (doc_ob (dyD_doc y5)) (dfr_0 (dyD_doc y5)) ?_
  refine k_iload_n d_KReader_colons_12 rfl ?_
  refine k_cvi [.inl a1] d_KReader_colons_13 ml_15_495 rfl rfl ob_13 rfl (s_KBook_length hL (by omega)  h) (fun v7 σ6 h => ?_)
  refine k_icge d_KReader_colons_16 rfl (fun c8 => ?_) (fun c8 => ?_)
  · have h := ineg c8 h
    refine k_aload_n d_KReader_colons_52 rfl ?_
    obtain ⟨y9, h⟩ := h
    refine k_getD (x := (σ6.1 16 2)) d_KReader_colons_53 fl_15_150 ob_16 rfl rfl (dyD_pos y9) ?_
    refine k_getR d_KReader_colons_56 fl_15_499 (doc_ob (dyD_doc y9)) (dfr_19 (dyD_doc y9)) ?_
    refine k_iconst d_KReader_colons_59 cI_5 ?_
    refine k_dup2 d_KReader_colons_60 ?_
    obtain ⟨p16, h⟩ := h
    refine k_ild (x := (σ6.2 (rfo (Int.toNat (σ6.1 16 2)) 19) (Int.toNat 5))) d_KReader_colons_61 (drI_19 (dyD_doc y9)) p16 rfl ?_
    refine k_iload_n d_KReader_colons_62 rfl ?_
    have hV12 : OkI BF L (d + 1) 15 b_KReader_colons 4 0 71 [.inl (if s3.1 = 0 then (0 : Int) else (1 : Int)), .inl (σ6.2 (rfo (Int.toNat (σ6.1 16 2)) 19) (Int.toNat 5)), .inl 5, .inr (rfo (Int.toNat (σ6.1 16 2)) 19)] [some (.inr 16), some (.inl a1), some (.inl s3.1), some (.inl s3.2)] σ6 (qv Q) := by
      obtain ⟨p11, h⟩ := h
      refine k_iadd d_KReader_colons_71 p11 ?_
      obtain ⟨p10, h⟩ := h
      refine k_ist d_KReader_colons_72 (drI_19 (dyD_doc y9)) p10 ?_
      exact k_ret d_KReader_colons_73 h
    refine k_ifeq d_KReader_colons_63 rfl (fun c13 => ?_) (fun c13 => ?_)
    · have hV14 := k_eqI (if_pos c13) hV12
      refine k_iconst d_KReader_colons_70 cI_0 ?_
      exact hV14
    · have hV15 := k_eqI (if_neg c13) hV12
      refine k_iconst d_KReader_colons_66 cI_1 ?_
      refine k_goto d_KReader_colons_67 rfl ?_
      exact hV15
  · have h := ipos c8 h
    refine k_iload_n d_KReader_colons_19 rfl ?_
    refine k_join (S := Int) (pc' := 45) (st' := fun s19 => [.inl s19]) (lv' := fun s19 => [some (.inr 16), some (.inl a1), none, some (.inl s3.2)]) (fun s19 σ20 h => ?_) (fun J17 hJ18 h => ?_) h
    · refine k_istore_n (lv' := [some (.inr 16), some (.inl a1), some (.inl s19), some (.inl s3.2)]) d_KReader_colons_45 rfl rfl ?_
      obtain ⟨p21, h⟩ := h
      refine k_iinc (lv' := [some (.inr 16), some (.inl a1), some (.inl s19), some (.inl (s3.2 + 1))]) d_KReader_colons_46 cI_1 rfl rfl p21 rfl ?_
      refine k_goto d_KReader_colons_49 rfl ?_
      exact k_sb (sb_s (sb_s (sb_s (sb_s sb_nil)))) (hK2 (s19, (s3.2 + 1)) _ h)
    · refine k_join (S := Unit) (pc' := 40) (st' := fun s24 => []) (lv' := fun s24 => [some (.inr 16), some (.inl a1), none, some (.inl s3.2)]) (fun s24 σ25 h => ?_) (fun J22 hJ23 h => ?_) h
      · refine k_iconst d_KReader_colons_40 cI_1 ?_
        refine k_goto d_KReader_colons_41 rfl ?_
        exact k_sb (sb_s (sb_s (sb_s (sb_s sb_nil)))) (hJ18 1 _ h)
      · refine k_ifne d_KReader_colons_20 rfl (fun c26 => ?_) (fun c26 => ?_)
        · have h := ineg c26 h
          exact k_sb (sb_s (sb_s (sb_n (sb_s sb_nil)))) (hJ23 () _ h)
        · have h := ipos c26 h
          refine k_aload_n d_KReader_colons_23 rfl ?_
          obtain ⟨y27, h⟩ := h
          refine k_getD (x := (σ6.1 16 2)) d_KReader_colons_24 fl_15_150 ob_16 rfl rfl (dyD_pos y27) ?_
          refine k_getR d_KReader_colons_27 fl_15_227 (doc_ob (dyD_doc y27)) (dfr_0 (dyD_doc y27)) ?_
          refine k_iload_n d_KReader_colons_30 rfl ?_
          refine k_iload_n d_KReader_colons_31 rfl ?_
          refine k_cvi [.inl a1, .inl s3.2] d_KReader_colons_32 ml_15_497 rfl rfl ob_13 rfl (s_KBook_at hL (by omega)  h) (fun v29 σ28 h => ?_)
          refine k_bipush d_KReader_colons_35 cB_58 ?_
          refine k_icne d_KReader_colons_37 rfl (fun c30 => ?_) (fun c30 => ?_)
          · have h := ineg c30 h
            refine k_iconst d_KReader_colons_44 cI_0 ?_
            exact k_sb (sb_s (sb_s (sb_n (sb_s sb_nil)))) (hJ18 0 _ h)
          · have h := ipos c30 h
            exact k_sb (sb_s (sb_s (sb_n (sb_s sb_nil)))) (hJ23 () _ h)
theorem d_KReader_node_0 : decode b_KReader_node 0 = .ok (.aload_n 0, 1) := by decide +kernel
theorem d_KReader_node_1 : decode b_KReader_node 1 = .ok (.dup, 1) := by decide +kernel
theorem d_KReader_node_2 : decode b_KReader_node 2 = .ok (.getfield 200, 3) := by decide +kernel
theorem d_KReader_node_5 : decode b_KReader_node 5 = .ok (.iconst 1, 1) := by decide +kernel
theorem d_KReader_node_6 : decode b_KReader_node 6 = .ok (.iadd, 1) := by decide +kernel
theorem d_KReader_node_7 : decode b_KReader_node 7 = .ok (.putfield 200, 3) := by decide +kernel
theorem d_KReader_node_10 : decode b_KReader_node 10 = .ok (.aload_n 0, 1) := by decide +kernel
theorem d_KReader_node_11 : decode b_KReader_node 11 = .ok (.getfield 200, 3) := by decide +kernel
theorem d_KReader_node_14 : decode b_KReader_node 14 = .ok (.aload_n 0, 1) := by decide +kernel
theorem d_KReader_node_15 : decode b_KReader_node 15 = .ok (.getfield 158, 3) := by decide +kernel
theorem d_KReader_node_18 : decode b_KReader_node 18 = .ok (.if_icmp .le 11, 3) := by decide +kernel
theorem d_KReader_node_21 : decode b_KReader_node 21 = .ok (.aload_n 0, 1) := by decide +kernel
theorem d_KReader_node_22 : decode b_KReader_node 22 = .ok (.iconst 4, 1) := by decide +kernel
theorem d_KReader_node_23 : decode b_KReader_node 23 = .ok (.invokevirtual 392, 3) := by decide +kernel
theorem d_KReader_node_26 : decode b_KReader_node 26 = .ok (.ifCond .eq 7, 3) := by decide +kernel
theorem d_KReader_node_29 : decode b_KReader_node 29 = .ok (.iconst 1, 1) := by decide +kernel
theorem d_KReader_node_30 : decode b_KReader_node 30 = .ok (.goto 4, 3) := by decide +kernel
theorem d_KReader_node_33 : decode b_KReader_node 33 = .ok (.iconst 0, 1) := by decide +kernel
theorem d_KReader_node_34 : decode b_KReader_node 34 = .ok (.ireturn, 1) := by decide +kernel
/-- KReader_node -/
def w_KReader_node (L : Nat → Nat)  (Q : Int → IS → Prop) (σ : IS) : Prop := inR ((σ.1 16 26) + 1) ∧ WJ (fun (s3 : Int) (σ4 : IS) => is01 s3 ∧ Q s3 σ4) (fun J1 => WJ (fun (s8 : Unit) (σ9 : IS) => J1 1 σ9) (fun J6 => if (σ.1 16 1) < ((σ.1 16 26) + 1) then w_KReader_fail L 4 (fun v12 σ11 => if v12 = 0 then J1 0 σ11 else J6 () σ11) (pf σ 16 26 ((σ.1 16 26) + 1)) else J6 () (pf σ 16 26 ((σ.1 16 26) + 1))))
set_option maxHeartbeats 4000000 in
set_option maxRecDepth 20000 in
theorem s_KReader_node {L : Nat → Nat} (hL : ∀ r, L r < 2147483648) {d : Nat} (hd : 1 ≤ d)  {Q : Int → IS → Prop} {σ : IS}  (h : w_KReader_node L  Q σ) : OkI BF L d 15 b_KReader_node 1 2 0 [] [some (.inr 16)] σ (qi Q) := by
  unfold w_KReader_node at h
  obtain ⟨d, rfl⟩ : ∃ e, d = e + 1 := ⟨d - 1, by omega⟩
  refine k_sb (lv' := [some (.inr 16)]) (sb_s sb_nil) ?_
  refine k_aload_n d_KReader_node_0 rfl ?_
  refine k_dup d_KReader_node_1 ?_
  refine k_getI (x := (σ.1 16 26)) d_KReader_node_2 fl_15_200 ob_16 rfl rfl ?_
  refine k_iconst d_KReader_node_5 cI_1 ?_
  obtain ⟨p14, h⟩ := h
  refine k_iadd d_KReader_node_6 p14 ?_
  refine k_putI d_KReader_node_7 fl_15_200 ob_16 rfl ?_
  refine k_aload_n d_KReader_node_10 rfl ?_
  refine k_getI (x := ((σ.1 16 26) + 1)) d_KReader_node_11 fl_15_200 ob_16 rfl rfl ?_
  refine k_aload_n d_KReader_node_14 rfl ?_
  refine k_getI (x := (σ.1 16 1)) d_KReader_node_15 fl_15_158 ob_16 rfl rfl ?_
  refine k_join (S := Int) (pc' := 34) (st' := fun s3 => [.inl s3]) (lv' := fun s3 => [none]) (fun s3 σ4 h => ?_) (fun J1 hJ2 h => ?_) h
  · obtain ⟨p5, h⟩ := h
    exact k_iret d_KReader_node_34 (Or.inr ⟨rfl, p5⟩) h
  · refine k_join (S := Unit) (pc' := 29) (st' := fun s8 => []) (lv' := fun s8 => [none]) (fun s8 σ9 h => ?_) (fun J6 hJ7 h => ?_) h
    · refine k_iconst d_KReader_node_29 cI_1 ?_
      refine k_goto d_KReader_node_30 rfl ?_
      exact k_sb (sb_s sb_nil) (hJ2 1 _ h)
    · refine k_icle d_KReader_node_18 rfl (fun c10 => ?_) (fun c10 => ?_)
      · have h := ineg c10 h
        exact k_sb (sb_n sb_nil) (hJ7 () _ h)
      · have h := ipos c10 h
        refine k_aload_n d_KReader_node_21 rfl ?_
        refine k_iconst d_KReader_node_22 cI_4 ?_
        refine k_cvi [.inl 4] d_KReader_node_23 ml_15_392 rfl rfl ob_16 rfl (s_KReader_fail hL (by omega)  h) (fun v12 σ11 h => ?_)
        refine k_ifeq d_KReader_node_26 rfl (fun c13 => ?_) (fun c13 => ?_)
        · have h := ipos c13 h
          refine k_iconst d_KReader_node_33 cI_0 ?_
          exact k_sb (sb_n sb_nil) (hJ2 0 _ h)
        · have h := ineg c13 h
          exact k_sb (sb_n sb_nil) (hJ7 () _ h)
theorem d_KDoc_event_0 : decode b_KDoc_event 0 = .ok (.aload_n 0, 1) := by decide +kernel
theorem d_KDoc_event_1 : decode b_KDoc_event 1 = .ok (.getfield 25, 3) := by decide +kernel
theorem d_KDoc_event_4 : decode b_KDoc_event 4 = .ok (.aload_n 0, 1) := by decide +kernel
theorem d_KDoc_event_5 : decode b_KDoc_event 5 = .ok (.getfield 79, 3) := by decide +kernel
theorem d_KDoc_event_8 : decode b_KDoc_event 8 = .ok (.iload_n 1, 1) := by decide +kernel
theorem d_KDoc_event_9 : decode b_KDoc_event 9 = .ok (.iastore, 1) := by decide +kernel
theorem d_KDoc_event_10 : decode b_KDoc_event 10 = .ok (.aload_n 0, 1) := by decide +kernel
theorem d_KDoc_event_11 : decode b_KDoc_event 11 = .ok (.dup, 1) := by decide +kernel
theorem d_KDoc_event_12 : decode b_KDoc_event 12 = .ok (.getfield 79, 3) := by decide +kernel
theorem d_KDoc_event_15 : decode b_KDoc_event 15 = .ok (.iconst 1, 1) := by decide +kernel
theorem d_KDoc_event_16 : decode b_KDoc_event 16 = .ok (.iadd, 1) := by decide +kernel
theorem d_KDoc_event_17 : decode b_KDoc_event 17 = .ok (.putfield 79, 3) := by decide +kernel
theorem d_KDoc_event_20 : decode b_KDoc_event 20 = .ok (.aload_n 0, 1) := by decide +kernel
theorem d_KDoc_event_21 : decode b_KDoc_event 21 = .ok (.iconst (-1), 1) := by decide +kernel
theorem d_KDoc_event_22 : decode b_KDoc_event 22 = .ok (.putfield 82, 3) := by decide +kernel
theorem d_KDoc_event_25 : decode b_KDoc_event 25 = .ok (.return_, 1) := by decide +kernel
/-- KDoc_event -/
def w_KDoc_event (L : Nat → Nat) (o : Nat) (a1 : Int) (Q : IS → Prop) (σ : IS) : Prop := inL L (rfo o 15) (σ.1 o 16) ∧ inR ((σ.1 o 16) + 1) ∧ Q (pf (pf (pr σ (rfo o 15) (Int.toNat (σ.1 o 16)) a1) o 16 ((σ.1 o 16) + 1)) o 17 (-1))
set_option maxHeartbeats 4000000 in
set_option maxRecDepth 20000 in
theorem s_KDoc_event {L : Nat → Nat} (hL : ∀ r, L r < 2147483648) {d : Nat} (hd : 0 ≤ d) {o : Nat} {a1 : Int} {Q : IS → Prop} {σ : IS} (ho : isDoc o) (h : w_KDoc_event L o a1 Q σ) : OkI BF L d 14 b_KDoc_event 2 0 0 [] [some (.inr o), some (.inl a1)] σ (qv Q) := by
  unfold w_KDoc_event at h
  refine k_sb (lv' := [some (.inr o), some (.inl a1)]) (sb_s (sb_s sb_nil)) ?_
  refine k_aload_n d_KDoc_event_0 rfl ?_
  refine k_getR d_KDoc_event_1 fl_14_25 (doc_ob ho) (dfr_15 ho) ?_
  refine k_aload_n d_KDoc_event_4 rfl ?_
  refine k_getI (x := (σ.1 o 16)) d_KDoc_event_5 fl_14_79 (doc_ob ho) (dfi_16 ho) rfl ?_
  refine k_iload_n d_KDoc_event_8 rfl ?_
  obtain ⟨p2, h⟩ := h
  refine k_ist d_KDoc_event_9 (drI_15 ho) p2 ?_
  refine k_aload_n d_KDoc_event_10 rfl ?_
  refine k_dup d_KDoc_event_11 ?_
  refine k_getI (x := (σ.1 o 16)) d_KDoc_event_12 fl_14_79 (doc_ob ho) (dfi_16 ho) ((rfl).trans rfl) ?_
  refine k_iconst d_KDoc_event_15 cI_1 ?_
  obtain ⟨p1, h⟩ := h
  refine k_iadd d_KDoc_event_16 p1 ?_
  refine k_putI d_KDoc_event_17 fl_14_79 (doc_ob ho) (dfz_16 ho) ?_
  refine k_aload_n d_KDoc_event_20 rfl ?_
  refine k_iconst d_KDoc_event_21 cI_m1 ?_
  refine k_putI d_KDoc_event_22 fl_14_82 (doc_ob ho) (dfz_17 ho) ?_
  exact k_ret d_KDoc_event_25 h
theorem d_KDoc_add_0 : decode b_KDoc_add 0 = .ok (.aload_n 0, 1) := by decide +kernel
theorem d_KDoc_add_1 : decode b_KDoc_add 1 = .ok (.getfield 42, 3) := by decide +kernel
theorem d_KDoc_add_4 : decode b_KDoc_add 4 = .ok (.aload_n 0, 1) := by decide +kernel
theorem d_KDoc_add_5 : decode b_KDoc_add 5 = .ok (.getfield 69, 3) := by decide +kernel
theorem d_KDoc_add_8 : decode b_KDoc_add 8 = .ok (.iload_n 1, 1) := by decide +kernel
theorem d_KDoc_add_9 : decode b_KDoc_add 9 = .ok (.iastore, 1) := by decide +kernel
theorem d_KDoc_add_10 : decode b_KDoc_add 10 = .ok (.aload_n 0, 1) := by decide +kernel
theorem d_KDoc_add_11 : decode b_KDoc_add 11 = .ok (.dup, 1) := by decide +kernel
theorem d_KDoc_add_12 : decode b_KDoc_add 12 = .ok (.getfield 69, 3) := by decide +kernel
theorem d_KDoc_add_15 : decode b_KDoc_add 15 = .ok (.iconst 1, 1) := by decide +kernel
theorem d_KDoc_add_16 : decode b_KDoc_add 16 = .ok (.iadd, 1) := by decide +kernel
theorem d_KDoc_add_17 : decode b_KDoc_add 17 = .ok (.putfield 69, 3) := by decide +kernel
theorem d_KDoc_add_20 : decode b_KDoc_add 20 = .ok (.return_, 1) := by decide +kernel
/-- KDoc_add -/
def w_KDoc_add (L : Nat → Nat) (o : Nat) (a1 : Int) (Q : IS → Prop) (σ : IS) : Prop := inL L (rfo o 1) (σ.1 o 2) ∧ inR ((σ.1 o 2) + 1) ∧ Q (pf (pr σ (rfo o 1) (Int.toNat (σ.1 o 2)) a1) o 2 ((σ.1 o 2) + 1))
set_option maxHeartbeats 4000000 in
set_option maxRecDepth 20000 in
theorem s_KDoc_add {L : Nat → Nat} (hL : ∀ r, L r < 2147483648) {d : Nat} (hd : 0 ≤ d) {o : Nat} {a1 : Int} {Q : IS → Prop} {σ : IS} (ho : isDoc o) (h : w_KDoc_add L o a1 Q σ) : OkI BF L d 14 b_KDoc_add 2 0 0 [] [some (.inr o), some (.inl a1)] σ (qv Q) := by
  unfold w_KDoc_add at h
  refine k_sb (lv' := [some (.inr o), some (.inl a1)]) (sb_s (sb_s sb_nil)) ?_
  refine k_aload_n d_KDoc_add_0 rfl ?_
  refine k_getR d_KDoc_add_1 fl_14_42 (doc_ob ho) (dfr_1 ho) ?_
  refine k_aload_n d_KDoc_add_4 rfl ?_
  refine k_getI (x := (σ.1 o 2)) d_KDoc_add_5 fl_14_69 (doc_ob ho) (dfi_2 ho) rfl ?_
  refine k_iload_n d_KDoc_add_8 rfl ?_
  obtain ⟨p2, h⟩ := h
  refine k_ist d_KDoc_add_9 (drI_1 ho) p2 ?_
  refine k_aload_n d_KDoc_add_10 rfl ?_
  refine k_dup d_KDoc_add_11 ?_
  refine k_getI (x := (σ.1 o 2)) d_KDoc_add_12 fl_14_69 (doc_ob ho) (dfi_2 ho) ((rfl).trans rfl) ?_
  refine k_iconst d_KDoc_add_15 cI_1 ?_
  obtain ⟨p1, h⟩ := h
  refine k_iadd d_KDoc_add_16 p1 ?_
  refine k_putI d_KDoc_add_17 fl_14_69 (doc_ob ho) (dfz_2 ho) ?_
  exact k_ret d_KDoc_add_20 h
