/-! ===== the law: feed and end ===== -/
section L11
variable {p : Program} {e : Env} {s : State} {m : MethodId} {below : List Frame} {meth : Method} {c : Code} {l : Launch} {b Ls : Nat} {xs : Nat → Int32} {D : va_G} {tI tB tZ tL : ClassId} {X : (Nat → Prop) → State → Prop} {A : Nat → Prop} {L adr : Nat → Nat} {qo : Nat} {H : Heap} {locs : List Loc} {ls : Array Slot} {cells slots : Nat} {Q : State → Prop} {τ : MS} {fo : Nat → Int64} {i rm nd S : Nat} {d : DOC} {F P : List Int}
/-- where the loop goes on, whatever lies in the locals behind and in the row of longs -/
abbrev Kgo2 (p : Program) (l : Launch) (e : Env) (s : State) (m : MethodId) (b : Nat) (below : List Frame) (meth : Method) (c : Code) (Q : State → Prop) (D : va_G) (tI tB tZ tL : ClassId) (A : Nat → Prop) (L adr : Nat → Nat) (qo i : Nat) (cells slots rm nd S : Nat) : Prop := ∀ (lv : List (Nat × Value)) (k4 : Nat) (fo' : Nat → Int64) (ls' : Array Slot) (τ' : MS) (H' : Heap) (locs' : List Loc), lv_has ls' 7 lv → lv[k4]? = some (4, .int (nI i)) → (3, .ref qo) ∈ lv → (2, .ref (adr 12)) ∈ lv → (1, .ref (adr 0)) ∈ lv → (0, .ref b) ∈ lv → (∃ d F P, NX L rm nd S (iS τ') d F P) → Wd D A s (wLW adr L tI tB tZ tL qo fo' τ') H' locs' → W p l e room_1 s m #[Value.ref b] below meth c H' locs' cells slots Q (F0 m 669 ls' [])
set_option maxHeartbeats 4000000 in
theorem law_c0 (C : Cx p m c code 7 s #[Value.ref b] R_L D tI tB tZ tL X A) (hmx : ∀ A U, X A U → MX adr A U) (hLL : LLs L rm nd) (hsc : ∀ A U, X A U → scAt b Ls xs A U) (hLs : Ls ≤ 3074) (hi : i + 6 ≤ Ls) (hc : cells + 1 ≤ 123806 ∧ slots + 6 ≤ 8724654) (hW : Wd D A s (wLW adr L tI tB tZ tL qo fo τ) H locs) (hl : lv_has ls 7 (lvL adr qo b i)) (hN : NX L rm nd S (iS τ) d F P) (htr : l.stackTraces = false) {q4 : Nat} {tx : String} (hk0 : ∀ A U, X A U → vk_R "MarkupJudge" 116 tx q4 U) (hexS : ∀ A U, X A U → exOkS A U) (kk : Kgo2 p l e s m b below meth c Q D tI tB tZ tL A L adr qo i (cells + 1) (slots + 6) rm nd S) : W p l e room_1 s m #[Value.ref b] below meth c H locs cells slots Q (F0 m 152 ls []) := by
  have hx := C.1.1
  have hb := C.1.2.1
  have hX := C.2.2.2.2
  have hb30 := hLL.2.2.2.2.2.2.2.2.2.2.2
  have hF1 : (τ.1 0 1).toInt = (F.length : Int) := hN.1.2.2.1.1
  have hF2 : F.length ≤ 65536 := hN.1.2.2.1.2.1
  refine lv_aload_n hx hb d_L_law_152 rfl (lv_at hl 3 rfl) ?_
  refine law_arg (i := i) (k := 1) (k4 := 0) (k0 := 4) C hsc hLs hW hl rfl rfl d_L_law_153 d_L_law_154 d_L_law_156 rfl d_L_law_157 d_L_law_158 (by omega) ?_
  refine law_arg (i := i) (k := 2) (k4 := 0) (k0 := 4) C hsc hLs hW hl rfl rfl d_L_law_159 d_L_law_160 d_L_law_162 rfl d_L_law_163 d_L_law_164 (by omega) ?_
  refine law_arg (i := i) (k := 3) (k4 := 0) (k0 := 4) C hsc hLs hW hl rfl rfl d_L_law_165 d_L_law_166 d_L_law_168 rfl d_L_law_169 d_L_law_170 (by omega) ?_
  refine law_arg (i := i) (k := 4) (k4 := 0) (k0 := 4) C hsc hLs hW hl rfl rfl d_L_law_171 d_L_law_172 d_L_law_174 rfl d_L_law_175 d_L_law_176 (by omega) ?_
  refine law_arg (i := i) (k := 5) (k4 := 0) (k0 := 4) C hsc hLs hW hl rfl rfl d_L_law_177 d_L_law_178 d_L_law_180 rfl d_L_law_181 d_L_law_182 (by omega) ?_
  -- the reference's part, from whatever the class's part left
  have tail : ∀ (kc : Int32) (τ1 : MS) (H : Heap) (locs : List Loc) (ls : Array Slot), lv_has ls 7 ((5, .int kc) :: lvL adr qo b i) → w_K_feed L (xs (i + 1)).toInt (xs (i + 2)).toInt (xs (i + 3)).toInt (xs (i + 4)).toInt (xs (i + 5)).toInt (fun υ => υ.1 12 11 = kc.toInt ∧ ∃ F', NX L rm nd S υ d F' P) (iS τ1) → Wd D A s (wLW adr L tI tB tZ tL qo fo τ1) H locs → W p l e room_1 s m #[Value.ref b] below meth c H locs (cells + 1) (slots + 6) Q (F0 m 188 ls []) := fun kc τ1 H locs ls hl hw hW => by
    refine lv_aload_n hx hb d_L_law_188 rfl (lv_at hl 3 rfl) ?_
    refine law_arg (i := i) (k := 1) (k4 := 1) (k0 := 5) C hsc hLs hW hl rfl rfl d_L_law_189 d_L_law_190 d_L_law_192 rfl d_L_law_193 d_L_law_194 (by omega) ?_
    refine law_arg (i := i) (k := 2) (k4 := 1) (k0 := 5) C hsc hLs hW hl rfl rfl d_L_law_195 d_L_law_196 d_L_law_198 rfl d_L_law_199 d_L_law_200 (by omega) ?_
    refine law_arg (i := i) (k := 3) (k4 := 1) (k0 := 5) C hsc hLs hW hl rfl rfl d_L_law_201 d_L_law_202 d_L_law_204 rfl d_L_law_205 d_L_law_206 (by omega) ?_
    refine law_arg (i := i) (k := 4) (k4 := 1) (k0 := 5) C hsc hLs hW hl rfl rfl d_L_law_207 d_L_law_208 d_L_law_210 rfl d_L_law_211 d_L_law_212 (by omega) ?_
    refine law_arg (i := i) (k := 5) (k4 := 1) (k0 := 5) C hsc hLs hW hl rfl rfl d_L_law_213 d_L_law_214 d_L_law_216 rfl d_L_law_217 d_L_law_218 (by omega) ?_
    refine r_okV (L := L) (L' := L) (adr := adr) (τ := τ1) (y := y_K_feed) (o := 12) (dd := 90) [xs (i + 1), xs (i + 2), xs (i + 3), xs (i + 4), xs (i + 5)] [] C hl.1 hmx hb30 (fun _ _ => rfl) hW (s_K_feed (l31 hb30) (by decide) hw) ok_K_feed (by decide) (by decide) (by decide) (by decide) (by decide) (Nat.le_of_ble_eq_true rfl) w_2606 rfl (by decide) (Nat.le_of_ble_eq_true rfl) hc d_L_law_219 (fun τ2 H locs hv hW => ?_)
    refine lv_aload_n hx hb d_L_law_222 rfl (lv_at hl 3 rfl) ?_
    refine r_okI (L := L) (L' := L) (adr := adr) (τ := τ2) (y := y_K_thrown) (o := 12) (dd := 90) (Q0 := fun v σ' => v = (iS τ2).1 12 11 ∧ σ' = iS τ2) [] [] C hl.1 hmx hb30 (fun _ _ => rfl) hW (s_K_thrown (l31 hb30) (by decide) (by unfold w_K_thrown; exact ⟨rfl, rfl⟩)) rfl (by decide) ok_K_thrown (by decide) (by decide) (by decide) (by decide) (by decide) (Nat.le_of_ble_eq_true rfl) w_2602 rfl (by decide) (Nat.le_of_ble_eq_true rfl) hc d_L_law_223 (fun v τ3 H locs hv2 hW => ?_)
    obtain ⟨g1, g2⟩ := hv2
    obtain ⟨g3, F', g4⟩ := hv
    rw [← g2] at g4
    refine lv_iload hx hb d_L_law_226 (lv_at hl 0 rfl) ?_
    refine lv_icmp_eq (tgt := 233) hx hb d_L_law_228 (by decide) (fun _ => ?_) (fun c0 => absurd (Int32.toInt_inj.mp (g1.trans g3)) c0)
    refine lv_goto (tgt := 669) hx hb d_L_law_233 (by decide) ?_
    exact kk _ 1 fo ls τ3 H locs hl rfl (by simp) (by simp) (by simp) (by simp) ⟨_, _, _, g4⟩ hW
  have hCr := cons_rng (qo, (.inl (tL, 1, .inr (.inl fo)) : va_E)) (wld BF adr (LNf L) tI tB tZ τ)
  rw [wld_len] at hCr
  have hdis : ∀ i ∈ [0], i ∉ (List.range (nW BF)).map (· + 1) := fun i hi => by
    rw [List.mem_singleton.mp hi]
    intro z
    obtain ⟨k, -, hk⟩ := List.mem_map.mp z
    omega
  by_cases hle : F.length + 20 ≤ 65536
  · have hok := s_J_feed (L := L) (d := 1) (l31 hb30) (by decide) (σ := iS τ) (by show ¬ 65516 < (τ.1 0 1).toInt; omega) (pr_feed (a := (xs (i + 1)).toInt) (b := (xs (i + 2)).toInt) (c := (xs (i + 3)).toInt) (g := (xs (i + 4)).toInt) (e := (xs (i + 5)).toInt) hLL hN hle)
    refine r_callSiW [.ref (adr 0), .int (xs (i + 1)), .int (xs (i + 2)), .int (xs (i + 3)), .int (xs (i + 4)), .int (xs (i + 5))] [] C hl.1 hW (c_L_feedO l D tI tB tZ tL X hX hmx hb30 hok) ok_L_feed w_2042 (wr := [(qo, .inl (tL, 1, .inr (.inl fo)))]) ((List.range (nW BF)).map (· + 1)) [0] hCr rfl rng_1 (by decide) hdis rfl (by decide) (Nat.le_of_ble_eq_true rfl) ⟨by show cells + 0 ≤ 123806; omega, by show slots + 0 ≤ 8724654; omega⟩ d_L_law_183 (fun r τ1 H locs hv hW => ?_)
    obtain ⟨rfl, hv⟩ := hv
    refine lv_istore (lv' := (5, .int 0) :: lvL adr qo b i) hx hb d_L_law_186 hl (by decide) rfl (fun ls hl => ?_)
    refine W.widen (k := cells + 1) (n := slots + 6) (by show cells + 0 ≤ _; omega) (by show slots + 0 ≤ _; omega) ?_
    exact tail 0 τ1 H locs ls hl hv hW
  · refine r_callSiW [.ref (adr 0), .int (xs (i + 1)), .int (xs (i + 2)), .int (xs (i + 3)), .int (xs (i + 4)), .int (xs (i + 5))] [] C hl.1 hW (c_L_feedT (L := L) (τ := τ) l D tI tB tZ tL X hX (by rw [Int32.le_iff_toInt_le, hF1]; show ¬ (F.length : Int) ≤ 65516; omega) htr q4 tx hk0 hexS) ok_L_feed w_2042 (wr := [(qo, .inl (tL, 1, .inr (.inl fo)))]) ((List.range (nW BF)).map (· + 1)) [0] hCr rfl rng_1 (by decide) hdis rfl (by decide) (Nat.le_of_ble_eq_true rfl) hc d_L_law_183 (fun r u H locs hv hW => ?_)
    subst hv
    refine lv_istore (lv' := (5, .int 1) :: lvL adr qo b i) hx hb d_L_law_186 hl (by decide) rfl (fun ls hl => ?_)
    exact tail 1 τ H locs ls hl (pr_feedT hLL hN hle) hW
set_option maxHeartbeats 4000000 in
theorem law_c1 (C : Cx p m c code 7 s #[Value.ref b] R_L D tI tB tZ tL X A) (hmx : ∀ A U, X A U → MX adr A U) (hLL : LLs L rm nd) (hsc : ∀ A U, X A U → scAt b Ls xs A U) (hLs : Ls ≤ 3074) (hi : i + 6 ≤ Ls) (hc : cells + 1 ≤ 123806 ∧ slots + 6 ≤ 8724654) (hW : Wd D A s (wLW adr L tI tB tZ tL qo fo τ) H locs) (hl : lv_has ls 7 (lvL adr qo b i)) (hN : NX L rm nd S (iS τ) d F P) (htr : l.stackTraces = false) {q3 : Nat} (hk1 : ∀ A U, X A U → vk_R "MarkupJudge" 126 "not so many bytes" q3 U) (hex : ∀ A U, X A U → exOk A U) (kk : Kgo2 p l e s m b below meth c Q D tI tB tZ tL A L adr qo i (cells + 1) (slots + 6) rm nd S) : W p l e room_1 s m #[Value.ref b] below meth c H locs cells slots Q (F0 m 236 ls []) := by
  have hx := C.1.1
  have hb := C.1.2.1
  have hX := C.2.2.2.2
  have hb30 := hLL.2.2.2.2.2.2.2.2.2.2.2
  have hF1 : (τ.1 0 1).toInt = (F.length : Int) := hN.1.2.2.1.1
  refine lv_aload_n hx hb d_L_law_236 rfl (lv_at hl 3 rfl) ?_
  refine law_arg (i := i) (k := 1) (k4 := 0) (k0 := 4) C hsc hLs hW hl rfl rfl d_L_law_237 d_L_law_238 d_L_law_240 rfl d_L_law_241 d_L_law_242 (by omega) ?_
  refine lv_aload_n hx hb d_L_law_243 rfl (lv_at hl 1 rfl) ?_
  have hrg : ∀ (fo : Nat → Int64) (τ : MS), (List.range (nW BF + 1)).map (fun i => (wLW adr L tI tB tZ tL qo fo τ)[i]?) = (wLW adr L tI tB tZ tL qo fo τ).map some := fun fo τ => by
    have := rng_all (wLW adr L tI tB tZ tL qo fo τ)
    rw [List.length_cons, wld_len] at this
    exact this
  -- the reference's part
  have tail : ∀ (kc : Int32) (fo' : Nat → Int64) (τ1 : MS) (H : Heap) (locs : List Loc) (ls : Array Slot) (Qv : Int → Prop), lv_has ls 7 ((5, .int kc) :: lvL adr qo b i) → w_K_end L (xs (i + 1)).toInt (fun v υ => Qv v ∧ υ.1 12 11 = kc.toInt ∧ ∃ F', NX L rm nd S υ d F' P) (iS τ1) → Wd D A s (wLW adr L tI tB tZ tL qo fo' τ1) H locs → (kc = 1 ∨ (kc = 0 ∧ ∀ v : Int32, Qv v.toInt → fo' 0 = v.toInt64)) → W p l e room_1 s m #[Value.ref b] below meth c H locs (cells + 1) (slots + 6) Q (F0 m 249 ls []) := fun kc fo' τ1 H locs ls Qv hl hw hW hkc => by
    refine lv_aload_n hx hb d_L_law_249 rfl (lv_at hl 3 rfl) ?_
    refine law_arg (i := i) (k := 1) (k4 := 1) (k0 := 5) C hsc hLs hW hl rfl rfl d_L_law_250 d_L_law_251 d_L_law_253 rfl d_L_law_254 d_L_law_255 (by omega) ?_
    refine r_okI (L := L) (L' := L) (adr := adr) (τ := τ1) (y := y_K_end) (o := 12) (dd := 90) [xs (i + 1)] [] C hl.1 hmx hb30 (fun _ _ => rfl) hW (s_K_end (l31 hb30) (by decide) hw) rfl (by decide) ok_K_end (by decide) (by decide) (by decide) (by decide) (by decide) (Nat.le_of_ble_eq_true rfl) w_2614 rfl (by decide) (Nat.le_of_ble_eq_true rfl) hc d_L_law_256 (fun bv τ2 H locs hv hW => ?_)
    refine lv_istore (lv' := (6, .int bv) :: (5, .int kc) :: lvL adr qo b i) hx hb d_L_law_259 hl (by decide) rfl (fun ls hl => ?_)
    refine lv_aload_n hx hb d_L_law_261 rfl (lv_at hl 4 rfl) ?_
    refine r_okI (L := L) (L' := L) (adr := adr) (τ := τ2) (y := y_K_thrown) (o := 12) (dd := 90) (Q0 := fun v σ' => v = (iS τ2).1 12 11 ∧ σ' = iS τ2) [] [] C hl.1 hmx hb30 (fun _ _ => rfl) hW (s_K_thrown (l31 hb30) (by decide) (by unfold w_K_thrown; exact ⟨rfl, rfl⟩)) rfl (by decide) ok_K_thrown (by decide) (by decide) (by decide) (by decide) (by decide) (Nat.le_of_ble_eq_true rfl) w_2602 rfl (by decide) (Nat.le_of_ble_eq_true rfl) hc d_L_law_262 (fun v τ3 H locs hv2 hW => ?_)
    obtain ⟨g1, g2⟩ := hv2
    obtain ⟨g0, g3, F', g4⟩ := hv
    rw [← g2] at g4
    refine lv_iload hx hb d_L_law_265 (lv_at hl 1 rfl) ?_
    refine lv_icmp_eq (tgt := 272) hx hb d_L_law_267 (by decide) (fun _ => ?_) (fun c0 => absurd (Int32.toInt_inj.mp (g1.trans g3)) c0)
    refine lv_iload hx hb d_L_law_272 (lv_at hl 1 rfl) ?_
    have fin : W p l e room_1 s m #[Value.ref b] below meth c H locs (cells + 1) (slots + 6) Q (F0 m 289 ls []) := by
      refine lv_goto (tgt := 669) hx hb d_L_law_289 (by decide) ?_
      exact kk _ 2 fo' ls τ3 H locs hl rfl (by simp) (by simp) (by simp) (by simp) ⟨_, _, _, g4⟩ hW
    refine lv_if_ne (tgt := 289) hx hb d_L_law_274 (by decide) (fun _ => fin) (fun c0 => ?_)
    have hk0 : kc = 0 := by
      first | exact c0 | exact Decidable.not_not.mp c0
    have hfo : fo' 0 = bv.toInt64 := by
      rcases hkc with z | z
      · rw [hk0] at z; exact absurd z (by decide)
      · exact z.2 bv g0
    refine lv_aload_n hx hb d_L_law_277 rfl (lv_at hl 3 rfl) ?_
    refine lv_iconst (v := 0) hx hb d_L_law_278 (by decide) ?_
    refine r_ldL C hW 0 rfl 0 rfl (by decide) (by decide) d_L_law_279 ?_
    refine lv_iload hx hb d_L_law_280 (lv_at hl 0 rfl) ?_
    refine lv_i2l hx hb d_L_law_282 rfl ?_
    refine W.lcmp hx hb d_L_law_283 ?_
    exact lv_if_eq (tgt := 289) hx hb d_L_law_284 (by decide) (fun _ => fin) (fun c0 => absurd (by rw [hfo]; simp [lg_cmp]) c0)
  by_cases hok : 0 ≤ (xs (i + 1)).toInt ∧ (xs (i + 1)).toInt ≤ (F.length : Int)
  · refine r_callSiW [.ref (adr 0), .int (xs (i + 1)), .ref qo] [] C hl.1 hW (c_L_endO (L := L) (τ := τ) l D tI tB tZ tL X hX hmx hb30 (n := xs (i + 1)) (fun z => by have := Int32.lt_iff_toInt_lt.mp z; rw [show (0 : Int32).toInt = 0 from rfl] at this; omega) (Int32.le_iff_toInt_le.mpr (by rw [hF1]; exact hok.2))) ok_L_end w_2071 (wr := []) (List.range (nW BF + 1)) [] (hrg fo τ) rfl (va_nd_of List.nodup_range) rfl (fun i hi => absurd hi List.not_mem_nil) rfl (by decide) (Nat.le_of_ble_eq_true rfl) ⟨by show cells + 0 ≤ 123806; omega, by show slots + 0 ≤ 8724654; omega⟩ d_L_law_244 (fun r τ1 H locs hv hW => ?_)
    obtain ⟨rfl, hv⟩ := hv
    refine lv_istore (lv' := (5, .int 0) :: lvL adr qo b i) hx hb d_L_law_247 hl (by decide) rfl (fun ls hl => ?_)
    refine W.widen (k := cells + 1) (n := slots + 6) (by show cells + 0 ≤ _; omega) (by show slots + 0 ≤ _; omega) ?_
    have hpe := pr_end (n := (xs (i + 1)).toInt) hN hok.1 hok.2
    rw [← hv] at hpe
    exact tail 0 _ τ1 H locs ls (fun v => v = (F.length : Int)) hl hpe hW (Or.inr ⟨rfl, fun v hv => by
      have : v = τ.1 0 1 := Int32.toInt_inj.mp (hv.trans hF1.symm)
      rw [this]
      rfl⟩)
  · refine r_callSiW [.ref (adr 0), .int (xs (i + 1)), .ref qo] [] C hl.1 hW (c_L_endT (L := L) (τ := τ) l D tI tB tZ tL X hX (n := xs (i + 1)) (by
      by_cases z : (xs (i + 1)).toInt < 0
      · exact Or.inl (Int32.lt_iff_toInt_lt.mpr z)
      · exact Or.inr (Int32.lt_iff_toInt_lt.mpr (by rw [hF1]; omega))) htr q3 hk1 hex) ok_L_end w_2071 (wr := []) (List.range (nW BF + 1)) [] (hrg fo τ) rfl (va_nd_of List.nodup_range) rfl (fun i hi => absurd hi List.not_mem_nil) rfl (by decide) (Nat.le_of_ble_eq_true rfl) hc d_L_law_244 (fun r u H locs hv hW => ?_)
    subst hv
    refine lv_istore (lv' := (5, .int 1) :: lvL adr qo b i) hx hb d_L_law_247 hl (by decide) rfl (fun ls hl => ?_)
    exact tail 1 fo τ H locs ls (fun _ => True) hl (by
      have := pr_endT (n := (xs (i + 1)).toInt) hN hok
      unfold w_K_end at this ⊢
      simp only [true_and]
      exact this) hW (Or.inl rfl)
end L11
