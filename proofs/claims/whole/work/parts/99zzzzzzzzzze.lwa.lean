/-! ===== one call of the law after another ===== -/
section L10
variable {p : Program} {e : Env} {s : State} {m : MethodId} {below : List Frame} {meth : Method} {c : Code} {l : Launch} {b Ls : Nat} {xs : Nat → Int32} {D : va_G} {tI tB tZ tL : ClassId} {X : (Nat → Prop) → State → Prop} {A : Nat → Prop} {L adr : Nat → Nat} {qo : Nat} {H : Heap} {locs : List Loc} {ls : Array Slot} {cells slots : Nat} {Q : State → Prop} {τ : MS} {fo : Nat → Int64} {i rm nd S : Nat} {d : DOC} {F P : List Int}
/-- where the loop goes on -/
abbrev Kgo (p : Program) (l : Launch) (e : Env) (s : State) (m : MethodId) (b : Nat) (below : List Frame) (meth : Method) (c : Code) (Q : State → Prop) (D : va_G) (tI tB tZ tL : ClassId) (A : Nat → Prop) (L adr : Nat → Nat) (qo : Nat) (fo : Nat → Int64) (ls : Array Slot) (cells slots rm nd S : Nat) : Prop := ∀ (S' : Nat) (τ' : MS) (H' : Heap) (locs' : List Loc), S' ≤ S + 1000000 → (∃ d F P, NX L rm nd S' (iS τ') d F P) → Wd D A s (wLW adr L tI tB tZ tL qo fo τ') H' locs' → W p l e room_1 s m #[Value.ref b] below meth c H' locs' cells slots Q (F0 m 669 ls [])
theorem l31 {L : Nat → Nat} (h : ∀ r, L r < 1073741824) : ∀ r, L r < 2147483648 := fun r => Nat.lt_trans (h r) (by decide)
set_option maxHeartbeats 4000000 in
theorem law_c2 (C : Cx p m c code 7 s #[Value.ref b] R_L D tI tB tZ tL X A) (hmx : ∀ A U, X A U → MX adr A U) (hLL : LLs L rm nd) (hsc : ∀ A U, X A U → scAt b Ls xs A U) (hLs : Ls ≤ 3074) (hi : i + 6 ≤ Ls) (hc : cells ≤ 123806 ∧ slots ≤ 8724654) (hS : S ≤ 1000000000) (hW : Wd D A s (wLW adr L tI tB tZ tL qo fo τ) H locs) (hl : lv_has ls 7 (lvL adr qo b i)) (hN : NX L rm nd S (iS τ) d F P) (kk : Kgo p l e s m b below meth c Q D tI tB tZ tL A L adr qo fo ls cells slots rm nd S) : W p l e room_1 s m #[Value.ref b] below meth c H locs cells slots Q (F0 m 292 ls []) := by
  have hx := C.1.1
  have hb := C.1.2.1
  have hb30 := hLL.2.2.2.2.2.2.2.2.2.2.2
  refine lv_aload_n hx hb d_L_law_292 rfl (lv_at hl 3 rfl) ?_
  refine law_arg (k := 1) (k4 := 0) (k0 := 4) C hsc hLs hW hl rfl rfl d_L_law_293 d_L_law_294 d_L_law_296 rfl d_L_law_297 d_L_law_298 (by omega) ?_
  refine law_arg (k := 2) (k4 := 0) (k0 := 4) C hsc hLs hW hl rfl rfl d_L_law_299 d_L_law_300 d_L_law_302 rfl d_L_law_303 d_L_law_304 (by omega) ?_
  refine r_okI (L := L) (L' := L) (adr := adr) (τ := τ) (y := y_J_change) (o := 0) (dd := 90) [xs (i + 1), xs (i + 2)] [] C hl.1 hmx hb30 (fun _ _ => rfl) hW (s_J_change (l31 hb30) (by decide) (pr_change hLL hN)) rfl (by decide) ok_J_change (by decide) (by decide) (by decide) (by decide) (by decide) (Nat.le_of_ble_eq_true rfl) w_832 rfl (by decide) (Nat.le_of_ble_eq_true rfl) hc d_L_law_305 (fun v τ1 H locs hv hW => ?_)
  refine lv_aload_n hx hb d_L_law_308 rfl (lv_at hl 2 rfl) ?_
  refine law_arg (k := 1) (k4 := 0) (k0 := 4) C hsc hLs hW hl rfl rfl d_L_law_309 d_L_law_310 d_L_law_312 rfl d_L_law_313 d_L_law_314 (by omega) ?_
  refine law_arg (k := 2) (k4 := 0) (k0 := 4) C hsc hLs hW hl rfl rfl d_L_law_315 d_L_law_316 d_L_law_318 rfl d_L_law_319 d_L_law_320 (by omega) ?_
  refine r_okI (L := L) (L' := L) (adr := adr) (τ := τ1) (y := y_K_change) (o := 12) (dd := 90) [xs (i + 1), xs (i + 2)] [.int v] C hl.1 hmx hb30 (fun _ _ => rfl) hW (s_K_change (l31 hb30) (by decide) hv) rfl (by decide) ok_K_change (by decide) (by decide) (by decide) (by decide) (by decide) (Nat.le_of_ble_eq_true rfl) w_2618 rfl (by decide) (Nat.le_of_ble_eq_true rfl) hc d_L_law_321 (fun v' τ2 H locs hv hW => ?_)
  obtain ⟨e1, F', hN'⟩ := hv
  refine lv_icmp_eq (tgt := 669) hx hb d_L_law_324 (by decide) (fun _ => kk S τ2 H locs (Nat.le_add_right _ _) ⟨_, _, _, hN'⟩ hW) (fun c0 => absurd (Int32.toInt_inj.mp e1).symm c0)
set_option maxHeartbeats 4000000 in
theorem law_c3 (C : Cx p m c code 7 s #[Value.ref b] R_L D tI tB tZ tL X A) (hmx : ∀ A U, X A U → MX adr A U) (hLL : LLs L rm nd) (hsc : ∀ A U, X A U → scAt b Ls xs A U) (hLs : Ls ≤ 3074) (hi : i + 6 ≤ Ls) (hc : cells ≤ 123806 ∧ slots ≤ 8724654) (hS : S ≤ 1000000000) (hW : Wd D A s (wLW adr L tI tB tZ tL qo fo τ) H locs) (hl : lv_has ls 7 (lvL adr qo b i)) (hN : NX L rm nd S (iS τ) d F P) (kk : Kgo p l e s m b below meth c Q D tI tB tZ tL A L adr qo fo ls cells slots rm nd S) : W p l e room_1 s m #[Value.ref b] below meth c H locs cells slots Q (F0 m 329 ls []) := by
  have hx := C.1.1
  have hb := C.1.2.1
  have hb30 := hLL.2.2.2.2.2.2.2.2.2.2.2
  obtain ⟨L', hle, hb30', hw⟩ := pr_judge hLL hS hN
  refine lv_aload_n hx hb d_L_law_329 rfl (lv_at hl 3 rfl) ?_
  refine r_okI (L := L) (L' := L') (adr := adr) (τ := τ) (y := y_J_judge) (o := 0) (dd := 90) [] [] C hl.1 hmx hb30' hle hW (s_J_judge (l31 hb30') (by decide) hw) rfl (by decide) ok_J_judge (by decide) (by decide) (by decide) (by decide) (by decide) (Nat.le_of_ble_eq_true rfl) w_836 rfl (by decide) (Nat.le_of_ble_eq_true rfl) hc d_L_law_330 (fun v τ1 H locs hv hW => ?_)
  refine lv_aload_n hx hb d_L_law_333 rfl (lv_at hl 2 rfl) ?_
  refine r_okI (L := L) (L' := L) (adr := adr) (τ := τ1) (y := y_K_judge) (o := 12) (dd := 90) [] [.int v] C hl.1 hmx hb30 (fun _ _ => rfl) hW (s_K_judge (l31 hb30) (by decide) hv) rfl (by decide) ok_K_judge (by decide) (by decide) (by decide) (by decide) (by decide) (Nat.le_of_ble_eq_true rfl) w_2622 rfl (by decide) (Nat.le_of_ble_eq_true rfl) hc d_L_law_334 (fun v' τ2 H locs hv hW => ?_)
  obtain ⟨e1, d', hN'⟩ := hv
  refine lv_icmp_eq (tgt := 669) hx hb d_L_law_337 (by decide) (fun _ => kk _ τ2 H locs (Nat.le_refl _) ⟨_, _, _, hN'⟩ hW) (fun c0 => absurd (Int32.toInt_inj.mp e1).symm c0)
set_option maxHeartbeats 4000000 in
theorem law_c4 (C : Cx p m c code 7 s #[Value.ref b] R_L D tI tB tZ tL X A) (hmx : ∀ A U, X A U → MX adr A U) (hLL : LLs L rm nd) (hsc : ∀ A U, X A U → scAt b Ls xs A U) (hLs : Ls ≤ 3074) (hi : i + 6 ≤ Ls) (hc : cells ≤ 123806 ∧ slots ≤ 8724654) (hS : S ≤ 1000000000) (hW : Wd D A s (wLW adr L tI tB tZ tL qo fo τ) H locs) (hl : lv_has ls 7 (lvL adr qo b i)) (hN : NX L rm nd S (iS τ) d F P) (kk : Kgo p l e s m b below meth c Q D tI tB tZ tL A L adr qo fo ls cells slots rm nd S) : W p l e room_1 s m #[Value.ref b] below meth c H locs cells slots Q (F0 m 342 ls []) := by
  have hx := C.1.1
  have hb := C.1.2.1
  have hb30 := hLL.2.2.2.2.2.2.2.2.2.2.2
  refine lv_aload_n hx hb d_L_law_342 rfl (lv_at hl 3 rfl) ?_
  refine r_okI (L := L) (L' := L) (adr := adr) (τ := τ) (y := y_J_fault) (o := 0) (dd := 90) [] [] C hl.1 hmx hb30 (fun _ _ => rfl) hW (s_J_fault (l31 hb30) (by decide) (pr_fault hN)) rfl (by decide) ok_J_fault (by decide) (by decide) (by decide) (by decide) (by decide) (Nat.le_of_ble_eq_true rfl) w_1885 rfl (by decide) (Nat.le_of_ble_eq_true rfl) hc d_L_law_343 (fun v τ1 H locs hv hW => ?_)
  refine lv_aload_n hx hb d_L_law_346 rfl (lv_at hl 2 rfl) ?_
  refine r_okI (L := L) (L' := L) (adr := adr) (τ := τ1) (y := y_K_fault) (o := 12) (dd := 90) [] [.int v] C hl.1 hmx hb30 (fun _ _ => rfl) hW (s_K_fault (l31 hb30) (by decide) hv) rfl (by decide) ok_K_fault (by decide) (by decide) (by decide) (by decide) (by decide) (Nat.le_of_ble_eq_true rfl) w_3236 rfl (by decide) (Nat.le_of_ble_eq_true rfl) hc d_L_law_347 (fun v' τ2 H locs hv hW => ?_)
  obtain ⟨e1, hN'⟩ := hv
  refine lv_icmp_eq (tgt := 669) hx hb d_L_law_350 (by decide) (fun _ => kk S τ2 H locs (Nat.le_add_right _ _) ⟨_, _, _, hN'⟩ hW) (fun c0 => absurd (Int32.toInt_inj.mp e1).symm c0)
set_option maxHeartbeats 4000000 in
theorem law_c5 (C : Cx p m c code 7 s #[Value.ref b] R_L D tI tB tZ tL X A) (hmx : ∀ A U, X A U → MX adr A U) (hLL : LLs L rm nd) (hsc : ∀ A U, X A U → scAt b Ls xs A U) (hLs : Ls ≤ 3074) (hi : i + 6 ≤ Ls) (hc : cells ≤ 123806 ∧ slots ≤ 8724654) (hS : S ≤ 1000000000) (hW : Wd D A s (wLW adr L tI tB tZ tL qo fo τ) H locs) (hl : lv_has ls 7 (lvL adr qo b i)) (hN : NX L rm nd S (iS τ) d F P) (kk : Kgo p l e s m b below meth c Q D tI tB tZ tL A L adr qo fo ls cells slots rm nd S) : W p l e room_1 s m #[Value.ref b] below meth c H locs cells slots Q (F0 m 355 ls []) := by
  have hx := C.1.1
  have hb := C.1.2.1
  have hb30 := hLL.2.2.2.2.2.2.2.2.2.2.2
  refine lv_aload_n hx hb d_L_law_355 rfl (lv_at hl 3 rfl) ?_
  refine r_okI (L := L) (L' := L) (adr := adr) (τ := τ) (y := y_J_place) (o := 0) (dd := 90) [] [] C hl.1 hmx hb30 (fun _ _ => rfl) hW (s_J_place (l31 hb30) (by decide) (pr_place hN)) rfl (by decide) ok_J_place (by decide) (by decide) (by decide) (by decide) (by decide) (Nat.le_of_ble_eq_true rfl) w_1889 rfl (by decide) (Nat.le_of_ble_eq_true rfl) hc d_L_law_356 (fun v τ1 H locs hv hW => ?_)
  refine lv_aload_n hx hb d_L_law_359 rfl (lv_at hl 2 rfl) ?_
  refine r_okI (L := L) (L' := L) (adr := adr) (τ := τ1) (y := y_K_place) (o := 12) (dd := 90) [] [.int v] C hl.1 hmx hb30 (fun _ _ => rfl) hW (s_K_place (l31 hb30) (by decide) hv) rfl (by decide) ok_K_place (by decide) (by decide) (by decide) (by decide) (by decide) (Nat.le_of_ble_eq_true rfl) w_3240 rfl (by decide) (Nat.le_of_ble_eq_true rfl) hc d_L_law_360 (fun v' τ2 H locs hv hW => ?_)
  obtain ⟨e1, hN'⟩ := hv
  refine lv_icmp_eq (tgt := 669) hx hb d_L_law_363 (by decide) (fun _ => kk S τ2 H locs (Nat.le_add_right _ _) ⟨_, _, _, hN'⟩ hW) (fun c0 => absurd (Int32.toInt_inj.mp e1).symm c0)
set_option maxHeartbeats 4000000 in
theorem law_c6 (C : Cx p m c code 7 s #[Value.ref b] R_L D tI tB tZ tL X A) (hmx : ∀ A U, X A U → MX adr A U) (hLL : LLs L rm nd) (hsc : ∀ A U, X A U → scAt b Ls xs A U) (hLs : Ls ≤ 3074) (hi : i + 6 ≤ Ls) (hc : cells ≤ 123806 ∧ slots ≤ 8724654) (hS : S ≤ 1000000000) (hW : Wd D A s (wLW adr L tI tB tZ tL qo fo τ) H locs) (hl : lv_has ls 7 (lvL adr qo b i)) (hN : NX L rm nd S (iS τ) d F P) (kk : Kgo p l e s m b below meth c Q D tI tB tZ tL A L adr qo fo ls cells slots rm nd S) : W p l e room_1 s m #[Value.ref b] below meth c H locs cells slots Q (F0 m 368 ls []) := by
  have hx := C.1.1
  have hb := C.1.2.1
  have hb30 := hLL.2.2.2.2.2.2.2.2.2.2.2
  refine lv_aload_n hx hb d_L_law_368 rfl (lv_at hl 3 rfl) ?_
  refine law_arg (k := 1) (k4 := 0) (k0 := 4) C hsc hLs hW hl rfl rfl d_L_law_369 d_L_law_370 d_L_law_372 rfl d_L_law_373 d_L_law_374 (by omega) ?_
  refine r_okI (L := L) (L' := L) (adr := adr) (τ := τ) (y := y_J_violations) (o := 0) (dd := 90) [xs (i + 1)] [] C hl.1 hmx hb30 (fun _ _ => rfl) hW (s_J_violations (l31 hb30) (by decide) (pr_violations hLL hN)) rfl (by decide) ok_J_violations (by decide) (by decide) (by decide) (by decide) (by decide) (Nat.le_of_ble_eq_true rfl) w_1893 rfl (by decide) (Nat.le_of_ble_eq_true rfl) hc d_L_law_375 (fun v τ1 H locs hv hW => ?_)
  refine lv_aload_n hx hb d_L_law_378 rfl (lv_at hl 2 rfl) ?_
  refine law_arg (k := 1) (k4 := 0) (k0 := 4) C hsc hLs hW hl rfl rfl d_L_law_379 d_L_law_380 d_L_law_382 rfl d_L_law_383 d_L_law_384 (by omega) ?_
  refine r_okI (L := L) (L' := L) (adr := adr) (τ := τ1) (y := y_K_violations) (o := 12) (dd := 90) [xs (i + 1)] [.int v] C hl.1 hmx hb30 (fun _ _ => rfl) hW (s_K_violations (l31 hb30) (by decide) hv) rfl (by decide) ok_K_violations (by decide) (by decide) (by decide) (by decide) (by decide) (Nat.le_of_ble_eq_true rfl) w_3244 rfl (by decide) (Nat.le_of_ble_eq_true rfl) hc d_L_law_385 (fun v' τ2 H locs hv hW => ?_)
  obtain ⟨e1, hN'⟩ := hv
  refine lv_icmp_eq (tgt := 669) hx hb d_L_law_388 (by decide) (fun _ => kk S τ2 H locs (Nat.le_add_right _ _) ⟨_, _, _, hN'⟩ hW) (fun c0 => absurd (Int32.toInt_inj.mp e1).symm c0)
set_option maxHeartbeats 4000000 in
theorem law_c7 (C : Cx p m c code 7 s #[Value.ref b] R_L D tI tB tZ tL X A) (hmx : ∀ A U, X A U → MX adr A U) (hLL : LLs L rm nd) (hsc : ∀ A U, X A U → scAt b Ls xs A U) (hLs : Ls ≤ 3074) (hi : i + 6 ≤ Ls) (hc : cells ≤ 123806 ∧ slots ≤ 8724654) (hS : S ≤ 1000000000) (hW : Wd D A s (wLW adr L tI tB tZ tL qo fo τ) H locs) (hl : lv_has ls 7 (lvL adr qo b i)) (hN : NX L rm nd S (iS τ) d F P) (kk : Kgo p l e s m b below meth c Q D tI tB tZ tL A L adr qo fo ls cells slots rm nd S) : W p l e room_1 s m #[Value.ref b] below meth c H locs cells slots Q (F0 m 393 ls []) := by
  have hx := C.1.1
  have hb := C.1.2.1
  have hb30 := hLL.2.2.2.2.2.2.2.2.2.2.2
  refine lv_aload_n hx hb d_L_law_393 rfl (lv_at hl 3 rfl) ?_
  refine law_arg (k := 1) (k4 := 0) (k0 := 4) C hsc hLs hW hl rfl rfl d_L_law_394 d_L_law_395 d_L_law_397 rfl d_L_law_398 d_L_law_399 (by omega) ?_
  refine r_okI (L := L) (L' := L) (adr := adr) (τ := τ) (y := y_J_spaces) (o := 0) (dd := 90) [xs (i + 1)] [] C hl.1 hmx hb30 (fun _ _ => rfl) hW (s_J_spaces (l31 hb30) (by decide) (pr_spaces hLL hN)) rfl (by decide) ok_J_spaces (by decide) (by decide) (by decide) (by decide) (by decide) (Nat.le_of_ble_eq_true rfl) w_1897 rfl (by decide) (Nat.le_of_ble_eq_true rfl) hc d_L_law_400 (fun v τ1 H locs hv hW => ?_)
  refine lv_aload_n hx hb d_L_law_403 rfl (lv_at hl 2 rfl) ?_
  refine law_arg (k := 1) (k4 := 0) (k0 := 4) C hsc hLs hW hl rfl rfl d_L_law_404 d_L_law_405 d_L_law_407 rfl d_L_law_408 d_L_law_409 (by omega) ?_
  refine r_okI (L := L) (L' := L) (adr := adr) (τ := τ1) (y := y_K_spaces) (o := 12) (dd := 90) [xs (i + 1)] [.int v] C hl.1 hmx hb30 (fun _ _ => rfl) hW (s_K_spaces (l31 hb30) (by decide) hv) rfl (by decide) ok_K_spaces (by decide) (by decide) (by decide) (by decide) (by decide) (Nat.le_of_ble_eq_true rfl) w_3248 rfl (by decide) (Nat.le_of_ble_eq_true rfl) hc d_L_law_410 (fun v' τ2 H locs hv hW => ?_)
  obtain ⟨e1, hN'⟩ := hv
  refine lv_icmp_eq (tgt := 669) hx hb d_L_law_413 (by decide) (fun _ => kk S τ2 H locs (Nat.le_add_right _ _) ⟨_, _, _, hN'⟩ hW) (fun c0 => absurd (Int32.toInt_inj.mp e1).symm c0)
set_option maxHeartbeats 4000000 in
theorem law_c8 (C : Cx p m c code 7 s #[Value.ref b] R_L D tI tB tZ tL X A) (hmx : ∀ A U, X A U → MX adr A U) (hLL : LLs L rm nd) (hsc : ∀ A U, X A U → scAt b Ls xs A U) (hLs : Ls ≤ 3074) (hi : i + 6 ≤ Ls) (hc : cells ≤ 123806 ∧ slots ≤ 8724654) (hS : S ≤ 1000000000) (hW : Wd D A s (wLW adr L tI tB tZ tL qo fo τ) H locs) (hl : lv_has ls 7 (lvL adr qo b i)) (hN : NX L rm nd S (iS τ) d F P) (kk : Kgo p l e s m b below meth c Q D tI tB tZ tL A L adr qo fo ls cells slots rm nd S) : W p l e room_1 s m #[Value.ref b] below meth c H locs cells slots Q (F0 m 418 ls []) := by
  have hx := C.1.1
  have hb := C.1.2.1
  have hb30 := hLL.2.2.2.2.2.2.2.2.2.2.2
  refine lv_aload_n hx hb d_L_law_418 rfl (lv_at hl 3 rfl) ?_
  refine r_okI (L := L) (L' := L) (adr := adr) (τ := τ) (y := y_J_elements) (o := 0) (dd := 90) [] [] C hl.1 hmx hb30 (fun _ _ => rfl) hW (s_J_elements (l31 hb30) (by decide) (pr_elements hN)) rfl (by decide) ok_J_elements (by decide) (by decide) (by decide) (by decide) (by decide) (Nat.le_of_ble_eq_true rfl) w_1901 rfl (by decide) (Nat.le_of_ble_eq_true rfl) hc d_L_law_419 (fun v τ1 H locs hv hW => ?_)
  refine lv_aload_n hx hb d_L_law_422 rfl (lv_at hl 2 rfl) ?_
  refine r_okI (L := L) (L' := L) (adr := adr) (τ := τ1) (y := y_K_elements) (o := 12) (dd := 90) [] [.int v] C hl.1 hmx hb30 (fun _ _ => rfl) hW (s_K_elements (l31 hb30) (by decide) hv) rfl (by decide) ok_K_elements (by decide) (by decide) (by decide) (by decide) (by decide) (Nat.le_of_ble_eq_true rfl) w_3252 rfl (by decide) (Nat.le_of_ble_eq_true rfl) hc d_L_law_423 (fun v' τ2 H locs hv hW => ?_)
  obtain ⟨e1, hN'⟩ := hv
  refine lv_icmp_eq (tgt := 669) hx hb d_L_law_426 (by decide) (fun _ => kk S τ2 H locs (Nat.le_add_right _ _) ⟨_, _, _, hN'⟩ hW) (fun c0 => absurd (Int32.toInt_inj.mp e1).symm c0)
set_option maxHeartbeats 4000000 in
theorem law_c9 (C : Cx p m c code 7 s #[Value.ref b] R_L D tI tB tZ tL X A) (hmx : ∀ A U, X A U → MX adr A U) (hLL : LLs L rm nd) (hsc : ∀ A U, X A U → scAt b Ls xs A U) (hLs : Ls ≤ 3074) (hi : i + 6 ≤ Ls) (hc : cells ≤ 123806 ∧ slots ≤ 8724654) (hS : S ≤ 1000000000) (hW : Wd D A s (wLW adr L tI tB tZ tL qo fo τ) H locs) (hl : lv_has ls 7 (lvL adr qo b i)) (hN : NX L rm nd S (iS τ) d F P) (kk : Kgo p l e s m b below meth c Q D tI tB tZ tL A L adr qo fo ls cells slots rm nd S) : W p l e room_1 s m #[Value.ref b] below meth c H locs cells slots Q (F0 m 431 ls []) := by
  have hx := C.1.1
  have hb := C.1.2.1
  have hb30 := hLL.2.2.2.2.2.2.2.2.2.2.2
  refine lv_aload_n hx hb d_L_law_431 rfl (lv_at hl 3 rfl) ?_
  refine law_arg (k := 1) (k4 := 0) (k0 := 4) C hsc hLs hW hl rfl rfl d_L_law_432 d_L_law_433 d_L_law_435 rfl d_L_law_436 d_L_law_437 (by omega) ?_
  refine r_okI (L := L) (L' := L) (adr := adr) (τ := τ) (y := y_J_attributes) (o := 0) (dd := 90) [xs (i + 1)] [] C hl.1 hmx hb30 (fun _ _ => rfl) hW (s_J_attributes (l31 hb30) (by decide) (pr_attributes hLL hN)) rfl (by decide) ok_J_attributes (by decide) (by decide) (by decide) (by decide) (by decide) (Nat.le_of_ble_eq_true rfl) w_1905 rfl (by decide) (Nat.le_of_ble_eq_true rfl) hc d_L_law_438 (fun v τ1 H locs hv hW => ?_)
  refine lv_aload_n hx hb d_L_law_441 rfl (lv_at hl 2 rfl) ?_
  refine law_arg (k := 1) (k4 := 0) (k0 := 4) C hsc hLs hW hl rfl rfl d_L_law_442 d_L_law_443 d_L_law_445 rfl d_L_law_446 d_L_law_447 (by omega) ?_
  refine r_okI (L := L) (L' := L) (adr := adr) (τ := τ1) (y := y_K_attributes) (o := 12) (dd := 90) [xs (i + 1)] [.int v] C hl.1 hmx hb30 (fun _ _ => rfl) hW (s_K_attributes (l31 hb30) (by decide) hv) rfl (by decide) ok_K_attributes (by decide) (by decide) (by decide) (by decide) (by decide) (Nat.le_of_ble_eq_true rfl) w_3256 rfl (by decide) (Nat.le_of_ble_eq_true rfl) hc d_L_law_448 (fun v' τ2 H locs hv hW => ?_)
  obtain ⟨e1, hN'⟩ := hv
  refine lv_icmp_eq (tgt := 669) hx hb d_L_law_451 (by decide) (fun _ => kk S τ2 H locs (Nat.le_add_right _ _) ⟨_, _, _, hN'⟩ hW) (fun c0 => absurd (Int32.toInt_inj.mp e1).symm c0)
set_option maxHeartbeats 4000000 in
theorem law_c10 (C : Cx p m c code 7 s #[Value.ref b] R_L D tI tB tZ tL X A) (hmx : ∀ A U, X A U → MX adr A U) (hLL : LLs L rm nd) (hsc : ∀ A U, X A U → scAt b Ls xs A U) (hLs : Ls ≤ 3074) (hi : i + 6 ≤ Ls) (hc : cells ≤ 123806 ∧ slots ≤ 8724654) (hS : S ≤ 1000000000) (hW : Wd D A s (wLW adr L tI tB tZ tL qo fo τ) H locs) (hl : lv_has ls 7 (lvL adr qo b i)) (hN : NX L rm nd S (iS τ) d F P) (kk : Kgo p l e s m b below meth c Q D tI tB tZ tL A L adr qo fo ls cells slots rm nd S) : W p l e room_1 s m #[Value.ref b] below meth c H locs cells slots Q (F0 m 456 ls []) := by
  have hx := C.1.1
  have hb := C.1.2.1
  have hb30 := hLL.2.2.2.2.2.2.2.2.2.2.2
  refine lv_aload_n hx hb d_L_law_456 rfl (lv_at hl 3 rfl) ?_
  refine law_arg (k := 1) (k4 := 0) (k0 := 4) C hsc hLs hW hl rfl rfl d_L_law_457 d_L_law_458 d_L_law_460 rfl d_L_law_461 d_L_law_462 (by omega) ?_
  refine r_okI (L := L) (L' := L) (adr := adr) (τ := τ) (y := y_J_parent) (o := 0) (dd := 90) [xs (i + 1)] [] C hl.1 hmx hb30 (fun _ _ => rfl) hW (s_J_parent (l31 hb30) (by decide) (pr_parent hLL hN)) rfl (by decide) ok_J_parent (by decide) (by decide) (by decide) (by decide) (by decide) (Nat.le_of_ble_eq_true rfl) w_1913 rfl (by decide) (Nat.le_of_ble_eq_true rfl) hc d_L_law_463 (fun v τ1 H locs hv hW => ?_)
  refine lv_aload_n hx hb d_L_law_466 rfl (lv_at hl 2 rfl) ?_
  refine law_arg (k := 1) (k4 := 0) (k0 := 4) C hsc hLs hW hl rfl rfl d_L_law_467 d_L_law_468 d_L_law_470 rfl d_L_law_471 d_L_law_472 (by omega) ?_
  refine r_okI (L := L) (L' := L) (adr := adr) (τ := τ1) (y := y_K_parent) (o := 12) (dd := 90) [xs (i + 1)] [.int v] C hl.1 hmx hb30 (fun _ _ => rfl) hW (s_K_parent (l31 hb30) (by decide) hv) rfl (by decide) ok_K_parent (by decide) (by decide) (by decide) (by decide) (by decide) (Nat.le_of_ble_eq_true rfl) w_3264 rfl (by decide) (Nat.le_of_ble_eq_true rfl) hc d_L_law_473 (fun v' τ2 H locs hv hW => ?_)
  obtain ⟨e1, hN'⟩ := hv
  refine lv_icmp_eq (tgt := 669) hx hb d_L_law_476 (by decide) (fun _ => kk S τ2 H locs (Nat.le_add_right _ _) ⟨_, _, _, hN'⟩ hW) (fun c0 => absurd (Int32.toInt_inj.mp e1).symm c0)
set_option maxHeartbeats 4000000 in
theorem law_c11 (C : Cx p m c code 7 s #[Value.ref b] R_L D tI tB tZ tL X A) (hmx : ∀ A U, X A U → MX adr A U) (hLL : LLs L rm nd) (hsc : ∀ A U, X A U → scAt b Ls xs A U) (hLs : Ls ≤ 3074) (hi : i + 6 ≤ Ls) (hc : cells ≤ 123806 ∧ slots ≤ 8724654) (hS : S ≤ 1000000000) (hW : Wd D A s (wLW adr L tI tB tZ tL qo fo τ) H locs) (hl : lv_has ls 7 (lvL adr qo b i)) (hN : NX L rm nd S (iS τ) d F P) (kk : Kgo p l e s m b below meth c Q D tI tB tZ tL A L adr qo fo ls cells slots rm nd S) : W p l e room_1 s m #[Value.ref b] below meth c H locs cells slots Q (F0 m 481 ls []) := by
  have hx := C.1.1
  have hb := C.1.2.1
  have hb30 := hLL.2.2.2.2.2.2.2.2.2.2.2
  refine lv_aload_n hx hb d_L_law_481 rfl (lv_at hl 3 rfl) ?_
  refine law_arg (k := 1) (k4 := 0) (k0 := 4) C hsc hLs hW hl rfl rfl d_L_law_482 d_L_law_483 d_L_law_485 rfl d_L_law_486 d_L_law_487 (by omega) ?_
  refine law_arg (k := 2) (k4 := 0) (k0 := 4) C hsc hLs hW hl rfl rfl d_L_law_488 d_L_law_489 d_L_law_491 rfl d_L_law_492 d_L_law_493 (by omega) ?_
  refine r_okI (L := L) (L' := L) (adr := adr) (τ := τ) (y := y_J_name) (o := 0) (dd := 90) [xs (i + 1), xs (i + 2)] [] C hl.1 hmx hb30 (fun _ _ => rfl) hW (s_J_name (l31 hb30) (by decide) (pr_name hLL hN)) rfl (by decide) ok_J_name (by decide) (by decide) (by decide) (by decide) (by decide) (Nat.le_of_ble_eq_true rfl) w_1917 rfl (by decide) (Nat.le_of_ble_eq_true rfl) hc d_L_law_494 (fun v τ1 H locs hv hW => ?_)
  refine lv_aload_n hx hb d_L_law_497 rfl (lv_at hl 2 rfl) ?_
  refine law_arg (k := 1) (k4 := 0) (k0 := 4) C hsc hLs hW hl rfl rfl d_L_law_498 d_L_law_499 d_L_law_501 rfl d_L_law_502 d_L_law_503 (by omega) ?_
  refine law_arg (k := 2) (k4 := 0) (k0 := 4) C hsc hLs hW hl rfl rfl d_L_law_504 d_L_law_505 d_L_law_507 rfl d_L_law_508 d_L_law_509 (by omega) ?_
  refine r_okI (L := L) (L' := L) (adr := adr) (τ := τ1) (y := y_K_name) (o := 12) (dd := 90) [xs (i + 1), xs (i + 2)] [.int v] C hl.1 hmx hb30 (fun _ _ => rfl) hW (s_K_name (l31 hb30) (by decide) hv) rfl (by decide) ok_K_name (by decide) (by decide) (by decide) (by decide) (by decide) (Nat.le_of_ble_eq_true rfl) w_3268 rfl (by decide) (Nat.le_of_ble_eq_true rfl) hc d_L_law_510 (fun v' τ2 H locs hv hW => ?_)
  obtain ⟨e1, hN'⟩ := hv
  refine lv_icmp_eq (tgt := 669) hx hb d_L_law_513 (by decide) (fun _ => kk S τ2 H locs (Nat.le_add_right _ _) ⟨_, _, _, hN'⟩ hW) (fun c0 => absurd (Int32.toInt_inj.mp e1).symm c0)
set_option maxHeartbeats 4000000 in
theorem law_c12 (C : Cx p m c code 7 s #[Value.ref b] R_L D tI tB tZ tL X A) (hmx : ∀ A U, X A U → MX adr A U) (hLL : LLs L rm nd) (hsc : ∀ A U, X A U → scAt b Ls xs A U) (hLs : Ls ≤ 3074) (hi : i + 6 ≤ Ls) (hc : cells ≤ 123806 ∧ slots ≤ 8724654) (hS : S ≤ 1000000000) (hW : Wd D A s (wLW adr L tI tB tZ tL qo fo τ) H locs) (hl : lv_has ls 7 (lvL adr qo b i)) (hN : NX L rm nd S (iS τ) d F P) (kk : Kgo p l e s m b below meth c Q D tI tB tZ tL A L adr qo fo ls cells slots rm nd S) : W p l e room_1 s m #[Value.ref b] below meth c H locs cells slots Q (F0 m 518 ls []) := by
  have hx := C.1.1
  have hb := C.1.2.1
  have hb30 := hLL.2.2.2.2.2.2.2.2.2.2.2
  refine lv_aload_n hx hb d_L_law_518 rfl (lv_at hl 3 rfl) ?_
  refine law_arg (k := 1) (k4 := 0) (k0 := 4) C hsc hLs hW hl rfl rfl d_L_law_519 d_L_law_520 d_L_law_522 rfl d_L_law_523 d_L_law_524 (by omega) ?_
  refine law_arg (k := 2) (k4 := 0) (k0 := 4) C hsc hLs hW hl rfl rfl d_L_law_525 d_L_law_526 d_L_law_528 rfl d_L_law_529 d_L_law_530 (by omega) ?_
  refine law_arg (k := 3) (k4 := 0) (k0 := 4) C hsc hLs hW hl rfl rfl d_L_law_531 d_L_law_532 d_L_law_534 rfl d_L_law_535 d_L_law_536 (by omega) ?_
  refine law_arg (k := 4) (k4 := 0) (k0 := 4) C hsc hLs hW hl rfl rfl d_L_law_537 d_L_law_538 d_L_law_540 rfl d_L_law_541 d_L_law_542 (by omega) ?_
  refine r_okI (L := L) (L' := L) (adr := adr) (τ := τ) (y := y_J_attribute) (o := 0) (dd := 90) [xs (i + 1), xs (i + 2), xs (i + 3), xs (i + 4)] [] C hl.1 hmx hb30 (fun _ _ => rfl) hW (s_J_attribute (l31 hb30) (by decide) (pr_attribute hLL hN)) rfl (by decide) ok_J_attribute (by decide) (by decide) (by decide) (by decide) (by decide) (Nat.le_of_ble_eq_true rfl) w_1922 rfl (by decide) (Nat.le_of_ble_eq_true rfl) hc d_L_law_543 (fun v τ1 H locs hv hW => ?_)
  refine lv_aload_n hx hb d_L_law_546 rfl (lv_at hl 2 rfl) ?_
  refine law_arg (k := 1) (k4 := 0) (k0 := 4) C hsc hLs hW hl rfl rfl d_L_law_547 d_L_law_548 d_L_law_550 rfl d_L_law_551 d_L_law_552 (by omega) ?_
  refine law_arg (k := 2) (k4 := 0) (k0 := 4) C hsc hLs hW hl rfl rfl d_L_law_553 d_L_law_554 d_L_law_556 rfl d_L_law_557 d_L_law_558 (by omega) ?_
  refine law_arg (k := 3) (k4 := 0) (k0 := 4) C hsc hLs hW hl rfl rfl d_L_law_559 d_L_law_560 d_L_law_562 rfl d_L_law_563 d_L_law_564 (by omega) ?_
  refine law_arg (k := 4) (k4 := 0) (k0 := 4) C hsc hLs hW hl rfl rfl d_L_law_565 d_L_law_566 d_L_law_568 rfl d_L_law_569 d_L_law_570 (by omega) ?_
  refine r_okI (L := L) (L' := L) (adr := adr) (τ := τ1) (y := y_K_attribute) (o := 12) (dd := 90) [xs (i + 1), xs (i + 2), xs (i + 3), xs (i + 4)] [.int v] C hl.1 hmx hb30 (fun _ _ => rfl) hW (s_K_attribute (l31 hb30) (by decide) hv) rfl (by decide) ok_K_attribute (by decide) (by decide) (by decide) (by decide) (by decide) (Nat.le_of_ble_eq_true rfl) w_3278 rfl (by decide) (Nat.le_of_ble_eq_true rfl) hc d_L_law_571 (fun v' τ2 H locs hv hW => ?_)
  obtain ⟨e1, hN'⟩ := hv
  refine lv_icmp_eq (tgt := 669) hx hb d_L_law_574 (by decide) (fun _ => kk S τ2 H locs (Nat.le_add_right _ _) ⟨_, _, _, hN'⟩ hW) (fun c0 => absurd (Int32.toInt_inj.mp e1).symm c0)
set_option maxHeartbeats 4000000 in
theorem law_c13 (C : Cx p m c code 7 s #[Value.ref b] R_L D tI tB tZ tL X A) (hmx : ∀ A U, X A U → MX adr A U) (hLL : LLs L rm nd) (hsc : ∀ A U, X A U → scAt b Ls xs A U) (hLs : Ls ≤ 3074) (hi : i + 6 ≤ Ls) (hc : cells ≤ 123806 ∧ slots ≤ 8724654) (hS : S ≤ 1000000000) (hW : Wd D A s (wLW adr L tI tB tZ tL qo fo τ) H locs) (hl : lv_has ls 7 (lvL adr qo b i)) (hN : NX L rm nd S (iS τ) d F P) (kk : Kgo p l e s m b below meth c Q D tI tB tZ tL A L adr qo fo ls cells slots rm nd S) : W p l e room_1 s m #[Value.ref b] below meth c H locs cells slots Q (F0 m 579 ls []) := by
  have hx := C.1.1
  have hb := C.1.2.1
  have hb30 := hLL.2.2.2.2.2.2.2.2.2.2.2
  refine lv_aload_n hx hb d_L_law_579 rfl (lv_at hl 3 rfl) ?_
  refine r_okI (L := L) (L' := L) (adr := adr) (τ := τ) (y := y_J_characters) (o := 0) (dd := 90) [] [] C hl.1 hmx hb30 (fun _ _ => rfl) hW (s_J_characters (l31 hb30) (by decide) (pr_characters hN)) rfl (by decide) ok_J_characters (by decide) (by decide) (by decide) (by decide) (by decide) (Nat.le_of_ble_eq_true rfl) w_1926 rfl (by decide) (Nat.le_of_ble_eq_true rfl) hc d_L_law_580 (fun v τ1 H locs hv hW => ?_)
  refine lv_aload_n hx hb d_L_law_583 rfl (lv_at hl 2 rfl) ?_
  refine r_okI (L := L) (L' := L) (adr := adr) (τ := τ1) (y := y_K_characters) (o := 12) (dd := 90) [] [.int v] C hl.1 hmx hb30 (fun _ _ => rfl) hW (s_K_characters (l31 hb30) (by decide) hv) rfl (by decide) ok_K_characters (by decide) (by decide) (by decide) (by decide) (by decide) (Nat.le_of_ble_eq_true rfl) w_3282 rfl (by decide) (Nat.le_of_ble_eq_true rfl) hc d_L_law_584 (fun v' τ2 H locs hv hW => ?_)
  obtain ⟨e1, hN'⟩ := hv
  refine lv_icmp_eq (tgt := 669) hx hb d_L_law_587 (by decide) (fun _ => kk S τ2 H locs (Nat.le_add_right _ _) ⟨_, _, _, hN'⟩ hW) (fun c0 => absurd (Int32.toInt_inj.mp e1).symm c0)
set_option maxHeartbeats 4000000 in
theorem law_c14 (C : Cx p m c code 7 s #[Value.ref b] R_L D tI tB tZ tL X A) (hmx : ∀ A U, X A U → MX adr A U) (hLL : LLs L rm nd) (hsc : ∀ A U, X A U → scAt b Ls xs A U) (hLs : Ls ≤ 3074) (hi : i + 6 ≤ Ls) (hc : cells ≤ 123806 ∧ slots ≤ 8724654) (hS : S ≤ 1000000000) (hW : Wd D A s (wLW adr L tI tB tZ tL qo fo τ) H locs) (hl : lv_has ls 7 (lvL adr qo b i)) (hN : NX L rm nd S (iS τ) d F P) (kk : Kgo p l e s m b below meth c Q D tI tB tZ tL A L adr qo fo ls cells slots rm nd S) : W p l e room_1 s m #[Value.ref b] below meth c H locs cells slots Q (F0 m 592 ls []) := by
  have hx := C.1.1
  have hb := C.1.2.1
  have hb30 := hLL.2.2.2.2.2.2.2.2.2.2.2
  refine lv_aload_n hx hb d_L_law_592 rfl (lv_at hl 3 rfl) ?_
  refine r_okI (L := L) (L' := L) (adr := adr) (τ := τ) (y := y_J_counted) (o := 0) (dd := 90) [] [] C hl.1 hmx hb30 (fun _ _ => rfl) hW (s_J_counted (l31 hb30) (by decide) (pr_counted hN)) rfl (by decide) ok_J_counted (by decide) (by decide) (by decide) (by decide) (by decide) (Nat.le_of_ble_eq_true rfl) w_1930 rfl (by decide) (Nat.le_of_ble_eq_true rfl) hc d_L_law_593 (fun v τ1 H locs hv hW => ?_)
  refine lv_aload_n hx hb d_L_law_596 rfl (lv_at hl 2 rfl) ?_
  refine r_okI (L := L) (L' := L) (adr := adr) (τ := τ1) (y := y_K_counted) (o := 12) (dd := 90) [] [.int v] C hl.1 hmx hb30 (fun _ _ => rfl) hW (s_K_counted (l31 hb30) (by decide) hv) rfl (by decide) ok_K_counted (by decide) (by decide) (by decide) (by decide) (by decide) (Nat.le_of_ble_eq_true rfl) w_3286 rfl (by decide) (Nat.le_of_ble_eq_true rfl) hc d_L_law_597 (fun v' τ2 H locs hv hW => ?_)
  obtain ⟨e1, hN'⟩ := hv
  refine lv_icmp_eq (tgt := 669) hx hb d_L_law_600 (by decide) (fun _ => kk S τ2 H locs (Nat.le_add_right _ _) ⟨_, _, _, hN'⟩ hW) (fun c0 => absurd (Int32.toInt_inj.mp e1).symm c0)
set_option maxHeartbeats 4000000 in
theorem law_c15 (C : Cx p m c code 7 s #[Value.ref b] R_L D tI tB tZ tL X A) (hmx : ∀ A U, X A U → MX adr A U) (hLL : LLs L rm nd) (hsc : ∀ A U, X A U → scAt b Ls xs A U) (hLs : Ls ≤ 3074) (hi : i + 6 ≤ Ls) (hc : cells ≤ 123806 ∧ slots ≤ 8724654) (hS : S ≤ 1000000000) (hW : Wd D A s (wLW adr L tI tB tZ tL qo fo τ) H locs) (hl : lv_has ls 7 (lvL adr qo b i)) (hN : NX L rm nd S (iS τ) d F P) (kk : Kgo p l e s m b below meth c Q D tI tB tZ tL A L adr qo fo ls cells slots rm nd S) : W p l e room_1 s m #[Value.ref b] below meth c H locs cells slots Q (F0 m 605 ls []) := by
  have hx := C.1.1
  have hb := C.1.2.1
  have hb30 := hLL.2.2.2.2.2.2.2.2.2.2.2
  refine lv_aload_n hx hb d_L_law_605 rfl (lv_at hl 3 rfl) ?_
  refine r_okI (L := L) (L' := L) (adr := adr) (τ := τ) (y := y_J_canonical) (o := 0) (dd := 90) [] [] C hl.1 hmx hb30 (fun _ _ => rfl) hW (s_J_canonical (l31 hb30) (by decide) (pr_canonical hLL hN)) rfl (by decide) ok_J_canonical (by decide) (by decide) (by decide) (by decide) (by decide) (Nat.le_of_ble_eq_true rfl) w_1934 rfl (by decide) (Nat.le_of_ble_eq_true rfl) hc d_L_law_606 (fun v τ1 H locs hv hW => ?_)
  refine lv_aload_n hx hb d_L_law_609 rfl (lv_at hl 2 rfl) ?_
  refine r_okI (L := L) (L' := L) (adr := adr) (τ := τ1) (y := y_K_canonical) (o := 12) (dd := 90) [] [.int v] C hl.1 hmx hb30 (fun _ _ => rfl) hW (s_K_canonical (l31 hb30) (by decide) hv) rfl (by decide) ok_K_canonical (by decide) (by decide) (by decide) (by decide) (by decide) (Nat.le_of_ble_eq_true rfl) w_3290 rfl (by decide) (Nat.le_of_ble_eq_true rfl) hc d_L_law_610 (fun v' τ2 H locs hv hW => ?_)
  obtain ⟨e1, F', hN'⟩ := hv
  refine lv_icmp_eq (tgt := 669) hx hb d_L_law_613 (by decide) (fun _ => kk S τ2 H locs (Nat.le_add_right _ _) ⟨_, _, _, hN'⟩ hW) (fun c0 => absurd (Int32.toInt_inj.mp e1).symm c0)
set_option maxHeartbeats 4000000 in
theorem law_c16 (C : Cx p m c code 7 s #[Value.ref b] R_L D tI tB tZ tL X A) (hmx : ∀ A U, X A U → MX adr A U) (hLL : LLs L rm nd) (hsc : ∀ A U, X A U → scAt b Ls xs A U) (hLs : Ls ≤ 3074) (hi : i + 6 ≤ Ls) (hc : cells ≤ 123806 ∧ slots ≤ 8724654) (hS : S ≤ 1000000000) (hW : Wd D A s (wLW adr L tI tB tZ tL qo fo τ) H locs) (hl : lv_has ls 7 (lvL adr qo b i)) (hN : NX L rm nd S (iS τ) d F P) (kk : Kgo p l e s m b below meth c Q D tI tB tZ tL A L adr qo fo ls cells slots rm nd S) : W p l e room_1 s m #[Value.ref b] below meth c H locs cells slots Q (F0 m 618 ls []) := by
  have hx := C.1.1
  have hb := C.1.2.1
  have hb30 := hLL.2.2.2.2.2.2.2.2.2.2.2
  refine lv_aload_n hx hb d_L_law_618 rfl (lv_at hl 3 rfl) ?_
  refine law_arg (k := 1) (k4 := 0) (k0 := 4) C hsc hLs hW hl rfl rfl d_L_law_619 d_L_law_620 d_L_law_622 rfl d_L_law_623 d_L_law_624 (by omega) ?_
  refine r_okI (L := L) (L' := L) (adr := adr) (τ := τ) (y := y_J_out) (o := 0) (dd := 90) [xs (i + 1)] [] C hl.1 hmx hb30 (fun _ _ => rfl) hW (s_J_out (l31 hb30) (by decide) (pr_out hLL hN)) rfl (by decide) ok_J_out (by decide) (by decide) (by decide) (by decide) (by decide) (Nat.le_of_ble_eq_true rfl) w_2026 rfl (by decide) (Nat.le_of_ble_eq_true rfl) hc d_L_law_625 (fun v τ1 H locs hv hW => ?_)
  refine lv_aload_n hx hb d_L_law_628 rfl (lv_at hl 2 rfl) ?_
  refine law_arg (k := 1) (k4 := 0) (k0 := 4) C hsc hLs hW hl rfl rfl d_L_law_629 d_L_law_630 d_L_law_632 rfl d_L_law_633 d_L_law_634 (by omega) ?_
  refine r_okI (L := L) (L' := L) (adr := adr) (τ := τ1) (y := y_K_out) (o := 12) (dd := 90) [xs (i + 1)] [.int v] C hl.1 hmx hb30 (fun _ _ => rfl) hW (s_K_out (l31 hb30) (by decide) hv) rfl (by decide) ok_K_out (by decide) (by decide) (by decide) (by decide) (by decide) (Nat.le_of_ble_eq_true rfl) w_3414 rfl (by decide) (Nat.le_of_ble_eq_true rfl) hc d_L_law_635 (fun v' τ2 H locs hv hW => ?_)
  obtain ⟨e1, hN'⟩ := hv
  refine lv_icmp_eq (tgt := 669) hx hb d_L_law_638 (by decide) (fun _ => kk S τ2 H locs (Nat.le_add_right _ _) ⟨_, _, _, hN'⟩ hW) (fun c0 => absurd (Int32.toInt_inj.mp e1).symm c0)
set_option maxHeartbeats 4000000 in
theorem law_c17 (C : Cx p m c code 7 s #[Value.ref b] R_L D tI tB tZ tL X A) (hmx : ∀ A U, X A U → MX adr A U) (hLL : LLs L rm nd) (hsc : ∀ A U, X A U → scAt b Ls xs A U) (hLs : Ls ≤ 3074) (hi : i + 6 ≤ Ls) (hc : cells ≤ 123806 ∧ slots ≤ 8724654) (hS : S ≤ 1000000000) (hW : Wd D A s (wLW adr L tI tB tZ tL qo fo τ) H locs) (hl : lv_has ls 7 (lvL adr qo b i)) (hN : NX L rm nd S (iS τ) d F P) (kk : Kgo p l e s m b below meth c Q D tI tB tZ tL A L adr qo fo ls cells slots rm nd S) : W p l e room_1 s m #[Value.ref b] below meth c H locs cells slots Q (F0 m 643 ls []) := by
  have hx := C.1.1
  have hb := C.1.2.1
  have hb30 := hLL.2.2.2.2.2.2.2.2.2.2.2
  refine lv_aload_n hx hb d_L_law_643 rfl (lv_at hl 3 rfl) ?_
  refine r_okI (L := L) (L' := L) (adr := adr) (τ := τ) (y := y_J_back) (o := 0) (dd := 90) [] [] C hl.1 hmx hb30 (fun _ _ => rfl) hW (s_J_back (l31 hb30) (by decide) (pr_back hLL hN)) rfl (by decide) ok_J_back (by decide) (by decide) (by decide) (by decide) (by decide) (Nat.le_of_ble_eq_true rfl) w_2030 rfl (by decide) (Nat.le_of_ble_eq_true rfl) hc d_L_law_644 (fun v τ1 H locs hv hW => ?_)
  refine lv_aload_n hx hb d_L_law_647 rfl (lv_at hl 2 rfl) ?_
  refine r_okI (L := L) (L' := L) (adr := adr) (τ := τ1) (y := y_K_back) (o := 12) (dd := 90) [] [.int v] C hl.1 hmx hb30 (fun _ _ => rfl) hW (s_K_back (l31 hb30) (by decide) hv) rfl (by decide) ok_K_back (by decide) (by decide) (by decide) (by decide) (by decide) (Nat.le_of_ble_eq_true rfl) w_3418 rfl (by decide) (Nat.le_of_ble_eq_true rfl) hc d_L_law_648 (fun v' τ2 H locs hv hW => ?_)
  obtain ⟨e1, F', hN'⟩ := hv
  refine lv_icmp_eq (tgt := 669) hx hb d_L_law_651 (by decide) (fun _ => kk S τ2 H locs (Nat.le_add_right _ _) ⟨_, _, _, hN'⟩ hW) (fun c0 => absurd (Int32.toInt_inj.mp e1).symm c0)
set_option maxHeartbeats 4000000 in
theorem law_c18 (C : Cx p m c code 7 s #[Value.ref b] R_L D tI tB tZ tL X A) (hmx : ∀ A U, X A U → MX adr A U) (hLL : LLs L rm nd) (hsc : ∀ A U, X A U → scAt b Ls xs A U) (hLs : Ls ≤ 3074) (hi : i + 6 ≤ Ls) (hc : cells ≤ 123806 ∧ slots ≤ 8724654) (hS : S ≤ 1000000000) (hW : Wd D A s (wLW adr L tI tB tZ tL qo fo τ) H locs) (hl : lv_has ls 7 (lvL adr qo b i)) (hN : NX L rm nd S (iS τ) d F P) (kk : Kgo p l e s m b below meth c Q D tI tB tZ tL A L adr qo fo ls cells slots rm nd S) : W p l e room_1 s m #[Value.ref b] below meth c H locs cells slots Q (F0 m 656 ls []) := by
  have hx := C.1.1
  have hb := C.1.2.1
  have hb30 := hLL.2.2.2.2.2.2.2.2.2.2.2
  refine lv_aload_n hx hb d_L_law_656 rfl (lv_at hl 3 rfl) ?_
  refine r_okI (L := L) (L' := L) (adr := adr) (τ := τ) (y := y_J_steady) (o := 0) (dd := 90) [] [] C hl.1 hmx hb30 (fun _ _ => rfl) hW (s_J_steady (l31 hb30) (by decide) (pr_steady hLL hN)) rfl (by decide) ok_J_steady (by decide) (by decide) (by decide) (by decide) (by decide) (Nat.le_of_ble_eq_true rfl) w_2035 rfl (by decide) (Nat.le_of_ble_eq_true rfl) hc d_L_law_657 (fun v τ1 H locs hv hW => ?_)
  refine lv_aload_n hx hb d_L_law_660 rfl (lv_at hl 2 rfl) ?_
  refine r_okI (L := L) (L' := L) (adr := adr) (τ := τ1) (y := y_K_steady) (o := 12) (dd := 90) [] [.int v] C hl.1 hmx hb30 (fun _ _ => rfl) hW (s_K_steady (l31 hb30) (by decide) hv) rfl (by decide) ok_K_steady (by decide) (by decide) (by decide) (by decide) (by decide) (Nat.le_of_ble_eq_true rfl) w_3422 rfl (by decide) (Nat.le_of_ble_eq_true rfl) hc d_L_law_661 (fun v' τ2 H locs hv hW => ?_)
  obtain ⟨e1, hN'⟩ := hv
  refine lv_icmp_eq (tgt := 669) hx hb d_L_law_664 (by decide) (fun _ => kk S τ2 H locs (Nat.le_add_right _ _) ⟨_, _, _, hN'⟩ hW) (fun c0 => absurd (Int32.toInt_inj.mp e1).symm c0)
end L10
