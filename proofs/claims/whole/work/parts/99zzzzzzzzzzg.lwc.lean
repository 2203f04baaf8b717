/-! ===== the law's loop ===== -/
section L12
variable {p : Program} {e : Env} {s : State} {m : MethodId} {below : List Frame} {meth : Method} {c : Code} {l : Launch} {b Ls : Nat} {xs : Nat → Int32} {D : va_G} {tI tB tZ tL : ClassId} {X : (Nat → Prop) → State → Prop} {A : Nat → Prop} {L adr : Nat → Nat} {qo rm nd q3 q4 : Nat} {tx : String}
theorem NX.mono {S S' : Nat} {σ : IS} {d : DOC} {F P : List Int} (h : NX L rm nd S σ d F P) (hS : S ≤ S') : NX L rm nd S' σ d F P := by
  obtain ⟨⟨⟨z1, z2, z3, z4, z5, z6, z7, z8⟩, j2⟩, h2⟩ := h
  exact ⟨⟨⟨z1, z2, z3, z4, ⟨⟨z5.1.1, by have := z5.1.2; omega⟩, z5.2⟩, z6, z7, z8⟩, j2⟩, h2⟩
set_option maxHeartbeats 4000000 in
theorem law_loop (C : Cx p m c code 7 s #[Value.ref b] R_L D tI tB tZ tL X A) (hA0 : A = fun q => s.heap.size ≤ q) (hr : meth.sig.returnType = ret) (hlk : meth.locks = false) (hmx : ∀ A U, X A U → MX adr A U) (hLL : LLs L rm nd) (hsc : ∀ A U, X A U → scAt b Ls xs A U) (hLs : Ls ≤ 3074) (htr : l.stackTraces = false) (hk0 : ∀ A U, X A U → vk_R "MarkupJudge" 116 tx q4 U) (hexS : ∀ A U, X A U → exOkS A U) (hk1 : ∀ A U, X A U → vk_R "MarkupJudge" 126 "not so many bytes" q3 U) (hex : ∀ A U, X A U → exOk A U) (c0 s0 : Nat) (hc0 : c0 ≤ 1000) (hs0 : s0 ≤ 8000000) :
    ∀ (fu it : Nat) (fo : Nat → Int64) (τ : MS) (H : Heap) (locs : List Loc) (ls : Array Slot), Ls < 2 + 6 * (it + fu) → it ≤ 512 → (∃ d F P, NX L rm nd (1000000 * it) (iS τ) d F P) → Wd D A s (wLW adr L tI tB tZ tL qo fo τ) H locs → lv_has ls 7 (lvL adr qo b (2 + 6 * it)) → W p l e room_1 s m #[Value.ref b] below meth c H locs (c0 + it) (s0 + 6 * it) (lw_Z below #[Value.ref b] s) (F0 m 43 ls []) := by
  have hx := C.1.1
  have hb := C.1.2.1
  have hS := hsc A s C.2.2.2.1
  have out : ∀ (it : Nat) (fo : Nat → Int64) (τ : MS) (H : Heap) (locs : List Loc) (ls : Array Slot), it ≤ 512 → Wd D A s (wLW adr L tI tB tZ tL qo fo τ) H locs → W p l e room_1 s m #[Value.ref b] below meth c H locs (c0 + it) (s0 + 6 * it) (lw_Z below #[Value.ref b] s) (F0 m 675 ls []) := fun it fo τ H locs ls h5 hW => by
    refine lv_iconst (v := 1) hx hb d_L_law_675 (by decide) ?_
    refine va_forget (fun q hq => by have z := hW.2.2.2.2 q hq; rw [hA0] at z; exact z) ?_
    refine W.widen (k := 123806) (n := 8724654) (by omega) (by omega) ?_
    exact lw_ret hx hb hr hlk d_L_law_676
  intro fu
  induction fu with
  | zero =>
    intro it fo τ H locs ls h1 h2 h3 hW hl
    exact law_head C hsc hLs (by omega) hW hl (fun _ => out it fo τ H locs ls h2 hW) (fun z => absurd z (by omega))
  | succ fu ih =>
    intro it fo τ H locs ls h1 h2 h3 hW hl
    refine law_head C hsc hLs (by omega) hW hl (fun _ => out it fo τ H locs ls h2 hW) (fun hi => ?_)
    obtain ⟨d, F, P, hN⟩ := h3
    refine lv_aload_n hx hb d_L_law_53 rfl (lv_at hl 4 rfl) ?_
    refine lv_iload hx hb d_L_law_54 (lv_at hl 0 rfl) ?_
    refine va_sld hx hb hS.1 hS.2.1 hS.2.2 hW.2.2 (vp_in_nI (by omega) (by omega)) d_L_law_56 ?_
    refine lv_bipush (v := 31) hx hb d_L_law_57 (by decide) ?_
    obtain ⟨j, hj, ej⟩ := pk_andE (xs (nI (2 + 6 * it)).toNatClampNeg) (m := 31) 5 (by decide)
    refine lv_iand hx hb d_L_law_59 ?_
    refine W.eq (congrArg (fun z : Int32 => F0 m 60 ls (.int z :: [])) (show ((xs (nI (2 + 6 * it)).toNatClampNeg) &&& 31) = nI j from ej)) ?_
    have hSb : 1000000 * it ≤ 1000000000 := by omega
    have hc : c0 + it ≤ 123806 ∧ s0 + 6 * it ≤ 8724654 := by omega
    have hc1 : c0 + it + 1 ≤ 123806 ∧ s0 + 6 * it + 6 ≤ 8724654 := by omega
    have nx : ∀ (fo : Nat → Int64) (τ : MS) (H : Heap) (locs : List Loc) (ls : Array Slot), (∃ d F P, NX L rm nd (1000000 * (it + 1)) (iS τ) d F P) → Wd D A s (wLW adr L tI tB tZ tL qo fo τ) H locs → lv_has ls 7 (lvL adr qo b (2 + 6 * it + 6)) → W p l e room_1 s m #[Value.ref b] below meth c H locs (c0 + it + 1) (s0 + 6 * it + 6) (lw_Z below #[Value.ref b] s) (F0 m 43 ls []) := fun fo τ H locs ls g1 g2 g3 => ih (it + 1) fo τ H locs ls (by omega) (by omega) g1 g2 g3
    have go : Kgo p l e s m b below meth c (lw_Z below #[Value.ref b] s) D tI tB tZ tL A L adr qo fo ls (c0 + it) (s0 + 6 * it) rm nd (1000000 * it) := fun S' τ' H' locs' g1 g2 g3 => by
      refine law_back (k4 := 0) (adr := adr) (qo := qo) (i := 2 + 6 * it) C hl rfl (by simp) (by simp) (by simp) (by simp) (fun ls hl => ?_)
      refine W.widen (k := c0 + it + 1) (n := s0 + 6 * it + 6) (by omega) (by omega) ?_
      obtain ⟨d, F, P, g4⟩ := g2
      exact nx fo τ' H' locs' ls ⟨d, F, P, g4.mono (by omega)⟩ g3 hl
    have go2 : Kgo2 p l e s m b below meth c (lw_Z below #[Value.ref b] s) D tI tB tZ tL A L adr qo (2 + 6 * it) (c0 + it + 1) (s0 + 6 * it + 6) rm nd (1000000 * it) := fun lv k4 fo' ls' τ' H' locs' e1 e2 e3 e4 e5 e6 g2 g3 => by
      refine law_back (k4 := k4) (adr := adr) (qo := qo) (i := 2 + 6 * it) C e1 e2 e3 e4 e5 e6 (fun ls hl => ?_)
      obtain ⟨d, F, P, g4⟩ := g2
      exact nx fo' τ' H' locs' ls ⟨d, F, P, g4.mono (by omega)⟩ g3 hl
    rcases (show j = 0 ∨ j = 1 ∨ j = 2 ∨ j = 3 ∨ j = 4 ∨ j = 5 ∨ j = 6 ∨ j = 7 ∨ j = 8 ∨ j = 9 ∨ j = 10 ∨ j = 11 ∨ j = 12 ∨ j = 13 ∨ j = 14 ∨ j = 15 ∨ j = 16 ∨ j = 17 ∨ j = 18 ∨ 19 ≤ j by omega) with rfl | rfl | rfl | rfl | rfl | rfl | rfl | rfl | rfl | rfl | rfl | rfl | rfl | rfl | rfl | rfl | rfl | rfl | rfl | h19
    · refine lv_tableIn (off := 92) (tgt := 152) hx hb d_L_law_60 (by decide) (by decide) rfl (by decide) ?_
      exact law_c0 C hmx hLL hsc hLs hi hc1 hW hl hN htr hk0 hexS go2
    · refine lv_tableIn (off := 176) (tgt := 236) hx hb d_L_law_60 (by decide) (by decide) rfl (by decide) ?_
      exact law_c1 C hmx hLL hsc hLs hi hc1 hW hl hN htr hk1 hex go2
    · refine lv_tableIn (off := 232) (tgt := 292) hx hb d_L_law_60 (by decide) (by decide) rfl (by decide) ?_
      exact law_c2 C hmx hLL hsc hLs hi hc hSb hW hl hN go
    · refine lv_tableIn (off := 269) (tgt := 329) hx hb d_L_law_60 (by decide) (by decide) rfl (by decide) ?_
      exact law_c3 C hmx hLL hsc hLs hi hc hSb hW hl hN go
    · refine lv_tableIn (off := 282) (tgt := 342) hx hb d_L_law_60 (by decide) (by decide) rfl (by decide) ?_
      exact law_c4 C hmx hLL hsc hLs hi hc hSb hW hl hN go
    · refine lv_tableIn (off := 295) (tgt := 355) hx hb d_L_law_60 (by decide) (by decide) rfl (by decide) ?_
      exact law_c5 C hmx hLL hsc hLs hi hc hSb hW hl hN go
    · refine lv_tableIn (off := 308) (tgt := 368) hx hb d_L_law_60 (by decide) (by decide) rfl (by decide) ?_
      exact law_c6 C hmx hLL hsc hLs hi hc hSb hW hl hN go
    · refine lv_tableIn (off := 333) (tgt := 393) hx hb d_L_law_60 (by decide) (by decide) rfl (by decide) ?_
      exact law_c7 C hmx hLL hsc hLs hi hc hSb hW hl hN go
    · refine lv_tableIn (off := 358) (tgt := 418) hx hb d_L_law_60 (by decide) (by decide) rfl (by decide) ?_
      exact law_c8 C hmx hLL hsc hLs hi hc hSb hW hl hN go
    · refine lv_tableIn (off := 371) (tgt := 431) hx hb d_L_law_60 (by decide) (by decide) rfl (by decide) ?_
      exact law_c9 C hmx hLL hsc hLs hi hc hSb hW hl hN go
    · refine lv_tableIn (off := 396) (tgt := 456) hx hb d_L_law_60 (by decide) (by decide) rfl (by decide) ?_
      exact law_c10 C hmx hLL hsc hLs hi hc hSb hW hl hN go
    · refine lv_tableIn (off := 421) (tgt := 481) hx hb d_L_law_60 (by decide) (by decide) rfl (by decide) ?_
      exact law_c11 C hmx hLL hsc hLs hi hc hSb hW hl hN go
    · refine lv_tableIn (off := 458) (tgt := 518) hx hb d_L_law_60 (by decide) (by decide) rfl (by decide) ?_
      exact law_c12 C hmx hLL hsc hLs hi hc hSb hW hl hN go
    · refine lv_tableIn (off := 519) (tgt := 579) hx hb d_L_law_60 (by decide) (by decide) rfl (by decide) ?_
      exact law_c13 C hmx hLL hsc hLs hi hc hSb hW hl hN go
    · refine lv_tableIn (off := 532) (tgt := 592) hx hb d_L_law_60 (by decide) (by decide) rfl (by decide) ?_
      exact law_c14 C hmx hLL hsc hLs hi hc hSb hW hl hN go
    · refine lv_tableIn (off := 545) (tgt := 605) hx hb d_L_law_60 (by decide) (by decide) rfl (by decide) ?_
      exact law_c15 C hmx hLL hsc hLs hi hc hSb hW hl hN go
    · refine lv_tableIn (off := 558) (tgt := 618) hx hb d_L_law_60 (by decide) (by decide) rfl (by decide) ?_
      exact law_c16 C hmx hLL hsc hLs hi hc hSb hW hl hN go
    · refine lv_tableIn (off := 583) (tgt := 643) hx hb d_L_law_60 (by decide) (by decide) rfl (by decide) ?_
      exact law_c17 C hmx hLL hsc hLs hi hc hSb hW hl hN go
    · refine lv_tableIn (off := 596) (tgt := 656) hx hb d_L_law_60 (by decide) (by decide) rfl (by decide) ?_
      exact law_c18 C hmx hLL hsc hLs hi hc hSb hW hl hN go
    · refine lv_tableOut (tgt := 669) hx hb d_L_law_60 (Or.inr (by rw [nI_toInt (by omega)]; omega)) (by decide) ?_
      exact go (1000000 * it) τ H locs (by omega) ⟨d, F, P, hN⟩ hW
end L12
