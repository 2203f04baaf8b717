/-! ===== the law's own feed and end ===== -/
/-- the class's own object -/
def va_E_of (adr : Nat → Nat) (τ : MS) : va_E := .inr (0, [.ref (adr 100), .int (τ.1 0 1), .ref (adr 1), .ref (adr 2), .ref (adr 3), .ref (adr 4), .ref (adr 5), .ref (adr 6), .ref (adr 7), .ref (adr 8), .ref (adr 10), .ref (adr 11), .int (τ.1 0 12), .int (τ.1 0 13), .int (τ.1 0 14)])
theorem rng_all {α : Type} (w : List α) : (List.range w.length).map (fun i => w[i]?) = w.map some := by
  apply List.ext_getElem?
  intro i
  rw [List.getElem?_map, List.getElem?_map]
  by_cases hi : i < w.length
  · rw [List.getElem?_range hi, List.getElem?_eq_getElem hi, Option.map_some, Option.map_some, List.getElem?_eq_getElem hi]
  · rw [List.getElem?_eq_none (by rw [List.length_range]; omega), List.getElem?_eq_none (by omega)]; rfl
section L8
variable {L : Nat → Nat} {adr : Nat → Nat} {τ : MS}
set_option maxHeartbeats 4000000 in
/-- the law's feed, where the class takes the bytes -/
theorem c_L_feedO (l : Launch) (D : va_G) (tI tB tZ tL : ClassId) (X : (Nat → Prop) → State → Prop) (hX : Ro X) (hmx : ∀ A U, X A U → MX adr A U) (hb30 : ∀ r, L r < 1073741824) {v1 v2 v3 v4 v5 : Int32} {Q0 : IS → Prop} (hok : OkI BF L 1 0 b_J_feed 6 0 0 [] [some (.inr 0), some (.inl v1.toInt), some (.inl v2.toInt), some (.inl v3.toInt), some (.inl v4.toInt), some (.inl v5.toInt)] (iS τ) (qv Q0)) :
    CtIW l D tI tB tZ tL X y_L_feed b_L_feed 7 .int [(0, 11, 14, 13)] ({ frames := 10, cells := 0, slots := 0, locals := 500 }) [.ref (adr 0), .int v1, .int v2, .int v3, .int v4, .int v5] (wld BF adr (LNf L) tI tB tZ τ) (S := MS) (fun (r : Int32) (τ' : MS) => r = 0 ∧ Q0 (iS τ')) (fun τ' => wld BF adr (LNf L) tI tB tZ τ') := by
  refine CtIW.start hX (by decide) (Nat.le_of_ble_eq_true rfl) ?_
  intro p e s m args below meth c A ls C hr hlk htb hW hl
  refine W.nameQ (fun Q hQ => ?_)
  have hx := C.1.1
  have hb := C.1.2.1
  have hl : lv_has ls 7 [(0, .ref (adr 0)), (1, .int v1), (2, .int v2), (3, .int v3), (4, .int v4), (5, .int v5)] := hl
  refine lv_aload_n hx hb d_L_feed_0 rfl (lv_at hl 0 rfl) ?_
  refine lv_iload_n hx hb d_L_feed_1 rfl (lv_at hl 1 rfl) ?_
  refine lv_iload_n hx hb d_L_feed_2 rfl (lv_at hl 2 rfl) ?_
  refine lv_iload_n hx hb d_L_feed_3 rfl (lv_at hl 3 rfl) ?_
  refine lv_iload hx hb d_L_feed_4 (lv_at hl 4 rfl) ?_
  refine lv_iload hx hb d_L_feed_6 (lv_at hl 5 rfl) ?_
  obtain ⟨n0, r, τ', h1, h2⟩ := hok [] (mlv 0 [.inr 0, .inl v1, .inl v2, .inl v3, .inl v4, .inl v5]) τ rfl (LR_args [.inr 0, .inl v1, .inl v2, .inl v3, .inl v4, .inl v5]) rfl
  obtain ⟨e1, h3⟩ := h2
  cases r with
  | some v => cases e1
  | none =>
    have hln : ∀ q, LNf L q < 2 ^ 30 := fun q => hb30 (100 + q)
    have hct := sim_ctV (adr := adr) (tI := tI) (tB := tB) (tZ := tZ) (tL := tL) (l := l) (D := D) (av := [.inr 0, .inl v1, .inl v2, .inl v3, .inl v4, .inl v5]) (y := y_J_feed) (oc := 0) hX (sim_ok hX hmx hln n0) (by decide) (by decide) (Nat.le_of_ble_eq_true rfl) (h1 n0 (Nat.le_refl _))
    refine r_callV [.int v1, .int v2, .int v3, .int v4, .int v5] [] C hl.1 hW hct ok_J_feed w_2046 (wr := []) (List.range (nW BF)) [] wld_rng rfl nd_rng rfl (fun i hi => absurd hi List.not_mem_nil) 0 (wld_o (B := BF) (o := 0) (by decide)) k_J rfl (by decide) (Nat.le_of_ble_eq_true rfl) (by decide) d_L_feed_8 (fun u H locs _ hW => ?_)
    have hW : Wd D A s (wld BF adr (LNf L) tI tB tZ τ') H locs := hW
    refine lv_goto (tgt := 18) hx hb d_L_feed_11 (by decide) ?_
    refine lv_iconst (v := 0) hx hb d_L_feed_18 (by decide) ?_
    rw [hQ]
    exact r_iret C hr hlk hW rfl τ' ⟨rfl, h3⟩ (List.range (nW BF)) nd_rng wld_rng d_L_feed_19 (by decide) (by decide)
set_option maxHeartbeats 4000000 in
/-- the law's feed, where the class throws -/
theorem c_L_feedT (l : Launch) (D : va_G) (tI tB tZ tL : ClassId) (X : (Nat → Prop) → State → Prop) (hX : Ro X) {v1 v2 v3 v4 v5 : Int32} (hbad : ¬ τ.1 0 1 ≤ 65516) (htr : l.stackTraces = false) (sq : Nat) (tx : String) (hk : ∀ A U, X A U → vk_R "MarkupJudge" 116 tx sq U) (hex : ∀ A U, X A U → exOkS A U) :
    CtIW l D tI tB tZ tL X y_L_feed b_L_feed 7 .int [(0, 11, 14, 13)] ({ frames := 7, cells := 1, slots := 6, locals := 120 }) [.ref (adr 0), .int v1, .int v2, .int v3, .int v4, .int v5] (wld BF adr (LNf L) tI tB tZ τ) (S := Unit) (fun (r : Int32) (_ : Unit) => r = 1) (fun _ => wld BF adr (LNf L) tI tB tZ τ) := by
  refine CtIW.start hX (by decide) (Nat.le_of_ble_eq_true rfl) ?_
  intro p e s m args below meth c A ls C hr hlk htb hW hl
  refine W.nameQ (fun Q hQ => ?_)
  have hx := C.1.1
  have hb := C.1.2.1
  have hl : lv_has ls 7 [(0, .ref (adr 0)), (1, .int v1), (2, .int v2), (3, .int v3), (4, .int v4), (5, .int v5)] := hl
  refine lv_aload_n hx hb d_L_feed_0 rfl (lv_at hl 0 rfl) ?_
  refine lv_iload_n hx hb d_L_feed_1 rfl (lv_at hl 1 rfl) ?_
  refine lv_iload_n hx hb d_L_feed_2 rfl (lv_at hl 2 rfl) ?_
  refine lv_iload_n hx hb d_L_feed_3 rfl (lv_at hl 3 rfl) ?_
  refine lv_iload hx hb d_L_feed_4 (lv_at hl 4 rfl) ?_
  refine lv_iload hx hb d_L_feed_6 (lv_at hl 5 rfl) ?_
  obtain ⟨x, hxt, hx1⟩ := List.map_eq_singleton_iff.mp htb
  have e1 : x.startPc = 0 := congrArg Prod.fst hx1
  have e2 : x.endPc = 11 := congrArg (fun z => z.2.1) hx1
  have e3 : x.handlerPc = 14 := congrArg (fun z => z.2.2.1) hx1
  have e4 : x.catchType = 13 := congrArg (fun z => z.2.2.2) hx1
  have hC0 : [0].map (fun i => (wld BF adr (LNf L) tI tB tZ τ)[i]?) = [(adr 0, va_E_of adr τ)].map some := by
    have := wld_o (B := BF) (adr := adr) (ln := LNf L) (tI := tI) (tB := tB) (tZ := tZ) (σ := τ) (o := 0) (by decide)
    show [(wld BF adr (LNf L) tI tB tZ τ)[0]?] = _
    rw [show (wld BF adr (LNf L) tI tB tZ τ)[0]? = some (mobj adr τ.1 0) from this]
    rfl
  refine r_callVt [.int v1, .int v2, .int v3, .int v4, .int v5] [] C hl.1 hW (c_J_feed_thr l D tI tB tZ tL X hX (adr 0) (adr 100) (adr 1) (adr 2) (adr 3) (adr 4) (adr 5) (adr 6) (adr 7) (adr 8) (adr 10) (adr 11) (τ.1 0 12) (τ.1 0 13) (τ.1 0 14) v1 v2 v3 v4 v5 (τ.1 0 1) hbad htr sq tx hk hex) ok_J_feed w_2046 [0] hC0 (by decide) 0 rfl k_J rfl (by decide) (Nat.le_of_ble_eq_true rfl) (by decide) d_L_feed_8 x hxt (by simp [covers, e1, e2]) (by rw [e4]; decide) (by rw [e4]; exact wS_4) (fun q H hW => ?_)
  rw [e3]
  refine lv_astore (lv' := [(6, .ref q), (0, .ref (adr 0)), (1, .int v1), (2, .int v2), (3, .int v3), (4, .int v4), (5, .int v5)]) hx hb d_L_feed_14 hl (by decide) rfl (fun ls hl => ?_)
  refine lv_iconst (v := 1) hx hb d_L_feed_16 (by decide) ?_
  rw [hQ]
  exact r_iret C hr hlk hW rfl () rfl (List.range (nW BF)) nd_rng wld_rng d_L_feed_17 (by decide) (by decide)
set_option maxHeartbeats 4000000 in
/-- the law's end, where the class answers -/
theorem c_L_endO (l : Launch) (D : va_G) (tI tB tZ tL : ClassId) (X : (Nat → Prop) → State → Prop) (hX : Ro X) (hmx : ∀ A U, X A U → MX adr A U) (hb30 : ∀ r, L r < 1073741824) {n : Int32} {qo : Nat} {fo : Nat → Int64} (h0 : ¬ n < 0) (h1 : n ≤ τ.1 0 1) :
    CtIW l D tI tB tZ tL X y_L_end b_L_end 4 .int [(0, 9, 12, 19)] ({ frames := 10, cells := 0, slots := 0, locals := 500 }) [.ref (adr 0), .int n, .ref qo] ((qo, .inl (tL, 1, .inr (.inl fo))) :: wld BF adr (LNf L) tI tB tZ τ) (S := MS) (fun (r : Int32) (τ' : MS) => r = 0 ∧ iS τ' = pf (iS τ) 0 1 n.toInt) (fun τ' => (qo, .inl (tL, 1, .inr (.inl (vp_updL fo 0 (τ.1 0 1).toInt64)))) :: wld BF adr (LNf L) tI tB tZ τ') := by
  refine CtIW.start hX (by decide) (Nat.le_of_ble_eq_true rfl) ?_
  intro p e s m args below meth c A ls C hr hlk htb hW hl
  refine W.nameQ (fun Q hQ => ?_)
  have hx := C.1.1
  have hb := C.1.2.1
  have hl : lv_has ls 4 [(0, .ref (adr 0)), (1, .int n), (2, .ref qo)] := hl
  refine lv_aload_n hx hb d_L_end_0 rfl (lv_at hl 2 rfl) ?_
  refine lv_iconst (v := 0) hx hb d_L_end_1 (by decide) ?_
  refine lv_aload_n hx hb d_L_end_2 rfl (lv_at hl 0 rfl) ?_
  refine lv_iload_n hx hb d_L_end_3 rfl (lv_at hl 1 rfl) ?_
  have hn0 : ¬ n.toInt < 0 := fun z => h0 (Int32.lt_iff_toInt_lt.mpr z)
  have hn1 : ¬ (iS τ).1 0 1 < n.toInt := fun z => by
    have z : (τ.1 0 1).toInt < n.toInt := z
    have := Int32.le_iff_toInt_le.mp h1
    omega
  have hok := s_J_end (L := L) (d := 1) (Q := fun v σ' => v = (τ.1 0 1).toInt ∧ σ' = pf (iS τ) 0 1 n.toInt) (σ := iS τ) hn0 hn1 ⟨rfl, rfl⟩
  refine r_okI (L := L) (L' := L) (adr := adr) (τ := τ) (y := y_J_end) (o := 0) [n] [.int 0, .ref qo] C hl.1 hmx hb30 (fun _ _ => rfl) hW hok rfl (by decide) ok_J_end (by decide) (by decide) (by decide) (by decide) (by decide) (Nat.le_of_ble_eq_true rfl) w_2075 rfl (by decide) (Nat.le_of_ble_eq_true rfl) (by decide) d_L_end_4 (fun v τ' H locs hv hW => ?_)
  obtain ⟨v1, v2⟩ := hv
  have v1 : v = τ.1 0 1 := Int32.toInt_inj.mp v1
  subst v1
  refine lv_i2l hx hb d_L_end_7 rfl ?_
  refine r_stL C hW 0 rfl 0 rfl (by decide) (by decide) d_L_end_8 (fun H locs hW => ?_)
  have hW : Wd D A s ((qo, .inl (tL, 1, .inr (.inl (vp_updL fo 0 (τ.1 0 1).toInt64)))) :: wld BF adr (LNf L) tI tB tZ τ') H locs := hW
  refine lv_goto (tgt := 15) hx hb d_L_end_9 (by decide) ?_
  refine lv_iconst (v := 0) hx hb d_L_end_15 (by decide) ?_
  rw [hQ]
  have hrg := rng_all ((qo, .inl (tL, 1, .inr (.inl (vp_updL fo 0 (τ.1 0 1).toInt64)))) :: wld BF adr (LNf L) tI tB tZ τ' : va_W)
  exact r_iret C hr hlk hW rfl τ' ⟨rfl, v2⟩ _ (va_nd_of List.nodup_range) hrg d_L_end_16 (by decide) (by decide)
set_option maxHeartbeats 4000000 in
/-- the law's end, where the class throws -/
theorem c_L_endT (l : Launch) (D : va_G) (tI tB tZ tL : ClassId) (X : (Nat → Prop) → State → Prop) (hX : Ro X) {n : Int32} {qo : Nat} {fo : Nat → Int64} (hbad : n < 0 ∨ τ.1 0 1 < n) (htr : l.stackTraces = false) (sq : Nat) (hk : ∀ A U, X A U → vk_R "MarkupJudge" 126 "not so many bytes" sq U) (hex : ∀ A U, X A U → exOk A U) :
    CtIW l D tI tB tZ tL X y_L_end b_L_end 4 .int [(0, 9, 12, 19)] ({ frames := 7, cells := 1, slots := 6, locals := 112 }) [.ref (adr 0), .int n, .ref qo] ((qo, .inl (tL, 1, .inr (.inl fo))) :: wld BF adr (LNf L) tI tB tZ τ) (S := Unit) (fun (r : Int32) (_ : Unit) => r = 1) (fun _ => (qo, .inl (tL, 1, .inr (.inl fo))) :: wld BF adr (LNf L) tI tB tZ τ) := by
  refine CtIW.start hX (by decide) (Nat.le_of_ble_eq_true rfl) ?_
  intro p e s m args below meth c A ls C hr hlk htb hW hl
  refine W.nameQ (fun Q hQ => ?_)
  have hx := C.1.1
  have hb := C.1.2.1
  have hl : lv_has ls 4 [(0, .ref (adr 0)), (1, .int n), (2, .ref qo)] := hl
  refine lv_aload_n hx hb d_L_end_0 rfl (lv_at hl 2 rfl) ?_
  refine lv_iconst (v := 0) hx hb d_L_end_1 (by decide) ?_
  refine lv_aload_n hx hb d_L_end_2 rfl (lv_at hl 0 rfl) ?_
  refine lv_iload_n hx hb d_L_end_3 rfl (lv_at hl 1 rfl) ?_
  obtain ⟨x, hxt, hx1⟩ := List.map_eq_singleton_iff.mp htb
  have e1 : x.startPc = 0 := congrArg Prod.fst hx1
  have e2 : x.endPc = 9 := congrArg (fun z => z.2.1) hx1
  have e3 : x.handlerPc = 12 := congrArg (fun z => z.2.2.1) hx1
  have e4 : x.catchType = 19 := congrArg (fun z => z.2.2.2) hx1
  have hC0 : [1].map (fun i => ((qo, .inl (tL, 1, .inr (.inl fo))) :: wld BF adr (LNf L) tI tB tZ τ : va_W)[i]?) = [(adr 0, va_E_of adr τ)].map some := by
    have := wld_o (B := BF) (adr := adr) (ln := LNf L) (tI := tI) (tB := tB) (tZ := tZ) (σ := τ) (o := 0) (by decide)
    show [(wld BF adr (LNf L) tI tB tZ τ)[0]?] = _
    rw [show (wld BF adr (LNf L) tI tB tZ τ)[0]? = some (mobj adr τ.1 0) from this]
    rfl
  refine r_callVt [.int n] [.int 0, .ref qo] C hl.1 hW (c_J_end_thr l D tI tB tZ tL X hX (adr 0) (adr 100) (adr 1) (adr 2) (adr 3) (adr 4) (adr 5) (adr 6) (adr 7) (adr 8) (adr 10) (adr 11) (τ.1 0 12) (τ.1 0 13) (τ.1 0 14) n (τ.1 0 1) hbad htr sq hk hex) ok_J_end w_2075 [1] hC0 (by decide) 0 rfl k_J rfl (by decide) (Nat.le_of_ble_eq_true rfl) (by decide) d_L_end_4 x hxt (by simp [covers, e1, e2]) (by rw [e4]; decide) (by rw [e4]; exact w_2074) (fun q H hW => ?_)
  rw [e3]
  refine lv_astore_n (lv' := [(3, .ref q), (0, .ref (adr 0)), (1, .int n), (2, .ref qo)]) hx hb d_L_end_12 rfl hl (by decide) rfl (fun ls hl => ?_)
  refine lv_iconst (v := 1) hx hb d_L_end_13 (by decide) ?_
  rw [hQ]
  have hrg := rng_all ((qo, .inl (tL, 1, .inr (.inl fo))) :: wld BF adr (LNf L) tI tB tZ τ : va_W)
  exact r_iret C hr hlk hW rfl () rfl _ (va_nd_of List.nodup_range) hrg d_L_end_14 (by decide) (by decide)
end L8
