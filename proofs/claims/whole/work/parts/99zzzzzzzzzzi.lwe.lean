/-! ===== the store, as its constructor leaves it ===== -/
/-- the rows of the store alone -/
def stL (cl ms sl : Nat) : Nat → Nat := fun r => if r = 101 then cl else if r = 106 then sl else ms
def gOf (τ : MS) : Nat → Nat → Int32 := fun k => if k = 0 then τ.2 2 else if k = 1 then τ.2 3 else if k = 2 then τ.2 4 else if k = 3 then τ.2 5 else if k = 4 then τ.2 6 else τ.2 1
def stIS (g : Nat → Nat → Int32) : IS := (fun o k => if o = 1 then (if k = 3 then 143 else if k = 14 then 19 else 0) else 0, fun r i => if r = 101 then (g 5 i).toInt else if r = 102 then (g 0 i).toInt else if r = 103 then (g 1 i).toInt else if r = 104 then (g 2 i).toInt else if r = 105 then (g 3 i).toInt else if r = 106 then (g 4 i).toInt else 0)
def STf (cl ms sl wd : Nat) (g : Nat → Nat → Int32) : Prop := wd = 19 ∧ SI (stL cl ms sl) (stIS g) ∧ jch (stL cl ms sl) (stIS g) ∧ ∀ i, i < 19 → wst (stIS g) i = ti (1064 + i)
def adSt (adr : Nat → Nat) (h0 qc qf qz qh qn qd qm : Nat) : Nat → Nat := fun k => if k = 1 then h0 else if k = 101 then qc else if k = 102 then qf else if k = 103 then qz else if k = 104 then qh else if k = 105 then qn else if k = 106 then qd else if k = 107 then qm else if k = 155 then qm else adr k
def st0 (room : Nat) (fd : Nat → Int32) : MS := (fun o k => if o = 1 then (if k = 0 then nI room else 0) else 0, fun q => if q = 6 then fd else fun _ => 0)
theorem mks_ge : ∀ oc, oc < 17 → ∀ e ∈ ksT.getD oc [], ∀ s, e.2 = .inr s → 1000 ≤ s := by
  have key : ∀ oc, oc < 17 → ∀ e ∈ ksT.getD oc [], (match e.2 with | .inl _ => true | .inr s => Nat.ble 1000 s) = true := by decide +kernel
  intro oc ho e he s hs
  have := key oc ho e he
  rw [hs] at this
  exact Nat.le_of_ble_eq_true this
theorem mks_1000 {oc idx s : Nat} (h : mks oc idx = some (.inr s)) : 1000 ≤ s := by
  unfold mks at h
  cases hf : (ksT.getD oc []).find? (fun e => e.1 == idx) with
  | none => rw [hf] at h; cases h
  | some e =>
    rw [hf] at h
    have hm := List.mem_of_find?_eq_some hf
    have ho : oc < 17 := by
      rcases Nat.lt_or_ge oc 17 with z | z
      · exact z
      · rw [show ksT.getD oc [] = [] by rw [List.getD_eq_getElem?_getD, List.getElem?_eq_none (show ksT.length ≤ oc from z)]; rfl] at hm
        cases hm
    exact mks_ge oc ho e hm s (Option.some.inj h)
theorem MX.ext {adr adr' : Nat → Nat} (he : ∀ k, 1000 ≤ k → adr' k = adr k) {A : Nat → Prop} {U : State} (h : MX adr A U) : MX adr' A U := by
  obtain ⟨h1, h2, h3, h4, h5, h6, h7⟩ := h
  refine ⟨h1, fun s bs hs => ?_, fun oc idx s hs => ?_, fun r lst hr => ?_, ?_, ?_, h7⟩
  · have : 1000 ≤ s := by
      unfold stx at hs
      split at hs
      · assumption
      · cases hs
    rw [he s this, he (3000 + s) (by omega)]
    exact h2 s bs hs
  · rw [he s (mks_1000 hs)]
    exact h3 oc idx s hs
  · have : 2000 ≤ r := by
      unfold srow at hr
      split at hr
      · assumption
      · cases hr
    rw [he r (by omega)]
    exact h4 r lst hr
  · rw [he 2000 (by omega)]; exact h5
  · rw [he 2001 (by omega)]; exact h6
theorem adSt_e {adr : Nat → Nat} {h0 qc qf qz qh qn qd qm : Nat} : ∀ k, 1000 ≤ k → adSt adr h0 qc qf qz qh qn qd qm k = adr k := fun k hk => by
  unfold adSt
  rw [if_neg (by omega), if_neg (by omega), if_neg (by omega), if_neg (by omega), if_neg (by omega), if_neg (by omega), if_neg (by omega), if_neg (by omega), if_neg (by omega)]
theorem KI_0 {room cl ms sl : Nat} {fd : Nat → Int32} (hr : room < 2147483648) (hfd : ∀ j, j < sl → fd j = -1) : KI (stL cl ms sl) room 0 (iS (st0 room fd)) := by
  have z14 : (iS (st0 room fd)).1 1 14 = 0 := rfl
  have z3 : (iS (st0 room fd)).1 1 3 = 0 := rfl
  refine ⟨⟨⟨by rw [z14]; omega, by rw [z14]; omega, by rw [z3]; omega, by rw [z3]; omega⟩, fun w hw => by rw [z14] at hw; omega, fun b hb => ?_, fun w v hw => by rw [z14] at hw; omega⟩, fun i hi => ?_, rfl, rfl, fun i hi => absurd hi (Nat.not_lt_zero _), ⟨nI_i hr, fun j hj => ?_⟩, fun i => rfl⟩
  · rw [z14]
    show (fd b).toInt = -1
    rw [hfd b hb]
    rfl
  · have : (iS (st0 room fd)).2 101 i = 0 := rfl
    rw [this]
    omega
  · rcases hj with rfl | rfl | rfl | rfl | rfl | rfl <;> rfl
theorem SL_stL {cl ms sl : Nat} (h1 : 0 < sl) (h2 : sl < 1000000) (h3 : ms < 1000000) (h4 : cl < 1000000) : SL (stL cl ms sl) := ⟨rfl, rfl, rfl, rfl, h1, h2, h3, h4⟩
/-- when nineteen words are kept -/
theorem KI.st {room cl ms sl : Nat} {τ : MS} (h : KI (stL cl ms sl) room 19 (iS τ)) : STf cl ms sl 19 (gOf τ) ∧ τ.1 1 14 = nI 19 ∧ τ.1 1 3 = nI 143 := by
  obtain ⟨a1, a2, a3, a4, a5, a6, a8⟩ := h
  have e14 : (iS τ).1 1 14 = 19 := by have := a1.jw_le.1; omega
  have e3 : (iS τ).1 1 3 = 143 := by have := a1.jtp_le.1; rw [tpN_19] at a4; omega
  refine ⟨⟨rfl, ?_, ?_, ?_⟩, Int32.toInt_inj.mp e14, Int32.toInt_inj.mp e3⟩
  · have hr : ∀ r, 101 ≤ r → r ≤ 106 → (stIS (gOf τ)).2 r = (iS τ).2 r := fun r h1 h2 => by
      rcases (show r = 101 ∨ r = 102 ∨ r = 103 ∨ r = 104 ∨ r = 105 ∨ r = 106 by omega) with rfl | rfl | rfl | rfl | rfl | rfl <;> rfl
    exact (SI_of a1 (σ' := stIS (gOf τ)) (by rw [e14]; rfl) (by rw [e3, show (stIS (gOf τ)).1 1 3 = 143 from rfl]; have := a1.1; omega) (fun r y1 y2 => hr r (by omega) y2) (fun i _ => by rw [hr 101 (by omega) (by omega)])).1
  · exact a2
  · intro i hi
    rw [← a5 i hi]
    rfl
section Ks
variable {p : Program} {l : Launch} {e : Env} {R : Room} {s : State} {m : MethodId} {args : Array Value} {below : List Frame} {meth : Method} {c : Code} {H : Heap} {locs : List Loc} {cells slots : Nat} {Q : State → Prop} {D : va_G} {tI tB tZ tL : ClassId} {X : (Nat → Prop) → State → Prop} {A : Nat → Prop} {ls : Array Slot} {L adr : Nat → Nat} {τ : MS} {lv : List (Nat × Value)} {room : Nat}
theorem r_keep1 {pc idx k k3 : Nat} (hk : k < 19) (C : Cx p m c b_Store_init 5 s args y_Store_init.cls D tI tB tZ tL X A) (hl : lv_has ls 5 lv) (h3 : lv[k3]? = some (0, .ref (adr 1))) (hmx : ∀ A U, X A U → MX adr A U) (hb : ∀ r, L r < 1073741824) (hSL : SL L) (h101 : 143 ≤ L 101) (h102 : 19 ≤ L 102) (hro : 11 ≤ R.frames ∧ 560 ≤ R.locals) (hf : cells ≤ R.cells ∧ slots ≤ R.slots) (d1 : decode b_Store_init pc = .ok (.aload_n 0, 1)) (d2 : decode b_Store_init (pc + 1) = .ok (.ldc idx, 2)) (hm : mks 1 idx = some (.inr (1064 + k))) (d3 : decode b_Store_init (pc + 3) = .ok (.invokevirtual 52, 3)) (hK : KI L room k (iS τ)) (hW : Wd D A s (wld BSt adr (LNf L) tI tB tZ τ) H locs)
    (kk : ∀ (τ' : MS) (H1 : Heap) (locs1 : List Loc), KI L room (k + 1) (iS τ') → Wd D A s (wld BSt adr (LNf L) tI tB tZ τ') H1 locs1 → W p l e R s m args below meth c H1 locs1 cells slots Q (F0 m (pc + 6) ls [])) : W p l e R s m args below meth c H locs cells slots Q (F0 m pc ls []) := by
  have hx := C.1.1
  have hb' := C.1.2.1
  have hown := C.1.2.2.2.1
  refine lv_aload_n hx hb' d1 rfl (lv_at hl k3 h3) ?_
  obtain ⟨tx, ht⟩ := (hmx A s C.2.2.2.1).2.2.1 1 idx (1064 + k) hm
  refine va_ldcS hx hb' hown ht d2 ?_
  exact r_keep (Q0 := KI L room (k + 1)) C hl.1 hmx hb hW (wd_T k hk) (hK.step hSL h101 h102 hk) w_59 hro hf d3 kk
set_option maxHeartbeats 4000000 in
theorem r_keeps {k3 : Nat} (C : Cx p m c b_Store_init 5 s args y_Store_init.cls D tI tB tZ tL X A) (hl : lv_has ls 5 lv) (h3 : lv[k3]? = some (0, .ref (adr 1))) (hmx : ∀ A U, X A U → MX adr A U) (hb : ∀ r, L r < 1073741824) (hSL : SL L) (h101 : 143 ≤ L 101) (h102 : 19 ≤ L 102) (hro : 11 ≤ R.frames ∧ 560 ≤ R.locals) (hf : cells ≤ R.cells ∧ slots ≤ R.slots) (hK0 : KI L room 0 (iS τ)) (hW : Wd D A s (wld BSt adr (LNf L) tI tB tZ τ) H locs)
    (kk : ∀ (τ' : MS) (H1 : Heap) (locs1 : List Loc), KI L room 19 (iS τ') → Wd D A s (wld BSt adr (LNf L) tI tB tZ τ') H1 locs1 → W p l e R s m args below meth c H1 locs1 cells slots Q (F0 m 226 ls [])) : W p l e R s m args below meth c H locs cells slots Q (F0 m 112 ls []) := by
  refine r_keep1 (k := 0) (pc := 112) (idx := 50) (by decide) C hl h3 hmx hb hSL h101 h102 hro hf d_Store_init_112 d_Store_init_113 (by decide +kernel) d_Store_init_115 hK0 hW (fun τ1 H locs hK1 hW => ?_)
  refine r_keep1 (k := 1) (pc := 118) (idx := 56) (by decide) C hl h3 hmx hb hSL h101 h102 hro hf d_Store_init_118 d_Store_init_119 (by decide +kernel) d_Store_init_121 hK1 hW (fun τ2 H locs hK2 hW => ?_)
  refine r_keep1 (k := 2) (pc := 124) (idx := 58) (by decide) C hl h3 hmx hb hSL h101 h102 hro hf d_Store_init_124 d_Store_init_125 (by decide +kernel) d_Store_init_127 hK2 hW (fun τ3 H locs hK3 hW => ?_)
  refine r_keep1 (k := 3) (pc := 130) (idx := 60) (by decide) C hl h3 hmx hb hSL h101 h102 hro hf d_Store_init_130 d_Store_init_131 (by decide +kernel) d_Store_init_133 hK3 hW (fun τ4 H locs hK4 hW => ?_)
  refine r_keep1 (k := 4) (pc := 136) (idx := 62) (by decide) C hl h3 hmx hb hSL h101 h102 hro hf d_Store_init_136 d_Store_init_137 (by decide +kernel) d_Store_init_139 hK4 hW (fun τ5 H locs hK5 hW => ?_)
  refine r_keep1 (k := 5) (pc := 142) (idx := 64) (by decide) C hl h3 hmx hb hSL h101 h102 hro hf d_Store_init_142 d_Store_init_143 (by decide +kernel) d_Store_init_145 hK5 hW (fun τ6 H locs hK6 hW => ?_)
  refine r_keep1 (k := 6) (pc := 148) (idx := 66) (by decide) C hl h3 hmx hb hSL h101 h102 hro hf d_Store_init_148 d_Store_init_149 (by decide +kernel) d_Store_init_151 hK6 hW (fun τ7 H locs hK7 hW => ?_)
  refine r_keep1 (k := 7) (pc := 154) (idx := 68) (by decide) C hl h3 hmx hb hSL h101 h102 hro hf d_Store_init_154 d_Store_init_155 (by decide +kernel) d_Store_init_157 hK7 hW (fun τ8 H locs hK8 hW => ?_)
  refine r_keep1 (k := 8) (pc := 160) (idx := 70) (by decide) C hl h3 hmx hb hSL h101 h102 hro hf d_Store_init_160 d_Store_init_161 (by decide +kernel) d_Store_init_163 hK8 hW (fun τ9 H locs hK9 hW => ?_)
  refine r_keep1 (k := 9) (pc := 166) (idx := 72) (by decide) C hl h3 hmx hb hSL h101 h102 hro hf d_Store_init_166 d_Store_init_167 (by decide +kernel) d_Store_init_169 hK9 hW (fun τ10 H locs hK10 hW => ?_)
  refine r_keep1 (k := 10) (pc := 172) (idx := 74) (by decide) C hl h3 hmx hb hSL h101 h102 hro hf d_Store_init_172 d_Store_init_173 (by decide +kernel) d_Store_init_175 hK10 hW (fun τ11 H locs hK11 hW => ?_)
  refine r_keep1 (k := 11) (pc := 178) (idx := 76) (by decide) C hl h3 hmx hb hSL h101 h102 hro hf d_Store_init_178 d_Store_init_179 (by decide +kernel) d_Store_init_181 hK11 hW (fun τ12 H locs hK12 hW => ?_)
  refine r_keep1 (k := 12) (pc := 184) (idx := 78) (by decide) C hl h3 hmx hb hSL h101 h102 hro hf d_Store_init_184 d_Store_init_185 (by decide +kernel) d_Store_init_187 hK12 hW (fun τ13 H locs hK13 hW => ?_)
  refine r_keep1 (k := 13) (pc := 190) (idx := 80) (by decide) C hl h3 hmx hb hSL h101 h102 hro hf d_Store_init_190 d_Store_init_191 (by decide +kernel) d_Store_init_193 hK13 hW (fun τ14 H locs hK14 hW => ?_)
  refine r_keep1 (k := 14) (pc := 196) (idx := 82) (by decide) C hl h3 hmx hb hSL h101 h102 hro hf d_Store_init_196 d_Store_init_197 (by decide +kernel) d_Store_init_199 hK14 hW (fun τ15 H locs hK15 hW => ?_)
  refine r_keep1 (k := 15) (pc := 202) (idx := 84) (by decide) C hl h3 hmx hb hSL h101 h102 hro hf d_Store_init_202 d_Store_init_203 (by decide +kernel) d_Store_init_205 hK15 hW (fun τ16 H locs hK16 hW => ?_)
  refine r_keep1 (k := 16) (pc := 208) (idx := 86) (by decide) C hl h3 hmx hb hSL h101 h102 hro hf d_Store_init_208 d_Store_init_209 (by decide +kernel) d_Store_init_211 hK16 hW (fun τ17 H locs hK17 hW => ?_)
  refine r_keep1 (k := 17) (pc := 214) (idx := 88) (by decide) C hl h3 hmx hb hSL h101 h102 hro hf d_Store_init_214 d_Store_init_215 (by decide +kernel) d_Store_init_217 hK17 hW (fun τ18 H locs hK18 hW => ?_)
  refine r_keep1 (k := 18) (pc := 220) (idx := 90) (by decide) C hl h3 hmx hb hSL h101 h102 hro hf d_Store_init_220 d_Store_init_221 (by decide +kernel) d_Store_init_223 hK18 hW (fun τ19 H locs hK19 hW => ?_)
  exact kk τ19 H locs hK19 hW
end Ks
set_option maxHeartbeats 4000000 in
set_option maxRecDepth 100000 in
theorem c_Store_init2 (l : Launch) (D : va_G) (tI tB tZ tL : ClassId) (X : (Nat → Prop) → State → Prop) (hX : Ro X) (h0 room : Nat) (h64 : 64 ≤ room) (h98 : room ≤ 98304) (adr : Nat → Nat) (hmx : ∀ A U, X A U → MX adr A U) : CtV l D tI tB tZ tL X y_Store_init b_Store_init 5 ({ frames := 12, cells := 7, slots := 508608, locals := 600 }) [.ref h0, .int (nI room)] [(h0, .inr (1, [.int 0, .null, .int 0, .int 0, .int 0, .int 0, .int 0, .null, .null, .null, .null, .null, .int 0, .int 0, .int 0, .null, .int 0]))] (S := (Nat → Nat) × Nat × Nat × Int32 × (Nat → Nat → Int32)) (fun u => STf (256 + min room 65536 + room) (room / 2 + 64) u.2.1 u.2.2.1 u.2.2.2.2 ∧ u.2.2.1 ≤ 19 ∧ ∃ ee, u.2.1 = 2 ^ ee ∧ u.2.1 < 98432) (fun u => [(h0, .inr (1, [.int (nI room), .ref (u.1 0), .int (nI 143), .int (nI 143), .int 0, .int 0, .int 0, .ref (u.1 1), .ref (u.1 2), .ref (u.1 3), .ref (u.1 4), .ref (u.1 5), .int (nI u.2.2.1), .int u.2.2.2.1, .int (nI u.2.2.1), .ref (u.1 6), .int 0])), ((u.1 0), .inl (tI, (256 + min room 65536 + room), .inl (u.2.2.2.2 5))), ((u.1 1), .inl (tI, (room / 2 + 64), .inl (u.2.2.2.2 0))), ((u.1 2), .inl (tI, (room / 2 + 64), .inl (u.2.2.2.2 1))), ((u.1 3), .inl (tI, (room / 2 + 64), .inl (u.2.2.2.2 2))), ((u.1 4), .inl (tI, (room / 2 + 64), .inl (u.2.2.2.2 3))), ((u.1 5), .inl (tI, u.2.1, .inl (u.2.2.2.2 4))), ((u.1 6), .inl (tI, (room / 2 + 64), .inl (fun _ => 0)))]) := by
  refine CtV.start hX (by decide) (Nat.le_of_ble_eq_true rfl) ?_
  intro p e s m args below meth c A ls C hr hlk hin hW hl
  refine W.nameQ (fun Q hQ => ?_)
  have hx := C.1.1
  have hb := C.1.2.1
  have hown := C.1.2.2.2.1
  have hT := C.1.2.2.2.2
  have hin : meth.name = "<init>" := hin
  have hl : lv_has ls 5 [(0, .ref h0), (1, .int (nI room))] := hl
  refine lv_aload_n hx hb d_Store_init_0 rfl (lv_at hl 0 rfl) ?_
  refine r_objInit C hl.1 w_50 (by decide) (Nat.le_of_ble_eq_true rfl) d_Store_init_1 ?_
  refine lv_aload_n hx hb d_Store_init_4 rfl (lv_at hl 0 rfl) ?_
  refine lv_iload_n hx hb d_Store_init_5 rfl (lv_at hl 1 rfl) ?_
  refine r_putF (v := .int (nI room)) (ty := .int) C hW 0 rfl k_Store i_Store t_Store o_Store n_Store 0 (by decide) w_142 rfl hin rfl (by decide +kernel) rfl rfl (Nat.le_of_ble_eq_true rfl) d_Store_init_6 (fun H locs hW => ?_)
  have hW : Wd D A s [(h0, .inr (1, [.int (nI room), .null, .int 0, .int 0, .int 0, .int 0, .int 0, .null, .null, .null, .null, .null, .int 0, .int 0, .int 0, .null, .int 0]))] H _ := hW
  refine lv_aload_n hx hb d_Store_init_9 rfl (lv_at hl 0 rfl) ?_
  refine lv_sipush (v := 256) hx hb d_Store_init_10 (by decide) ?_
  refine lv_iload_n hx hb d_Store_init_13 rfl (lv_at hl 1 rfl) ?_
  refine lv_ldc (v := 65536) hx hb hown (hT _ w_51) d_Store_init_14 ?_
  refine r_min C hl.1 w_52 (by decide) (Nat.le_of_ble_eq_true rfl) (by decide) (by decide) (room) (65536) rfl rfl (by omega) (by decide) d_Store_init_16 ?_
  refine lv_iadd hx hb d_Store_init_19 ?_
  refine W.eq (congrArg (fun z : Int32 => F0 m 20 ls (.int z :: [.ref h0])) (show (256 + (nI (min room 65536))) = nI (256 + min room 65536) from (nI_add 256 _))) ?_
  refine lv_iload_n hx hb d_Store_init_20 rfl (lv_at hl 1 rfl) ?_
  refine lv_iadd hx hb d_Store_init_21 ?_
  refine W.eq (congrArg (fun z : Int32 => F0 m 22 ls (.int z :: [.ref h0])) (show ((nI (256 + min room 65536)) + (nI room)) = nI (256 + min room 65536 + room) from (nI_add _ _))) ?_
  refine r_newI C hW (256 + min room 65536 + room) rfl (by omega) (K := 1) (M := 164096) rfl (by decide) (by omega) (by decide) d_Store_init_22 (fun qc H hW => ?_)
  have hW : Wd D A s [(h0, .inr (1, [.int (nI room), .null, .int 0, .int 0, .int 0, .int 0, .int 0, .null, .null, .null, .null, .null, .int 0, .int 0, .int 0, .null, .int 0])), (qc, .inl (tI, (256 + min room 65536 + room), .inl (fun _ => 0)))] H _ := hW
  refine r_putF (v := .ref qc) (ty := .array .int) C hW 0 rfl k_Store i_Store t_Store o_Store n_Store 1 (by decide) w_147 rfl hin rfl (by decide +kernel) rfl rfl (Nat.le_of_ble_eq_true rfl) d_Store_init_24 (fun H locs hW => ?_)
  have hW : Wd D A s [(h0, .inr (1, [.int (nI room), .ref qc, .int 0, .int 0, .int 0, .int 0, .int 0, .null, .null, .null, .null, .null, .int 0, .int 0, .int 0, .null, .int 0])), (qc, .inl (tI, (256 + min room 65536 + room), .inl (fun _ => 0)))] H _ := hW
  refine lv_iload_n hx hb d_Store_init_27 rfl (lv_at hl 1 rfl) ?_
  refine lv_iconst (v := 2) hx hb d_Store_init_28 (by decide) ?_
  refine lv_idiv hx hb d_Store_init_29 (by decide) ?_
  refine lv_bipush (v := 64) hx hb d_Store_init_30 (by decide) ?_
  refine lv_iadd hx hb d_Store_init_32 ?_
  refine W.eq (congrArg (fun z : Int32 => F0 m 33 ls (.int z :: [])) (show (((nI room) / 2) + 64) = nI (room / 2 + 64) from (by rw [show (2 : Int32) = nI 2 from rfl, pk_div (by omega) (by decide) (by decide), show (64 : Int32) = nI 64 from rfl, nI_add]))) ?_
  refine lv_istore_n (lv' := [(2, .int (nI (room / 2 + 64))), (0, .ref h0), (1, .int (nI room))]) hx hb d_Store_init_33 rfl hl (by decide) rfl (fun ls hl => ?_)
  refine lv_aload_n hx hb d_Store_init_34 rfl (lv_at hl 1 rfl) ?_
  refine lv_iload_n hx hb d_Store_init_35 rfl (lv_at hl 0 rfl) ?_
  refine r_newI C hW (room / 2 + 64) rfl (by omega) (K := 2) (M := 213312) rfl (by decide) (by omega) (by decide) d_Store_init_36 (fun qf H hW => ?_)
  have hW : Wd D A s [(h0, .inr (1, [.int (nI room), .ref qc, .int 0, .int 0, .int 0, .int 0, .int 0, .null, .null, .null, .null, .null, .int 0, .int 0, .int 0, .null, .int 0])), (qc, .inl (tI, (256 + min room 65536 + room), .inl (fun _ => 0))), (qf, .inl (tI, (room / 2 + 64), .inl (fun _ => 0)))] H _ := hW
  refine r_putF (v := .ref qf) (ty := .array .int) C hW 0 rfl k_Store i_Store t_Store o_Store n_Store 7 (by decide) w_166 rfl hin rfl (by decide +kernel) rfl rfl (Nat.le_of_ble_eq_true rfl) d_Store_init_38 (fun H locs hW => ?_)
  have hW : Wd D A s [(h0, .inr (1, [.int (nI room), .ref qc, .int 0, .int 0, .int 0, .int 0, .int 0, .ref qf, .null, .null, .null, .null, .int 0, .int 0, .int 0, .null, .int 0])), (qc, .inl (tI, (256 + min room 65536 + room), .inl (fun _ => 0))), (qf, .inl (tI, (room / 2 + 64), .inl (fun _ => 0)))] H _ := hW
  refine lv_aload_n hx hb d_Store_init_41 rfl (lv_at hl 1 rfl) ?_
  refine lv_iload_n hx hb d_Store_init_42 rfl (lv_at hl 0 rfl) ?_
  refine r_newI C hW (room / 2 + 64) rfl (by omega) (K := 3) (M := 262528) rfl (by decide) (by omega) (by decide) d_Store_init_43 (fun qz H hW => ?_)
  have hW : Wd D A s [(h0, .inr (1, [.int (nI room), .ref qc, .int 0, .int 0, .int 0, .int 0, .int 0, .ref qf, .null, .null, .null, .null, .int 0, .int 0, .int 0, .null, .int 0])), (qc, .inl (tI, (256 + min room 65536 + room), .inl (fun _ => 0))), (qf, .inl (tI, (room / 2 + 64), .inl (fun _ => 0))), (qz, .inl (tI, (room / 2 + 64), .inl (fun _ => 0)))] H _ := hW
  refine r_putF (v := .ref qz) (ty := .array .int) C hW 0 rfl k_Store i_Store t_Store o_Store n_Store 8 (by decide) w_169 rfl hin rfl (by decide +kernel) rfl rfl (Nat.le_of_ble_eq_true rfl) d_Store_init_45 (fun H locs hW => ?_)
  have hW : Wd D A s [(h0, .inr (1, [.int (nI room), .ref qc, .int 0, .int 0, .int 0, .int 0, .int 0, .ref qf, .ref qz, .null, .null, .null, .int 0, .int 0, .int 0, .null, .int 0])), (qc, .inl (tI, (256 + min room 65536 + room), .inl (fun _ => 0))), (qf, .inl (tI, (room / 2 + 64), .inl (fun _ => 0))), (qz, .inl (tI, (room / 2 + 64), .inl (fun _ => 0)))] H _ := hW
  refine lv_aload_n hx hb d_Store_init_48 rfl (lv_at hl 1 rfl) ?_
  refine lv_iload_n hx hb d_Store_init_49 rfl (lv_at hl 0 rfl) ?_
  refine r_newI C hW (room / 2 + 64) rfl (by omega) (K := 4) (M := 311744) rfl (by decide) (by omega) (by decide) d_Store_init_50 (fun qh H hW => ?_)
  have hW : Wd D A s [(h0, .inr (1, [.int (nI room), .ref qc, .int 0, .int 0, .int 0, .int 0, .int 0, .ref qf, .ref qz, .null, .null, .null, .int 0, .int 0, .int 0, .null, .int 0])), (qc, .inl (tI, (256 + min room 65536 + room), .inl (fun _ => 0))), (qf, .inl (tI, (room / 2 + 64), .inl (fun _ => 0))), (qz, .inl (tI, (room / 2 + 64), .inl (fun _ => 0))), (qh, .inl (tI, (room / 2 + 64), .inl (fun _ => 0)))] H _ := hW
  refine r_putF (v := .ref qh) (ty := .array .int) C hW 0 rfl k_Store i_Store t_Store o_Store n_Store 9 (by decide) w_173 rfl hin rfl (by decide +kernel) rfl rfl (Nat.le_of_ble_eq_true rfl) d_Store_init_52 (fun H locs hW => ?_)
  have hW : Wd D A s [(h0, .inr (1, [.int (nI room), .ref qc, .int 0, .int 0, .int 0, .int 0, .int 0, .ref qf, .ref qz, .ref qh, .null, .null, .int 0, .int 0, .int 0, .null, .int 0])), (qc, .inl (tI, (256 + min room 65536 + room), .inl (fun _ => 0))), (qf, .inl (tI, (room / 2 + 64), .inl (fun _ => 0))), (qz, .inl (tI, (room / 2 + 64), .inl (fun _ => 0))), (qh, .inl (tI, (room / 2 + 64), .inl (fun _ => 0)))] H _ := hW
  refine lv_aload_n hx hb d_Store_init_55 rfl (lv_at hl 1 rfl) ?_
  refine lv_iload_n hx hb d_Store_init_56 rfl (lv_at hl 0 rfl) ?_
  refine r_newI C hW (room / 2 + 64) rfl (by omega) (K := 5) (M := 360960) rfl (by decide) (by omega) (by decide) d_Store_init_57 (fun qn H hW => ?_)
  have hW : Wd D A s [(h0, .inr (1, [.int (nI room), .ref qc, .int 0, .int 0, .int 0, .int 0, .int 0, .ref qf, .ref qz, .ref qh, .null, .null, .int 0, .int 0, .int 0, .null, .int 0])), (qc, .inl (tI, (256 + min room 65536 + room), .inl (fun _ => 0))), (qf, .inl (tI, (room / 2 + 64), .inl (fun _ => 0))), (qz, .inl (tI, (room / 2 + 64), .inl (fun _ => 0))), (qh, .inl (tI, (room / 2 + 64), .inl (fun _ => 0))), (qn, .inl (tI, (room / 2 + 64), .inl (fun _ => 0)))] H _ := hW
  refine r_putF (v := .ref qn) (ty := .array .int) C hW 0 rfl k_Store i_Store t_Store o_Store n_Store 10 (by decide) w_174 rfl hin rfl (by decide +kernel) rfl rfl (Nat.le_of_ble_eq_true rfl) d_Store_init_59 (fun H locs hW => ?_)
  have hW : Wd D A s [(h0, .inr (1, [.int (nI room), .ref qc, .int 0, .int 0, .int 0, .int 0, .int 0, .ref qf, .ref qz, .ref qh, .ref qn, .null, .int 0, .int 0, .int 0, .null, .int 0])), (qc, .inl (tI, (256 + min room 65536 + room), .inl (fun _ => 0))), (qf, .inl (tI, (room / 2 + 64), .inl (fun _ => 0))), (qz, .inl (tI, (room / 2 + 64), .inl (fun _ => 0))), (qh, .inl (tI, (room / 2 + 64), .inl (fun _ => 0))), (qn, .inl (tI, (room / 2 + 64), .inl (fun _ => 0)))] H _ := hW
  refine lv_aload_n hx hb d_Store_init_62 rfl (lv_at hl 1 rfl) ?_
  refine lv_iload_n hx hb d_Store_init_63 rfl (lv_at hl 0 rfl) ?_
  refine r_newI C hW (room / 2 + 64) rfl (by omega) (K := 6) (M := 410176) rfl (by decide) (by omega) (by decide) d_Store_init_64 (fun qm H hW => ?_)
  have hW : Wd D A s [(h0, .inr (1, [.int (nI room), .ref qc, .int 0, .int 0, .int 0, .int 0, .int 0, .ref qf, .ref qz, .ref qh, .ref qn, .null, .int 0, .int 0, .int 0, .null, .int 0])), (qc, .inl (tI, (256 + min room 65536 + room), .inl (fun _ => 0))), (qf, .inl (tI, (room / 2 + 64), .inl (fun _ => 0))), (qz, .inl (tI, (room / 2 + 64), .inl (fun _ => 0))), (qh, .inl (tI, (room / 2 + 64), .inl (fun _ => 0))), (qn, .inl (tI, (room / 2 + 64), .inl (fun _ => 0))), (qm, .inl (tI, (room / 2 + 64), .inl (fun _ => 0)))] H _ := hW
  refine r_putF (v := .ref qm) (ty := .array .int) C hW 0 rfl k_Store i_Store t_Store o_Store n_Store 15 (by decide) w_182 rfl hin rfl (by decide +kernel) rfl rfl (Nat.le_of_ble_eq_true rfl) d_Store_init_66 (fun H locs hW => ?_)
  have hW : Wd D A s [(h0, .inr (1, [.int (nI room), .ref qc, .int 0, .int 0, .int 0, .int 0, .int 0, .ref qf, .ref qz, .ref qh, .ref qn, .null, .int 0, .int 0, .int 0, .ref qm, .int 0])), (qc, .inl (tI, (256 + min room 65536 + room), .inl (fun _ => 0))), (qf, .inl (tI, (room / 2 + 64), .inl (fun _ => 0))), (qz, .inl (tI, (room / 2 + 64), .inl (fun _ => 0))), (qh, .inl (tI, (room / 2 + 64), .inl (fun _ => 0))), (qn, .inl (tI, (room / 2 + 64), .inl (fun _ => 0))), (qm, .inl (tI, (room / 2 + 64), .inl (fun _ => 0)))] H _ := hW
  refine lv_bipush (v := 64) hx hb d_Store_init_69 (by decide) ?_
  refine lv_istore_n (lv' := [(3, .int 64), (2, .int (nI (room / 2 + 64))), (0, .ref h0), (1, .int (nI room))]) hx hb d_Store_init_71 rfl hl (by decide) rfl (fun ls hl => ?_)
  refine lv_iconst (v := 0) hx hb d_Store_init_72 (by decide) ?_
  refine lv_istore (lv' := [(4, .int 0), (3, .int 64), (2, .int (nI (room / 2 + 64))), (0, .ref h0), (1, .int (nI room))]) hx hb d_Store_init_73 hl (by decide) rfl (fun ls hl => ?_)
  have loop : ∀ (fu_loop : Nat) (i : Nat) (sl : Nat) (ee : Nat) (H : Heap) (locs : List Loc) (ls : Array Slot), 21 ≤ i + fu_loop → (i ≤ 20) → (sl = 2 ^ ee) → (sl < 98432) → Wd D A s [(h0, .inr (1, [.int (nI room), .ref qc, .int 0, .int 0, .int 0, .int 0, .int 0, .ref qf, .ref qz, .ref qh, .ref qn, .null, .int 0, .int 0, .int 0, .ref qm, .int 0])), (qc, .inl (tI, (256 + min room 65536 + room), .inl (fun _ => 0))), (qf, .inl (tI, (room / 2 + 64), .inl (fun _ => 0))), (qz, .inl (tI, (room / 2 + 64), .inl (fun _ => 0))), (qh, .inl (tI, (room / 2 + 64), .inl (fun _ => 0))), (qn, .inl (tI, (room / 2 + 64), .inl (fun _ => 0))), (qm, .inl (tI, (room / 2 + 64), .inl (fun _ => 0)))] H locs → lv_has ls 5 [(4, .int (nI i)), (3, .int (nI sl)), (2, .int (nI (room / 2 + 64))), (0, .ref h0), (1, .int (nI room))] → W p l e ({ frames := 12, cells := 7, slots := 508608, locals := 600 }) s m args below meth c H locs 6 410176 Q (F0 m 75 ls []) := by
    intro fu_loop
    induction fu_loop with
    | zero => intro i sl ee H locs ls hn hi hsl hs9 hW hl; exact absurd hn (by omega)
    | succ fu_loop ih_loop =>
      intro i sl ee H locs ls hn hi hsl hs9 hW hl
      refine lv_iload hx hb d_Store_init_75 (lv_at hl 0 rfl) ?_
      have m97 : W p l e ({ frames := 12, cells := 7, slots := 508608, locals := 600 }) s m args below meth c H locs 6 410176 Q (F0 m 97 ls []) := by
        refine lv_aload_n hx hb d_Store_init_97 rfl (lv_at hl 3 rfl) ?_
        refine lv_iload_n hx hb d_Store_init_98 rfl (lv_at hl 1 rfl) ?_
        refine r_newI C hW sl rfl (by omega) (K := 7) (M := 508608) rfl (by decide) (by omega) (by decide) d_Store_init_99 (fun qd H hW => ?_)
        have hW : Wd D A s [(h0, .inr (1, [.int (nI room), .ref qc, .int 0, .int 0, .int 0, .int 0, .int 0, .ref qf, .ref qz, .ref qh, .ref qn, .null, .int 0, .int 0, .int 0, .ref qm, .int 0])), (qc, .inl (tI, (256 + min room 65536 + room), .inl (fun _ => 0))), (qf, .inl (tI, (room / 2 + 64), .inl (fun _ => 0))), (qz, .inl (tI, (room / 2 + 64), .inl (fun _ => 0))), (qh, .inl (tI, (room / 2 + 64), .inl (fun _ => 0))), (qn, .inl (tI, (room / 2 + 64), .inl (fun _ => 0))), (qm, .inl (tI, (room / 2 + 64), .inl (fun _ => 0))), (qd, .inl (tI, sl, .inl (fun _ => 0)))] H _ := hW
        refine r_putF (v := .ref qd) (ty := .array .int) C hW 0 rfl k_Store i_Store t_Store o_Store n_Store 11 (by decide) w_175 rfl hin rfl (by decide +kernel) rfl rfl (Nat.le_of_ble_eq_true rfl) d_Store_init_101 (fun H locs hW => ?_)
        have hW : Wd D A s [(h0, .inr (1, [.int (nI room), .ref qc, .int 0, .int 0, .int 0, .int 0, .int 0, .ref qf, .ref qz, .ref qh, .ref qn, .ref qd, .int 0, .int 0, .int 0, .ref qm, .int 0])), (qc, .inl (tI, (256 + min room 65536 + room), .inl (fun _ => 0))), (qf, .inl (tI, (room / 2 + 64), .inl (fun _ => 0))), (qz, .inl (tI, (room / 2 + 64), .inl (fun _ => 0))), (qh, .inl (tI, (room / 2 + 64), .inl (fun _ => 0))), (qn, .inl (tI, (room / 2 + 64), .inl (fun _ => 0))), (qm, .inl (tI, (room / 2 + 64), .inl (fun _ => 0))), (qd, .inl (tI, sl, .inl (fun _ => 0)))] H _ := hW
        refine lv_aload_n hx hb d_Store_init_104 rfl (lv_at hl 3 rfl) ?_
        refine r_get C hW 0 rfl k_Store i_Store 11 (by decide) rfl w_175 d_Store_init_105 ?_
        refine lv_iconst (v := (-1)) hx hb d_Store_init_108 (by decide) ?_
        refine r_callS [.ref qd, .int (-1)] [] C hl.1 hW (c_fill l D tI tB tZ tL X hX qd sl (-1) (fun _ => 0) (by omega)) ok_Arrays_fill0 w_55 (wr := [(h0, .inr (1, [.int (nI room), .ref qc, .int 0, .int 0, .int 0, .int 0, .int 0, .ref qf, .ref qz, .ref qh, .ref qn, .ref qd, .int 0, .int 0, .int 0, .ref qm, .int 0])), (qc, .inl (tI, (256 + min room 65536 + room), .inl (fun _ => 0))), (qf, .inl (tI, (room / 2 + 64), .inl (fun _ => 0))), (qz, .inl (tI, (room / 2 + 64), .inl (fun _ => 0))), (qh, .inl (tI, (room / 2 + 64), .inl (fun _ => 0))), (qn, .inl (tI, (room / 2 + 64), .inl (fun _ => 0))), (qm, .inl (tI, (room / 2 + 64), .inl (fun _ => 0)))]) [7] [0, 1, 2, 3, 4, 5, 6] rfl rfl (by decide) (by decide) (by decide) rfl (by decide) (Nat.le_of_ble_eq_true rfl) (by decide) d_Store_init_109 (fun fd H locs hfd hW => ?_)
        have hW : Wd D A s [(h0, .inr (1, [.int (nI room), .ref qc, .int 0, .int 0, .int 0, .int 0, .int 0, .ref qf, .ref qz, .ref qh, .ref qn, .ref qd, .int 0, .int 0, .int 0, .ref qm, .int 0])), (qc, .inl (tI, (256 + min room 65536 + room), .inl (fun _ => 0))), (qf, .inl (tI, (room / 2 + 64), .inl (fun _ => 0))), (qz, .inl (tI, (room / 2 + 64), .inl (fun _ => 0))), (qh, .inl (tI, (room / 2 + 64), .inl (fun _ => 0))), (qn, .inl (tI, (room / 2 + 64), .inl (fun _ => 0))), (qm, .inl (tI, (room / 2 + 64), .inl (fun _ => 0))), (qd, .inl (tI, sl, .inl fd))] H _ := hW
        have h64s : 0 < sl := by rw [hsl]; exact Nat.two_pow_pos ee
        have hmx2 : ∀ A U, X A U → MX (adSt adr h0 qc qf qz qh qn qd qm) A U := fun A U h => (hmx A U h).ext adSt_e
        have hSL := SL_stL (cl := 256 + min room 65536 + room) (ms := room / 2 + 64) (sl := sl) h64s (by omega) (by omega) (by omega)
        have hb30 : ∀ r, (stL (256 + min room 65536 + room) (room / 2 + 64) sl) r < 1073741824 := fun r => by
          unfold stL
          split
          · omega
          · split <;> omega
        have h101 : 143 ≤ (stL (256 + min room 65536 + room) (room / 2 + 64) sl) 101 := by show 143 ≤ 256 + min room 65536 + room; omega
        have h102 : 19 ≤ (stL (256 + min room 65536 + room) (room / 2 + 64) sl) 102 := by show 19 ≤ room / 2 + 64; omega
        have hK0 : KI (stL (256 + min room 65536 + room) (room / 2 + 64) sl) room 0 (iS (st0 room fd)) := KI_0 (by omega) hfd
        have hW : Wd D A s (wld BSt (adSt adr h0 qc qf qz qh qn qd qm) (LNf (stL (256 + min room 65536 + room) (room / 2 + 64) sl)) tI tB tZ (st0 room fd)) H locs := hW.sub [0, 1, 2, 3, 4, 5, 7, 6] (by decide) rfl
        refine r_keeps (k3 := 3) C hl rfl hmx2 hb30 hSL h101 h102 ⟨by decide, by decide⟩ ⟨by decide, by decide⟩ hK0 hW (fun τ19 H locs hK19 hW => ?_)
        obtain ⟨hSTf, e14, e3⟩ := hK19.st
        have e0 : τ19.1 1 0 = nI room := Int32.toInt_inj.mp (by rw [nI_i (by omega)]; exact hK19.2.2.2.2.2.1.1)
        have e2 : τ19.1 1 2 = 0 := Int32.toInt_inj.mp (hK19.2.2.2.2.2.1.2 2 (by omega))
        have e4 : τ19.1 1 4 = 0 := Int32.toInt_inj.mp (hK19.2.2.2.2.2.1.2 4 (by omega))
        have e5 : τ19.1 1 5 = 0 := Int32.toInt_inj.mp (hK19.2.2.2.2.2.1.2 5 (by omega))
        have e6 : τ19.1 1 6 = 0 := Int32.toInt_inj.mp (hK19.2.2.2.2.2.1.2 6 (by omega))
        have e12 : τ19.1 1 12 = 0 := Int32.toInt_inj.mp (hK19.2.2.2.2.2.1.2 12 (by omega))
        have e16 : τ19.1 1 16 = 0 := Int32.toInt_inj.mp (hK19.2.2.2.2.2.1.2 16 (by omega))
        have e107 : τ19.2 7 = fun _ => 0 := funext (fun i => Int32.toInt_inj.mp (hK19.2.2.2.2.2.2 i))
        have hW : Wd D A s [(h0, .inr (1, [.int (τ19.1 1 0), .ref qc, .int (τ19.1 1 2), .int (τ19.1 1 3), .int (τ19.1 1 4), .int (τ19.1 1 5), .int (τ19.1 1 6), .ref qf, .ref qz, .ref qh, .ref qn, .ref qd, .int (τ19.1 1 12), .int (τ19.1 1 13), .int (τ19.1 1 14), .ref qm, .int (τ19.1 1 16)])), (qc, .inl (tI, (256 + min room 65536 + room), .inl (gOf τ19 5))), (qf, .inl (tI, (room / 2 + 64), .inl (gOf τ19 0))), (qz, .inl (tI, (room / 2 + 64), .inl (gOf τ19 1))), (qh, .inl (tI, (room / 2 + 64), .inl (gOf τ19 2))), (qn, .inl (tI, (room / 2 + 64), .inl (gOf τ19 3))), (qd, .inl (tI, sl, .inl (gOf τ19 4))), (qm, .inl (tI, (room / 2 + 64), .inl (τ19.2 7)))] H locs := hW
        rw [e0, e2, e3, e4, e5, e6, e12, e14, e16, e107] at hW
        refine lv_aload_n hx hb d_Store_init_226 rfl (lv_at hl 3 rfl) ?_
        refine lv_aload_n hx hb d_Store_init_227 rfl (lv_at hl 3 rfl) ?_
        refine r_get C hW 0 rfl k_Store i_Store 14 (by decide) rfl w_178 d_Store_init_228 ?_
        refine r_putF (v := .int (nI 19)) (ty := .int) C hW 0 rfl k_Store i_Store t_Store o_Store n_Store 12 (by decide) w_176 rfl hin rfl (by decide +kernel) rfl rfl (Nat.le_of_ble_eq_true rfl) d_Store_init_231 (fun H locs hW => ?_)
        have hW : Wd D A s [(h0, .inr (1, [.int (nI room), .ref qc, .int 0, .int (nI 143), .int 0, .int 0, .int 0, .ref qf, .ref qz, .ref qh, .ref qn, .ref qd, .int (nI 19), .int (τ19.1 1 13), .int (nI 19), .ref qm, .int 0])), (qc, .inl (tI, (256 + min room 65536 + room), .inl (gOf τ19 5))), (qf, .inl (tI, (room / 2 + 64), .inl (gOf τ19 0))), (qz, .inl (tI, (room / 2 + 64), .inl (gOf τ19 1))), (qh, .inl (tI, (room / 2 + 64), .inl (gOf τ19 2))), (qn, .inl (tI, (room / 2 + 64), .inl (gOf τ19 3))), (qd, .inl (tI, sl, .inl (gOf τ19 4))), (qm, .inl (tI, (room / 2 + 64), .inl (fun _ => 0)))] H locs := hW
        refine lv_aload_n hx hb d_Store_init_234 rfl (lv_at hl 3 rfl) ?_
        refine lv_aload_n hx hb d_Store_init_235 rfl (lv_at hl 3 rfl) ?_
        refine r_get C hW 0 rfl k_Store i_Store 3 (by decide) rfl w_155 d_Store_init_236 ?_
        refine r_putF (v := .int (nI 143)) (ty := .int) C hW 0 rfl k_Store i_Store t_Store o_Store n_Store 2 (by decide) w_152 rfl hin rfl (by decide +kernel) rfl rfl (Nat.le_of_ble_eq_true rfl) d_Store_init_239 (fun H locs hW => ?_)
        have hW : Wd D A s [(h0, .inr (1, [.int (nI room), .ref qc, .int (nI 143), .int (nI 143), .int 0, .int 0, .int 0, .ref qf, .ref qz, .ref qh, .ref qn, .ref qd, .int (nI 19), .int (τ19.1 1 13), .int (nI 19), .ref qm, .int 0])), (qc, .inl (tI, (256 + min room 65536 + room), .inl (gOf τ19 5))), (qf, .inl (tI, (room / 2 + 64), .inl (gOf τ19 0))), (qz, .inl (tI, (room / 2 + 64), .inl (gOf τ19 1))), (qh, .inl (tI, (room / 2 + 64), .inl (gOf τ19 2))), (qn, .inl (tI, (room / 2 + 64), .inl (gOf τ19 3))), (qd, .inl (tI, sl, .inl (gOf τ19 4))), (qm, .inl (tI, (room / 2 + 64), .inl (fun _ => 0)))] H locs := hW
        rw [hQ]
        exact r_vret C hr hlk hW ((fun k => [qc, qf, qz, qh, qn, qd, qm].getD k 0), sl, 19, τ19.1 1 13, gOf τ19) ⟨hSTf, Nat.le_refl _, ee, hsl, hs9⟩ [0, 1, 2, 3, 4, 5, 6, 7] (by decide) rfl d_Store_init_242 (by decide) (by decide)
      refine lv_bipush (v := 20) hx hb d_Store_init_77 (by decide) ?_
      refine lv_icmp_ge (tgt := 97) hx hb d_Store_init_79 (by decide) (fun c_79 => ?_) (fun c_79 => ?_)
      · exact m97
      · refine lv_iload_n hx hb d_Store_init_82 rfl (lv_at hl 1 rfl) ?_
        refine lv_iload_n hx hb d_Store_init_83 rfl (lv_at hl 2 rfl) ?_
        refine lv_icmp_ge (tgt := 97) hx hb d_Store_init_84 (by decide) (fun c_84 => ?_) (fun c_84 => ?_)
        · exact m97
        · have hlt : sl < room / 2 + 64 := k_nle c_84 (by omega) (by omega)
          have hi2 : i < 20 := k_nle (a := 20) c_79 (by decide) (by omega)
          refine lv_iload_n hx hb d_Store_init_87 rfl (lv_at hl 1 rfl) ?_
          refine lv_iconst (v := 2) hx hb d_Store_init_88 (by decide) ?_
          refine lv_imul hx hb d_Store_init_89 ?_
          refine W.eq (congrArg (fun z : Int32 => F0 m 90 ls (.int z :: [])) (show ((nI sl) * 2) = nI (sl * 2) from (pk_mul sl 2))) ?_
          refine lv_istore_n (lv' := [(3, .int (nI (sl * 2))), (4, .int (nI i)), (2, .int (nI (room / 2 + 64))), (0, .ref h0), (1, .int (nI room))]) hx hb d_Store_init_90 rfl hl (by decide) rfl (fun ls hl => ?_)
          refine lv_iinc (v := (nI (i + 1))) (lv' := [(4, .int (nI (i + 1))), (3, .int (nI (sl * 2))), (2, .int (nI (room / 2 + 64))), (0, .ref h0), (1, .int (nI room))]) hx hb d_Store_init_91 hl (k := 1) rfl (nI_1 i) (by decide) rfl (fun ls hl => ?_)
          refine lv_goto (tgt := 75) hx hb d_Store_init_94 (by decide) ?_
          exact ih_loop (i + 1) (sl * 2) (ee + 1) H locs ls (by omega) (by omega) (by rw [hsl, Nat.pow_succ]) (by omega) (hW.sub [0, 1, 2, 3, 4, 5, 6] (by decide) rfl) (lv_sub hl [0, 1, 2, 3, 4] rfl)
  exact loop 21 0 64 6 _ _ _ (by decide) (by omega) (by decide) (by decide) (hW.sub [0, 1, 2, 3, 4, 5, 6] (by decide) rfl) (lv_sub hl [0, 1, 2, 3, 4] rfl)
