/-! ===== the law, call by call ===== -/
section L9
variable {p : Program} {e : Env} {s : State} {m : MethodId} {below : List Frame} {meth : Method} {c : Code} {l : Launch} {b Ls : Nat} {xs : Nat → Int32} {D : va_G} {tI tB tZ tL : ClassId} {X : (Nat → Prop) → State → Prop} {A : Nat → Prop} {L adr : Nat → Nat} {qo : Nat} {H : Heap} {locs : List Loc} {ls : Array Slot} {cells slots : Nat} {Q : State → Prop} {τ : MS} {fo : Nat → Int64} {i : Nat} {rest : List Value}
/-- what the loop has in its locals -/
abbrev lvL (adr : Nat → Nat) (qo b i : Nat) : List (Nat × Value) := [(4, .int (nI i)), (3, .ref qo), (2, .ref (adr 12)), (1, .ref (adr 0)), (0, .ref b)]
abbrev wLW (adr L : Nat → Nat) (tI tB tZ tL : ClassId) (qo : Nat) (fo : Nat → Int64) (τ : MS) : va_W := (qo, .inl (tL, 1, .inr (.inl fo))) :: wld BF adr (LNf L) tI tB tZ τ
/-- a number of the script is loaded -/
theorem law_arg {pc k k4 k0 : Nat} {cn : Int} {lv : List (Nat × Value)} (C : Cx p m c code 7 s #[Value.ref b] R_L D tI tB tZ tL X A) (hsc : ∀ A U, X A U → scAt b Ls xs A U) (hLs : Ls ≤ 3074) (hW : Wd D A s (wLW adr L tI tB tZ tL qo fo τ) H locs) (hl : lv_has ls 7 lv) (h0 : lv[k0]? = some (0, .ref b)) (h4 : lv[k4]? = some (4, .int (nI i)))
    (d1 : decode code pc = .ok (.aload_n 0, 1)) (d2 : decode code (pc + 1) = .ok (.iload 4, 2)) (d3 : decode code (pc + 3) = .ok (.iconst cn, 1)) (hcn : Int32.ofInt cn = nI k) (d4 : decode code (pc + 4) = .ok (.iadd, 1)) (d5 : decode code (pc + 5) = .ok (.iaload, 1)) (hi : i + k < Ls)
    (kk : W p l e room_1 s m #[Value.ref b] below meth c H locs cells slots Q (F0 m (pc + 6) ls (.int (xs (i + k)) :: rest))) : W p l e room_1 s m #[Value.ref b] below meth c H locs cells slots Q (F0 m pc ls rest) := by
  have hx := C.1.1
  have hb := C.1.2.1
  have hS := hsc A s C.2.2.2.1
  refine lv_aload_n hx hb d1 rfl (lv_at hl k0 h0) ?_
  refine lv_iload hx hb d2 (lv_at hl k4 h4) ?_
  refine lv_iconst (v := nI k) hx hb d3 hcn ?_
  refine lv_iadd hx hb d4 ?_
  refine W.eq (congrArg (fun z : Int32 => F0 m (pc + 5) ls (.int z :: .ref b :: rest)) (nI_add i k)) ?_
  refine va_sld hx hb hS.1 hS.2.1 hS.2.2 hW.2.2 (vp_in_nI hi (by omega)) d5 ?_
  refine W.eq (congrArg (fun z : Nat => F0 m (pc + 6) ls (.int (xs z) :: rest)) (nI_clamp (show i + k < 2 ^ 31 by omega))) ?_
  exact kk
/-- the head of the loop -/
theorem law_head (C : Cx p m c code 7 s #[Value.ref b] R_L D tI tB tZ tL X A) (hsc : ∀ A U, X A U → scAt b Ls xs A U) (hLs : Ls ≤ 3074) (hi : i ≤ 4000) (hW : Wd D A s (wLW adr L tI tB tZ tL qo fo τ) H locs) (hl : lv_has ls 7 (lvL adr qo b i))
    (k1 : ¬ i + 6 ≤ Ls → W p l e room_1 s m #[Value.ref b] below meth c H locs cells slots Q (F0 m 675 ls [])) (k2 : i + 6 ≤ Ls → W p l e room_1 s m #[Value.ref b] below meth c H locs cells slots Q (F0 m 53 ls [])) : W p l e room_1 s m #[Value.ref b] below meth c H locs cells slots Q (F0 m 43 ls []) := by
  have hx := C.1.1
  have hb := C.1.2.1
  have hS := hsc A s C.2.2.2.1
  refine lv_iload hx hb d_L_law_43 (lv_at hl 0 rfl) ?_
  refine lv_aload_n hx hb d_L_law_45 rfl (lv_at hl 4 rfl) ?_
  refine va_slen hx hb hS.1 hS.2.1 hS.2.2 hW.2.2 d_L_law_46 ?_
  refine lv_bipush (v := 6) hx hb d_L_law_47 (by decide) ?_
  refine lv_isub hx hb d_L_law_49 ?_
  have hlt : (nI Ls - 6 < nI i) ↔ ¬ i + 6 ≤ Ls := by
    have e1 : (nI Ls - 6).toInt = (Ls : Int) - 6 := by
      rw [sb_i (by rw [nI_i (by omega)]; show inR ((Ls : Int) - 6); constructor <;> omega), nI_i (by omega)]
      rfl
    rw [Int32.lt_iff_toInt_lt, e1, nI_i (by omega)]
    omega
  exact lv_icmp_gt (tgt := 675) hx hb d_L_law_50 (by decide) (fun c0 => k1 (hlt.mp c0)) (fun c0 => k2 (Decidable.not_not.mp (fun z => c0 (hlt.mpr z))))
/-- the end of the loop's body -/
theorem law_back {k4 : Nat} {lv : List (Nat × Value)} (C : Cx p m c code 7 s #[Value.ref b] R_L D tI tB tZ tL X A) (hl : lv_has ls 7 lv) (h4 : lv[k4]? = some (4, .int (nI i))) (h3 : (3, .ref qo) ∈ lv) (h2 : (2, .ref (adr 12)) ∈ lv) (h1 : (1, .ref (adr 0)) ∈ lv) (h0 : (0, .ref b) ∈ lv)
    (kk : ∀ ls : Array Slot, lv_has ls 7 (lvL adr qo b (i + 6)) → W p l e room_1 s m #[Value.ref b] below meth c H locs cells slots Q (F0 m 43 ls [])) : W p l e room_1 s m #[Value.ref b] below meth c H locs cells slots Q (F0 m 669 ls []) := by
  have hx := C.1.1
  have hb := C.1.2.1
  have h4' : (4, Value.int (nI i)) ∈ lv := List.mem_of_getElem? h4
  have hl0 : lv_has ls 7 (lvL adr qo b i) := ⟨hl.1, hl.2.1, fun q hq => by
    simp only [lvL, List.mem_cons, List.not_mem_nil, or_false] at hq
    rcases hq with rfl | rfl | rfl | rfl | rfl
    · exact hl.2.2 _ h4'
    · exact hl.2.2 _ h3
    · exact hl.2.2 _ h2
    · exact hl.2.2 _ h1
    · exact hl.2.2 _ h0⟩
  refine lv_iinc (v := nI (i + 6)) (lv' := lvL adr qo b (i + 6)) hx hb d_L_law_669 hl0 (k := 0) rfl (by rw [← nI_add]; rfl) (by decide) rfl (fun ls hl => ?_)
  exact lv_goto (tgt := 43) hx hb d_L_law_672 (by decide) (kk ls hl)
end L9
