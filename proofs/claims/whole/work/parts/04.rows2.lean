theorem w_minC : Cond.code Lib.Math.min.name Lib.Math.min.code 2 (some .int) ∈ lwG := s_1 (List.mem_of_getElem? (i := 54) (by decide +kernel)) rfl
theorem w_minS : Cond.static Lib.Math.min.name ∈ lwG := s_1 (List.mem_of_getElem? (i := 53) rfl) rfl
theorem w_minI : Cond.initialized "java/lang/Math" ∈ lwG := s_1 (List.mem_of_getElem? (i := 3) rfl) rfl
theorem nI_min {a b : Nat} (ha : a < 2 ^ 31) (hb : b < 2 ^ 31) : (if nI b < nI a then nI b else nI a) = nI (min a b) := by
  by_cases h : b < a
  · rw [if_pos (nI_lt h ha), Nat.min_eq_right (Nat.le_of_lt h)]
  · rw [if_neg (nI_nlt (Nat.le_of_not_lt h) hb), Nat.min_eq_left (Nat.le_of_not_lt h)]
section OwnRows2
variable {p : Program} {l : Launch} {e : Env} {R : Room} {s : State} {m : MethodId} {args : Array Value} {below : List Frame} {meth : Method} {c : Code} {H : Heap} {locs : List Loc} {cells slots : Nat} {Q : State → Prop} {cc : ByteArray} {nL : Nat} {own : String} {D : va_G} {tI tB tZ tL : ClassId} {X : (Nat → Prop) → State → Prop} {A : Nat → Prop} {ws : va_W} {ls : Array Slot} {rest : List Value} {pc : Nat}
theorem r_min (C : Cx p m c cc nL s args own D tI tB tZ tL X A) (hsz : ls.size = nL) {index : Nat} (hl : Cond.methodLink own index Lib.Math.min.name ∈ lwG) (hfr : 1 ≤ R.frames) (hlo : (rest.map fun v => v.category).sum + 13 ≤ R.locals) (hc : cells ≤ R.cells) (hs : slots ≤ R.slots) {x y : Int32} (a b : Nat) (hx : x = nI a) (hy : y = nI b) (ha : a < 2 ^ 31) (hb : b < 2 ^ 31) (hdg : decode cc pc = .ok (.invokestatic index, 3))
    (kk : W p l e R s m args below meth c H locs cells slots Q (F0 m (pc + 3) ls (.int (nI (min a b)) :: rest))) : W p l e R s m args below meth c H locs cells slots Q (F0 m pc ls (.int y :: .int x :: rest)) := by
  subst hx; subst hy
  refine va_mmin C.1.1 C.1.2.1 (by rw [C.1.2.2.1, hsz]) C.1.2.2.2.1 (C.1.2.2.2.2 _ hl) (C.1.2.2.2.2 _ w_minS) (C.1.2.2.2.2 _ w_minI) (C.1.2.2.2.2 _ w_minC) hfr hlo hc hs hdg ?_
  rw [nI_min ha hb]
  exact kk
end OwnRows2
