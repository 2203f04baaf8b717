/-! ===== a declared element (pure): its text, cut out, means the same ===== -/
section Kpu
variable {T T' : Nat → Int} {e e' c k : Nat} {nm : Str} {x : EDc}
theorem bld_fuel : ∀ (n m k : Nat) (gr la : Int) (lf : Nat) (t : List KNd), e' < n + k → e' < m + k → bld T e' n k gr la lf t = bld T e' m k gr la lf t := by
  intro n
  induction n with
  | zero =>
    intro m k gr la lf t h1 h2
    cases m with
    | zero => rfl
    | succ m => rw [bld_s, if_pos (by omega)]; rfl
  | succ n ih =>
    intro m k gr la lf t h1 h2
    cases m with
    | zero => rw [bld_s, if_pos (by omega)]; rfl
    | succ m =>
      rw [bld_s, bld_s]
      by_cases c0 : e' ≤ k
      · rw [if_pos c0, if_pos c0]
      · rw [if_neg c0, if_neg c0, ih m (k + 1) _ _ _ _ (by omega) (by omega), ih m (k + 1) _ _ _ _ (by omega) (by omega), ih m (k + 1) _ _ _ _ (by omega) (by omega), ih m (k + 1) _ _ _ _ (by omega) (by omega)]
        cases hn : nmg T e' true (some k) with
        | none => dsimp only; rw [ih m (k + 1) _ _ _ _ (by omega) (by omega)]
        | some j =>
          have := nmg_lt hn
          dsimp only
          rw [ih m j _ _ _ _ (by omega) (by omega)]
theorem sh_bld {d : Nat} (h : SHT T T' e' d) : ∀ (n k : Nat) (gr la : Int) (lf : Nat) (t : List KNd), bld T' (d + e') n (d + k) gr la lf t = bld T e' n k gr la lf t := by
  intro n
  induction n with
  | zero => intro k gr la lf t; rfl
  | succ n ih =>
    intro k gr la lf t
    rw [bld_s, bld_s]
    by_cases c0 : e' ≤ k
    · rw [if_pos c0, if_pos (by omega)]
    · have hT : T' (d + k) = T k := h k (by omega)
      have hn' : nmg T' (d + e') true (some (d + k)) = mvo d (nmg T e' true (some k)) := sh_nmg h (some k)
      rw [if_neg c0, if_neg (by omega), hT, hn', show d + k + 1 = d + (k + 1) by omega, ih, ih, ih, ih]
      cases hnm : nmg T e' true (some k) with
      | none =>
        show (if T k = 40 then _ else if T k = 41 then _ else if T k = 124 then _ else if T k = 63 ∨ T k = 42 ∨ T k = 43 then _ else bld T' (d + e') n (d + (k + 1)) gr la lf t) = _
        rw [ih (k + 1) gr la lf t]
      | some j =>
        have hl := nmg_lt hnm
        have : sl T' (d + k) (d + j - (d + k)) = sl T k (j - k) := by rw [show d + j - (d + k) = j - k by omega]; exact sh_sl h (by omega)
        show (if T k = 40 then _ else if T k = 41 then _ else if T k = 124 then _ else if T k = 63 ∨ T k = 42 ∨ T k = 43 then _ else bld T' (d + e') n (d + j) gr (t.length : Int) (lf + 1) (knw 0 (sl T' (d + k) (d + j - (d + k))) (lf : Int) gr la t)) = _
        rw [this, ih]
theorem mdk_up : ∀ (N M : Nat) (st : List Int) (due : Bool) (k n d : Nat) {r : Nat × Nat × Nat}, mdk T e N st due k n d = some r → N ≤ M → mdk T e M st due k n d = some r := by
  intro N
  induction N with
  | zero => intro M st due k n d r h; cases h
  | succ N ih =>
    intro M st due k n d r h hM
    obtain ⟨M, rfl⟩ : ∃ M', M = M' + 1 := ⟨M - 1, by omega⟩
    cases st with
    | nil => exact h
    | cons s st =>
      rw [mdk_s] at h ⊢
      split at h
      · rename_i hd
        rw [if_pos hd]
        split at h
        · rename_i h4
          rw [if_pos h4]
          exact ih M _ _ _ _ _ h (by omega)
        · rename_i h4
          rw [if_neg h4]
          cases hn : nmg T e true (some (sk isSp T e k)) with
          | none => rw [hn] at h; cases h
          | some j =>
            rw [hn] at h
            exact ih M _ _ _ _ _ h (by omega)
      · rename_i hd
        rw [if_neg hd]
        split at h
        · rename_i h4
          rw [if_pos h4]
          exact ih M _ _ _ _ _ h (by omega)
        · rename_i h4
          rw [if_neg h4]
          split at h
          · rename_i h5
            rw [if_pos h5]
            exact ih M _ _ _ _ _ h (by omega)
          · cases h
theorem mxL_up : ∀ (N M : Nat) (b : Bool) (k : Nat) {z : Nat}, mxk T e N b k = some z → N ≤ M → mxL T e M k = mxL T e N k := by
  intro N
  induction N with
  | zero => intro M b k z h; cases h
  | succ N ih =>
    intro M b k z h hM
    obtain ⟨M, rfl⟩ : ∃ M', M = M' + 1 := ⟨M - 1, by omega⟩
    have h' : (if mt T e (sk isSp T e k) [124] = true then (match nmg T e true (asp T e (some (sk isSp T e k + 1))) with
      | none => none
      | some j => mxk T e N true j) else (match wd T e [41] (some (sk isSp T e k)) with
      | none => none
      | some z => if mt T e z [42] = true then some (z + 1) else if b = true then none else some z)) = some z := h
    show (if mt T e (sk isSp T e k) [124] = true then (match nmg T e true (asp T e (some (sk isSp T e k + 1))) with
      | none => []
      | some j => (sk isSp T e (sk isSp T e k + 1), j) :: mxL T e M j) else []) = (if mt T e (sk isSp T e k) [124] = true then (match nmg T e true (asp T e (some (sk isSp T e k + 1))) with
      | none => []
      | some j => (sk isSp T e (sk isSp T e k + 1), j) :: mxL T e N j) else [])
    by_cases c : mt T e (sk isSp T e k) [124] = true
    · rw [if_pos c] at h'
      rw [if_pos c, if_pos c]
      cases hn : nmg T e true (asp T e (some (sk isSp T e k + 1))) with
      | none => rfl
      | some j =>
        rw [hn] at h'
        show _ :: _ = _ :: _
        rw [ih M true j h' (by omega)]
    · rw [if_neg c, if_neg c]
/-- the tree of a declared model, from where it stands -/
theorem bldN_at (hG : GDx (nm, 3, sl T c (k - c))) (hck : c ≤ k) (hke : k ≤ e) : ∃ r, mdl T e c = some r ∧ mdk T e (e + 2) [0] true (c + 1) 0 1 = some r ∧ (c < e ∧ T c = 40) ∧ r.1 ≤ k ∧ bldN (nm, 3, sl T c (k - c)) = bld T r.1 (r.1 + 1) c (-1) (-1) 0 [] := by
  have hlen : (sl T c (k - c)).length = k - c := sl_ln
  have hTs : sl T c (sl T c (k - c)).length = sl T c (k - c) := by rw [hlen]
  obtain ⟨r, ⟨h0, h40⟩, h1, -⟩ := md_src (T := T) (e := e) (a := c) hG rfl (by show c + (sl T c (k - c)).length ≤ e; omega) hTs
  obtain ⟨r', ⟨h0', h40'⟩, h1', -⟩ := md_src (T := gd (sl T c (k - c))) (e := (sl T c (k - c)).length) (a := 0) hG rfl (by show 0 + (sl T c (k - c)).length ≤ _; omega) sl_gd
  have hsen := sen_of (T := T) (e := e) (a := c) hG (by show c + (sl T c (k - c)).length ≤ e; omega) hTs
  have hsh := sht_of (x := (nm, 3, sl T c (k - c))) (T := T) (a := c) hTs
  have hsh : SHT (gd (sl T c (k - c))) T (sl T c (k - c)).length c := hsh
  have hsen : SEN T e (c + (sl T c (k - c)).length) := hsen
  have h1 : mdk T e ((sl T c (k - c)).length + 2) [0] true (c + 1) 0 1 = some r := h1
  have h1' : mdk (gd (sl T c (k - c))) (sl T c (k - c)).length ((sl T c (k - c)).length + 2) [0] true (0 + 1) 0 1 = some r' := h1'
  have h40' : gd (sl T c (k - c)) 0 = 40 := h40'
  have hlen2 : 0 + 1 + 1 + 1 ≤ r'.1 := (mdk_len _ _ _ _ _ _ _ (by omega) h1').1 (by decide)
  have hle2 := (mdk_le _ _ _ _ _ _ _ (by omega) h1').2.1
  have hrr : r = (c + r'.1, r'.2) := by
    have := h1
    rw [hsen.mdkE _ _ _ _ _ _ (by omega), sh_mdk hsh] at this
    rw [show (0 + 1 : Nat) = 1 from rfl] at h1'
    rw [h1'] at this
    exact (Option.some.inj this).symm
  have hup := mdk_up _ (e + 2) _ _ _ _ _ h1 (by omega)
  have hE : mdE (nm, 3, sl T c (k - c)) = r'.1 := by
    unfold mdE mdl
    have hm : mt (gd (sl T c (k - c))) (sl T c (k - c)).length 0 [40] = true := by
      show ((lk (gd (sl T c (k - c))) (sl T c (k - c)).length 0 == 40) && true) = true
      rw [lk_b h0', h40']
      rfl
    show ((if mt (gd (sl T c (k - c))) (sl T c (k - c)).length 0 [40] = true then mdk (gd (sl T c (k - c))) (sl T c (k - c)).length ((sl T c (k - c)).length + 2) [0] true (0 + 1) 0 1 else none).getD (0, 0, 0)).1 = r'.1
    rw [if_pos hm, h1']
    rfl
  refine ⟨r, ?_, hup, ⟨h0, h40⟩, by rw [hrr]; show c + r'.1 ≤ k; omega, ?_⟩
  · unfold mdl
    rw [if_pos (show mt T e c [40] = true by show ((lk T e c == 40) && true) = true; rw [lk_b h0, h40]; rfl)]
    exact hup
  · unfold bldN
    rw [hE, hrr]
    have hsh2 : SHT (gd (sl T c (k - c))) T r'.1 c := fun i hi => hsh i (by omega)
    have := sh_bld hsh2 (r'.1 + 1) 0 (-1) (-1) 0 []
    rw [Nat.add_zero] at this
    rw [bld_fuel (c + r'.1 + 1) (r'.1 + 1) c _ _ _ _ (by omega) (by omega)]
    exact this.symm
/-- the names of a mixed group, from where it stands -/
theorem mxN_at (hG : GDx (nm, 2, sl T c (k - c))) (hck : c ≤ k) (hke : k ≤ e) (hm : mt T e c [40] = true) (hp : mt T e (sk isSp T e (c + 1)) [35, 80, 67, 68, 65, 84, 65] = true) : mxN (nm, 2, sl T c (k - c)) = mxW T e (some c) := by
  have hlen : (sl T c (k - c)).length = k - c := sl_ln
  have hTs : sl T c (sl T c (k - c)).length = sl T c (k - c) := by rw [hlen]
  obtain ⟨z, z1, z2, z3, z4, z5⟩ := mx_src (T := T) (e := e) (a := c) hG rfl (by show c + (sl T c (k - c)).length ≤ e; omega) hTs
  have hsen : SEN T e (c + (sl T c (k - c)).length) := sen_of (T := T) (e := e) (a := c) hG (by show c + (sl T c (k - c)).length ≤ e; omega) hTs
  have hsh : SHT (gd (sl T c (k - c))) T (sl T c (k - c)).length c := sht_of (x := (nm, 2, sl T c (k - c))) (T := T) (a := c) hTs
  have z3 : mxk T e ((sl T c (k - c)).length + 1) false (c + mx0 (sl T c (k - c))) = some z := z3
  have z5 : 2 * (mxN (nm, 2, sl T c (k - c))).length + 2 ≤ (sl T c (k - c)).length := z5
  have e1 : sk isSp T e (c + 1) = c + sk isSp (gd (sl T c (k - c))) (sl T c (k - c)).length 1 := by
    rw [hsen.skE (by decide) (by omega)]
    exact sh_sk hsh (p := isSp) 1
  have e2 : c + mx0 (sl T c (k - c)) = sk isSp T e (c + 1) + 7 := by
    unfold mx0
    omega
  rw [z4]
  show List.map _ (mxL T e ((sl T c (k - c)).length + 1) (c + mx0 (sl T c (k - c)))) = _
  unfold mxW
  rw [mxQ_some, if_pos ⟨hm, hp⟩]
  show _ = (mxL T e (e + 1) (sk isSp T e (c + 1) + 7)).map _
  rw [← e2, mxL_up _ (e + 1) _ _ z3 (by omega)]
end Kpu
