/-! ===== room (1): how long the names of an item are (pure) ===== -/
/-- letters of names, and one for what stands beside each -/
def Wn (l : List Str) : Nat := (l.map (fun s => s.length + 1)).sum
section Kw1
variable {T : Nat → Int} {e : Nat}
theorem Wn_nil : Wn [] = 0 := rfl
theorem Wn_cons {s : Str} {l : List Str} : Wn (s :: l) = s.length + 1 + Wn l := by unfold Wn; rw [List.map_cons, List.sum_cons]
theorem Wn_app {l l' : List Str} : Wn (l ++ l') = Wn l + Wn l' := by unfold Wn; rw [List.map_append, List.sum_append]
theorem mt_one {i : Nat} {c : Int} (hc : c ≠ -1) (h : mt T e i [c] = true) : i < e ∧ T i = c := by
  have h' : ((lk T e i == c) && true) = true := h
  rw [Bool.and_true, beq_iff_eq] at h'
  unfold lk at h'
  split at h'
  · exact ⟨by assumption, h'⟩
  · exact absurd h'.symm hc
theorem wd_one {i z : Nat} {c : Int} (hc : c ≠ -1) (h : wd T e [c] (some i) = some z) : i < e ∧ T i = c ∧ z = i + 1 := by
  unfold wd at h
  dsimp only at h
  split at h
  · rename_i hm
    have := mt_one hc hm
    exact ⟨this.1, this.2, (Option.some.inj h).symm⟩
  · cases h
theorem skS {k : Nat} (hk : k ≤ e) : k ≤ sk isSp T e k ∧ sk isSp T e k ≤ e := sk_le hk
theorem brL_W {b : Bool} : ∀ (n k : Nat), k ≤ e → Wn ((brL T e b n k).map (fun q => sl T q.1 (q.2 - q.1))) + k ≤ e + 1 ∧ ∀ z, brk T e b n k = some z → Wn ((brL T e b n k).map (fun q => sl T q.1 (q.2 - q.1))) + k ≤ z := by
  intro n
  induction n with
  | zero => intro k hk; exact ⟨by show 0 + k ≤ e + 1; omega, fun z h => by cases h⟩
  | succ n ih =>
    intro k hk
    have hs := skS (T := T) hk
    unfold brL brk
    have ea : asp T e (some k) = some (sk isSp T e k) := rfl
    rw [ea]
    cases hn : nmg T e b (some (sk isSp T e k)) with
    | none => exact ⟨by show 0 + k ≤ e + 1; omega, fun z h => by cases h⟩
    | some j =>
      dsimp only
      have hj := nmg_lt hn
      have hs2 := skS (T := T) hj.2.2
      rw [List.map_cons, Wn_cons, sl_ln]
      by_cases c : mt T e (sk isSp T e j) [124] = true
      · rw [if_pos c, if_pos c]
        have hm := mt_one (by decide) c
        have hi := ih (sk isSp T e j + 1) (by omega)
        exact ⟨by have := hi.1; omega, fun z hz => by have := hi.2 z hz; omega⟩
      · rw [if_neg c, if_neg c]
        refine ⟨by show _ + 0 + _ ≤ _; omega, fun z hz => ?_⟩
        have := wd_one (by decide) hz
        show _ + 0 + _ ≤ _
        omega
theorem brW_W {b : Bool} {i : Nat} (hi : i ≤ e) : Wn (brW T e b (some i)) + i ≤ e ∧ ∀ z, brt T e b (some i) = some z → Wn (brW T e b (some i)) + i + 1 ≤ z := by
  unfold brW brt
  cases hw : wd T e [40] (some i) with
  | none => exact ⟨by show 0 + i ≤ e; omega, fun z h => by cases h⟩
  | some w =>
    have := wd_one (by decide) hw
    have hb := brL_W (T := T) (e := e) (b := b) (e + 1) w (by omega)
    refine ⟨?_, fun z hz => ?_⟩
    · show Wn (brN T e b w) + i ≤ e
      have := hb.1
      unfold brN
      omega
    · have := hb.2 z hz
      show Wn (brN T e b w) + i + 1 ≤ z
      unfold brN
      omega
theorem mt_at {i : Nat} {l : List Int} (hl : ∀ c ∈ l, c ≠ -1) (hi : i ≤ e) (h : mt T e i l = true) : i + l.length ≤ e := by
  have := mt_le l i hl hi h
  omega
theorem tyW_W {i : Nat} (hi : i ≤ e) : Wn (tyW T e i) + i ≤ e ∧ ∀ z, tyK T e i = some z → Wn (tyW T e i) + i ≤ z := by
  unfold tyW tyK
  by_cases c : lk T e i = 40
  · rw [if_pos c, if_pos c]
    have := brW_W (T := T) (b := false) hi
    exact ⟨this.1, fun z hz => by have := this.2 z hz; omega⟩
  · rw [if_neg c, if_neg c]
    by_cases c2 : mt T e i [78, 79, 84, 65, 84, 73, 79, 78] = true
    · rw [if_pos c2, if_pos c2]
      have h8 : i + 8 ≤ e := mt_at (by decide) hi c2
      cases hs : spc T e (some (i + 8)) with
      | none =>
        refine ⟨by show 0 + i ≤ e; omega, fun z h => by cases h⟩
      | some x =>
        have hx := spc_gt h8 hs
        have := brW_W (T := T) (b := true) hx.2.1
        exact ⟨by have := this.1; omega, fun z hz => by have := this.2 z hz; omega⟩
    · rw [if_neg c2, if_neg c2]
      refine ⟨by show 0 + i ≤ e; omega, fun z h => ?_⟩
      split at h
      · cases h
      · have := Option.some.inj h
        show 0 + i ≤ z
        omega
/-- a definition, and what stands before it -/
theorem dfn_W {k x j : Nat} (hk : k ≤ e) (hx : spc T e (some k) = some x) (h : dfn T e x = some j) : ∃ b y, nmg T e true (some x) = some b ∧ spc T e (some b) = some y ∧ (x < b ∧ b < y) ∧ (b - x + 1) + 4 + Wn (tyW T e y) + k ≤ j ∧ (b - x + 1) + 6 + k ≤ j ∧ j ≤ e := by
  obtain ⟨b, y, w0, w, h1, h2, h3, h4, h5, h6, h7, h8, h9, h10, h11, h12⟩ := dfn_len h
  have hx2 := spc_gt hk hx
  refine ⟨b, y, h1, h2, ⟨h6, h7⟩, ?_, by omega, h12⟩
  have he := (tyK_eq (T := T) (e := e) (i := y)).2 w (by rw [h3]; exact h4)
  have hy := spc_gt (by have := nmg_lt h1; omega) h2
  have := (tyW_W (T := T) hy.2.1).2 w0 (by rw [he.1]; exact h3)
  omega
theorem adW_W : ∀ (n k : Nat), k ≤ e → Wn (adW T e n k) + k ≤ e := by
  intro n
  induction n with
  | zero => intro k hk; show 0 + k ≤ e; omega
  | succ n ih =>
    intro k hk
    unfold adW
    cases hs : spc T e (some k) with
    | none => show 0 + k ≤ e; omega
    | some x =>
      dsimp only
      cases hn : nmg T e true (some x) with
      | none => show 0 + k ≤ e; omega
      | some b =>
        dsimp only
        have hx := spc_gt hk hs
        rw [Wn_app]
        cases hd : dfn T e x with
        | none =>
          dsimp only
          have hb := nmg_lt hn
          rw [Wn_nil]
          cases hy : spc T e (some b) with
          | none => show 0 + 0 + k ≤ e; omega
          | some y =>
            have hy2 := spc_gt hb.2.2 hy
            have := (tyW_W (T := T) hy2.2.1).1
            show Wn (tyW T e y) + 0 + k ≤ e
            omega
        | some j =>
          obtain ⟨b', y, h1, h2, h3, h4, h5, h6⟩ := dfn_W hk hs hd
          rw [hn] at h1
          cases h1
          rw [h2]
          have := ih j h6
          show Wn (tyW T e y) + Wn (adW T e n j) + k ≤ e
          omega
/-- the definitions of a list: letters of names; how many strings they may come to -/
noncomputable def adS (T : Nat → Int) (e : Nat) : Nat → Nat → List Str
  | 0, _ => []
  | m + 1, k => match spc T e (some k) with
    | none => []
    | some x => match nmg T e true (some x) with
      | none => []
      | some b => match dfn T e x with
        | none => []
        | some j => plk (sl T x (b - x)) ++ adS T e m j
theorem plk_two {s : Str} : (plk s).length ≤ 2 ∧ (plk s ≠ [] → okq s) := by
  unfold plk
  split
  · rename_i h; exact ⟨Nat.le_refl _, fun _ => h⟩
  · exact ⟨Nat.zero_le _, fun z => absurd rfl z⟩
theorem okq_3 {s : Str} (h : okq s) : 3 ≤ s.length := by
  obtain ⟨h1, h2, h3, -⟩ := h
  omega
/-- names with what is split from them -/
theorem plk_W {s : Str} : 2 * (plk s).length ≤ s.length + 1 := by
  by_cases c : plk s = []
  · rw [c]; exact Nat.zero_le _
  · have h1 := plk_two (s := s)
    have := okq_3 (h1.2 c)
    omega
theorem Wn_2 : ∀ {l : List Str}, (∀ s ∈ l, s ≠ []) → 2 * l.length ≤ Wn l
  | [], _ => Nat.le_refl _
  | s :: l, h => by
    have := Wn_2 (fun x hx => h x (List.mem_cons_of_mem _ hx))
    have : 0 < s.length := List.length_pos_iff.mpr (h s List.mem_cons_self)
    rw [Wn_cons, List.length_cons]
    omega
theorem brL_ne {b : Bool} : ∀ (n k : Nat), ∀ s ∈ (brL T e b n k).map (fun q => sl T q.1 (q.2 - q.1)), s ≠ [] := by
  intro n
  induction n with
  | zero => intro k s hs; cases hs
  | succ n ih =>
    intro k s hs
    unfold brL at hs
    have ea : asp T e (some k) = some (sk isSp T e k) := rfl
    rw [ea] at hs
    cases hn : nmg T e b (some (sk isSp T e k)) with
    | none => rw [hn] at hs; cases hs
    | some j =>
      rw [hn] at hs
      dsimp only at hs
      have hj := nmg_lt hn
      rw [List.map_cons] at hs
      rcases List.mem_cons.mp hs with rfl | hs
      · refine List.length_pos_iff.mp ?_
        rw [sl_ln]
        omega
      · split at hs
        · exact ih _ s hs
        · cases hs
theorem tyW_ne {i : Nat} : ∀ s ∈ tyW T e i, s ≠ [] := by
  have key : ∀ (b : Bool) (q : Option Nat), ∀ s ∈ brW T e b q, s ≠ [] := by
    intro b q s hs
    unfold brW at hs
    split at hs
    · cases hs
    · exact brL_ne _ _ s hs
  intro s hs
  unfold tyW at hs
  split at hs
  · exact key _ _ s hs
  · split at hs
    · exact key _ _ s hs
    · cases hs
theorem adXn_W : ∀ (n k z : Nat), k ≤ e → adk T e n k = some z → Wn (adXn T e n k) + 4 * (adL T e n k).length + k ≤ z ∧ 8 * (adL T e n k).length + k ≤ z ∧ 2 * (adXn T e n k).length + 2 * (adS T e n k).length + 2 * (adL T e n k).length + k ≤ z ∧ (∀ s ∈ adXn T e n k, s ≠ []) ∧ (∀ s ∈ adW T e n k, s ∈ adXn T e n k) ∧ z ≤ e := by
  intro n
  induction n with
  | zero => intro k z hk h; cases h
  | succ n ih =>
    intro k z hk h
    unfold adk at h
    unfold adXn adL adS adW
    cases hs : spc T e (some k) with
    | none => rw [hs] at h; cases h; exact ⟨by show 0 + 4 * 0 + k ≤ k; omega, by show 8 * 0 + k ≤ k; omega, by show 2 * 0 + 2 * 0 + 2 * 0 + k ≤ k; omega, fun s h => (by cases h), fun s h => (by cases h), hk⟩
    | some x =>
      rw [hs] at h
      dsimp only at h ⊢
      cases hn : nmg T e true (some x) with
      | none => rw [hn] at h; cases h; exact ⟨by show 0 + 4 * 0 + k ≤ k; omega, by show 8 * 0 + k ≤ k; omega, by show 2 * 0 + 2 * 0 + 2 * 0 + k ≤ k; omega, fun s h => (by cases h), fun s h => (by cases h), hk⟩
      | some b =>
        rw [hn] at h
        dsimp only at h ⊢
        cases hd : dfn T e x with
        | none => rw [hd] at h; cases h
        | some j =>
          rw [hd] at h
          dsimp only at h ⊢
          obtain ⟨b', y, h1, h2, h3, h4, h5, h6⟩ := dfn_W hk hs hd
          rw [hn] at h1
          cases h1
          obtain ⟨i1, i2, i3, i4, i5, i6⟩ := ih j z h6 h
          rw [h2]
          have et : tyWo T e (some y) = tyW T e y := rfl
          rw [et, Wn_cons, Wn_app, sl_ln, List.length_cons, List.length_append, List.length_cons, List.length_append]
          have p1 := plk_W (s := sl T x (b - x))
          have p2 := plk_two (s := sl T x (b - x))
          rw [sl_ln] at p1
          have t2 := Wn_2 (tyW_ne (T := T) (e := e) (i := y))
          refine ⟨by omega, by omega, by omega, fun s hs => ?_, fun s hs => ?_, i6⟩
          · rcases List.mem_cons.mp hs with rfl | hs
            · refine List.length_pos_iff.mp ?_
              rw [sl_ln]
              omega
            · rcases List.mem_append.mp hs with hs | hs
              · exact tyW_ne s hs
              · exact i4 s hs
          · rcases List.mem_append.mp hs with hs | hs
            · exact List.mem_cons_of_mem _ (List.mem_append_left _ hs)
            · exact List.mem_cons_of_mem _ (List.mem_append_right _ (i5 s hs))
/-- the attributes of a tag -/
theorem atL_W : ∀ (n k z : Nat), k ≤ e → atk T e n k = some z → Wn (atN T (atL T e n k)) + 3 * (atL T e n k).length + k ≤ z ∧ (∀ s ∈ atN T (atL T e n k), s ≠ []) ∧ z ≤ e := by
  intro n
  induction n with
  | zero => intro k z hk h; cases h
  | succ n ih =>
    intro k z hk h
    unfold atk at h
    unfold atL
    cases hs : spc T e (some k) with
    | none => rw [hs] at h; cases h; exact ⟨by show 0 + 3 * 0 + k ≤ k; omega, fun s h => (by cases h), hk⟩
    | some x =>
      rw [hs] at h
      dsimp only at h ⊢
      have hx := spc_gt hk hs
      cases hn : nmg T e true (some x) with
      | none => rw [hn] at h; cases h; exact ⟨by show 0 + 3 * 0 + k ≤ k; omega, fun s h => (by cases h), hk⟩
      | some b =>
        rw [hn] at h
        dsimp only at h ⊢
        have hb := nmg_lt hn
        cases hv : eqs T e (some b) with
        | none => rw [hv] at h; cases h
        | some v =>
          rw [hv] at h
          dsimp only at h ⊢
          have hv2 := eqs_gt hb.2.2 hv
          cases hj : vlp T e (some v) with
          | none => rw [hj] at h; cases h
          | some j =>
            rw [hj] at h
            dsimp only at h ⊢
            have hj2 := vlp_gt hj
            obtain ⟨i1, i2, i3⟩ := ih j z hj2.2.1 h
            have ec : atN T ((x, b, v, j) :: atL T e n j) = sl T x (b - x) :: atN T (atL T e n j) := rfl
            rw [ec, Wn_cons, sl_ln, List.length_cons]
            refine ⟨by omega, fun s hs => ?_, i3⟩
            rcases List.mem_cons.mp hs with rfl | hs
            · refine List.length_pos_iff.mp ?_
              rw [sl_ln]
              omega
            · exact i2 s hs
/-- names of a mixed group -/
theorem mxL_W : ∀ (n k : Nat), k ≤ e → Wn ((mxL T e n k).map (fun q => sl T q.1 (q.2 - q.1))) + k ≤ e ∧ (∀ s ∈ (mxL T e n k).map (fun q => sl T q.1 (q.2 - q.1)), s ≠ []) ∧ ∀ b z, mxk T e n b k = some z → Wn ((mxL T e n k).map (fun q => sl T q.1 (q.2 - q.1))) + k + 1 ≤ z := by
  intro n
  induction n with
  | zero => intro k hk; exact ⟨by show 0 + k ≤ e; omega, fun s h => (by cases h), fun b z h => by cases h⟩
  | succ n ih =>
    intro k hk
    have hs := skS (T := T) hk
    unfold mxL
    by_cases c : mt T e (sk isSp T e k) [124] = true
    · have hm := mt_one (by decide) c
      rw [if_pos c]
      have hs2 := skS (T := T) (e := e) (k := sk isSp T e k + 1) (by omega)
      have ea : asp T e (some (sk isSp T e k + 1)) = some (sk isSp T e (sk isSp T e k + 1)) := rfl
      rw [ea]
      cases hn : nmg T e true (some (sk isSp T e (sk isSp T e k + 1))) with
      | none =>
        refine ⟨by show 0 + k ≤ e; omega, fun s h => (by cases h), fun b z h => ?_⟩
        unfold mxk at h
        rw [if_pos c, ea, hn] at h
        cases h
      | some j =>
        dsimp only
        have hj := nmg_lt hn
        obtain ⟨i1, i2, i3⟩ := ih j hj.2.2
        rw [List.map_cons, Wn_cons, sl_ln]
        refine ⟨by omega, fun s hs => ?_, fun b z h => ?_⟩
        · rcases List.mem_cons.mp hs with rfl | hs
          · refine List.length_pos_iff.mp ?_
            rw [sl_ln]
            omega
          · exact i2 s hs
        · unfold mxk at h
          rw [if_pos c, ea, hn] at h
          have := i3 _ z h
          omega
    · rw [if_neg c]
      refine ⟨by show 0 + k ≤ e; omega, fun s h => (by cases h), fun b z h => ?_⟩
      unfold mxk at h
      rw [if_neg c] at h
      cases hw : wd T e [41] (some (sk isSp T e k)) with
      | none => rw [hw] at h; cases h
      | some w =>
        rw [hw] at h
        dsimp only at h
        have := wd_one (by decide) hw
        show 0 + k + 1 ≤ z
        split at h
        · cases h; omega
        · split at h
          · cases h
          · cases h; omega
/-- names of a model -/
theorem bnm_W : ∀ (n k : Nat), k ≤ e + 1 → Wn (bnm T e n k) + k ≤ e + 1 ∧ (∀ s ∈ bnm T e n k, s ≠ []) := by
  intro n
  induction n using Nat.strongRecOn with
  | ind n ih =>
    intro k hk
    cases n with
    | zero => exact ⟨by show 0 + k ≤ e + 1; omega, fun s h => (by cases h)⟩
    | succ n =>
      unfold bnm
      by_cases c : e ≤ k
      · rw [if_pos c]
        exact ⟨by show 0 + k ≤ e + 1; omega, fun s h => (by cases h)⟩
      · rw [if_neg c]
        cases hn : nmg T e true (some k) with
        | none =>
          dsimp only
          have := ih n (by omega) (k + 1) (by omega)
          exact ⟨by omega, this.2⟩
        | some j =>
          dsimp only
          have hj := nmg_lt hn
          rw [Wn_cons, sl_ln]
          have hne : sl T k (j - k) ≠ [] := by
            refine List.length_pos_iff.mp ?_
            rw [sl_ln]
            omega
          have hstop : ¬ (j < e ∧ isNm (T j) = true) := by
            intro z
            have ej : j = sk isNm T e (k + 1) := by
              have hn' : (if isSt (lk T e k) = true then some (sk isNm T e (k + 1)) else none) = some j := hn
              split at hn'
              · exact (Option.some.inj hn').symm
              · cases hn'
            have := sk_not (p := isNm) (T := T) (e := e) (i := k + 1) (by omega) (by omega)
            rw [← ej, z.2] at this
            cases this
          cases n with
          | zero => exact ⟨by show _ + 0 + _ ≤ _; omega, fun s hs => by
              rcases List.mem_cons.mp hs with rfl | hs
              · exact hne
              · cases hs⟩
          | succ n =>
            by_cases ce : e ≤ j
            · have e0 : bnm T e (n + 1) j = [] := by unfold bnm; rw [if_pos ce]
              rw [e0]
              exact ⟨by rw [Wn_nil]; omega, fun s hs => by
                rcases List.mem_cons.mp hs with rfl | hs
                · exact hne
                · cases hs⟩
            · have hz : nmg T e true (some j) = none := by
                unfold nmg
                dsimp only
                have hlk : lk T e j = T j := lk_b (by omega)
                rw [hlk, if_neg]
                intro z
                exact hstop ⟨by omega, nm_st2 z⟩
              have e0 : bnm T e (n + 1) j = bnm T e n (j + 1) := by
                conv => lhs; unfold bnm
                rw [if_neg ce, hz]
              rw [e0]
              have := ih n (by omega) (j + 1) (by omega)
              exact ⟨by omega, fun s hs => by
                rcases List.mem_cons.mp hs with rfl | hs
                · exact hne
                · exact this.2 s hs⟩
end Kw1
