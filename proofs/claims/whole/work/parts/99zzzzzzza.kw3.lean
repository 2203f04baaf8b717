/-! ===== room (3): all that stands in an item (pure) ===== -/
/-- names of a list of attributes -/
def nmAs (a : AS) : List Str := match spc (gd (cur a)) (cur a).length (some 9), alk (gd (cur a)) (cur a).length 0 with
  | some s, some _ => (match nmg (gd (cur a)) (cur a).length true (some s) with
    | none => []
    | some n => sl (gd (cur a)) s (n - s) :: adXn (gd (cur a)) (cur a).length ((cur a).length + 1) n)
  | _, _ => adWo (gd (cur a)) (cur a).length (nmg (gd (cur a)) (cur a).length true (spc (gd (cur a)) (cur a).length (some 9)))
/-- element and attribute of each definition -/
def prA (a : AS) : List (Str × Str) := match spc (gd (cur a)) (cur a).length (some 9), alk (gd (cur a)) (cur a).length 0 with
  | some s, some _ => (match nmg (gd (cur a)) (cur a).length true (some s) with
    | none => []
    | some n => (adL (gd (cur a)) (cur a).length ((cur a).length + 1) n).map (fun x => (sl (gd (cur a)) s (n - s), nmx (gd (cur a)) (cur a).length x)))
  | _, _ => []
/-- names of a tag -/
def nmTs (a : AS) : List Str := match tgk (gd (cur a)) (cur a).length 0, nmg (gd (cur a)) (cur a).length true (some 1) with
  | some _, some n => sl (gd (cur a)) 1 (n - 1) :: atN (gd (cur a)) (atL (gd (cur a)) (cur a).length ((cur a).length + 1) n)
  | _, _ => []
/-- the entity that is declared -/
def enS (t : List Int) : Option Ent := match iEnt (a0 t) with
  | .inl _ => none
  | .inr b => (aE b).head?
def nmEs (t : List Int) : List Str := match enS t with
  | none => []
  | some x => [x.1]
def tkN (a : AS) : List Str := if cur a = [] then [] else
  if aN a 4 = 1 then (if dSub a = 4 then nmP a else if dSub a = 5 then nmEl a else if dSub a = 6 then nmAs a else if dSub a = 7 then nmEs (cur a) else if dSub a = 8 then nmN a else [])
  else if aN a 4 = 2 then (if dCon a = 4 then nmP a else if dCon a = 7 then nmTs a else [])
  else (if dOut a = 2 then nmP a else if dOut a = 4 then nmTs a else if dOut a = 5 then nmD a else [])
def tkP (a : AS) : List (Str × Str) := if cur a = [] then [] else if aN a 4 = 1 then (if dSub a = 6 then prA a else []) else []
def tkG (a : AS) : Nat := if cur a = [] then 0 else if aN a 4 = 1 then 0 else if aN a 4 = 2 then (if dCon a = 7 then tgn a else 0) else (if dOut a = 4 then tgn a else 0)
def itE (a : AS) : Option Ent := if cur a = [] then none else if aN a 4 = 1 then (if dSub a = 7 then enS (cur a) else none) else none
/-- where an item ends -/
def itK (a : AS) : Option Nat := if cur a = [] then none else
  if aN a 4 = 1 then (if dSub a = 0 then some (sk isSp (gd (cur a)) (cur a).length 0) else if dSub a = 1 then pcp (gd (cur a)) (cur a).length 0 else if dSub a = 2 then wd (gd (cur a)) (cur a).length [62] (asp (gd (cur a)) (cur a).length (some 1)) else if dSub a = 3 then cmt (gd (cur a)) (cur a).length 0 else if dSub a = 4 then (pin (gd (cur a)) (cur a).length 0).map (fun z => z.2.2) else if dSub a = 5 then elk (gd (cur a)) (cur a).length 0 else if dSub a = 6 then alk (gd (cur a)) (cur a).length 0 else if dSub a = 7 then enk (gd (cur a)) (cur a).length 0 else if dSub a = 8 then ntk (gd (cur a)) (cur a).length 0 else none)
  else if aN a 4 = 2 then (if dCon a = 0 then rfp (gd (cur a)) (cur a).length (some 0) else if dCon a = 1 then some (sk isRn (gd (cur a)) (cur a).length 0) else if dCon a = 2 then etk (gd (cur a)) (cur a).length 0 else if dCon a = 3 then cmt (gd (cur a)) (cur a).length 0 else if dCon a = 4 then (pin (gd (cur a)) (cur a).length 0).map (fun z => z.2.2) else if dCon a = 5 then (sek (gd (cur a)) (cur a).length [93, 93, 62] 9).map (fun z => z + 3) else if dCon a = 6 then none else tgk (gd (cur a)) (cur a).length 0)
  else (if dOut a = 0 then some (sk isSp (gd (cur a)) (cur a).length 0) else if dOut a = 1 then cmt (gd (cur a)) (cur a).length 0 else if dOut a = 2 then (pin (gd (cur a)) (cur a).length 0).map (fun z => z.2.2) else if dOut a = 3 then none else if dOut a = 4 then tgk (gd (cur a)) (cur a).length 0 else dtk (gd (cur a)) (cur a).length 0)
def exl (o : Option Ent) : Nat := match o with
  | none => 0
  | some x => x.2.2.length
section Kw3
variable {T : Nat → Int} {e : Nat} {a : AS}
/-- what an item comes to: where it ends, its names, what it declares -/
def iw (k : Option Nat) (e : Nat) (N : List Str) (P : List (Str × Str)) (G : Nat) (x : Option Ent) : Prop := (∀ z, k = some z → 0 < z ∧ z ≤ e ∧ Wn N + exl x ≤ z ∧ 8 * P.length + 5 * G + exl x ≤ z) ∧ (k = none → Wn N ≤ e ∧ 8 * P.length + 5 * G ≤ e ∧ x = none) ∧ ∀ s ∈ N, s ≠ []
theorem iw_0 {k : Option Nat} (h : ∀ z, k = some z → 0 < z ∧ z ≤ e) : iw k e [] [] 0 none := ⟨fun z hz => ⟨(h z hz).1, (h z hz).2, by show 0 + 0 ≤ z; omega, by show 8 * 0 + 5 * 0 + 0 ≤ z; omega⟩, fun _ => ⟨Nat.zero_le _, by show 8 * 0 + 5 * 0 ≤ e; omega, rfl⟩, fun s h => (by cases h)⟩
theorem iw_N {k : Option Nat} {N : List Str} (h : ∀ z, k = some z → 0 < z ∧ z ≤ e ∧ Wn N ≤ z) (h' : k = none → Wn N ≤ e) (hn : ∀ s ∈ N, s ≠ []) : iw k e N [] 0 none := ⟨fun z hz => ⟨(h z hz).1, (h z hz).2.1, (h z hz).2.2, by show 8 * 0 + 5 * 0 + 0 ≤ z; omega⟩, fun z => ⟨h' z, by show 8 * 0 + 5 * 0 ≤ e; omega, rfl⟩, hn⟩
theorem sl_ne {i j : Nat} (h : i < j) : sl T i (j - i) ≠ [] := by
  refine List.length_pos_iff.mp ?_
  rw [sl_ln]
  omega
theorem iw_pin : iw ((pin (gd (cur a)) (cur a).length 0).map (fun z => z.2.2)) (cur a).length (nmP a) [] 0 none := by
  unfold nmP
  generalize gd (cur a) = T
  generalize (cur a).length = e
  cases hp : pin T e 0 with
  | none => exact iw_N (fun z h => (by cases h)) (fun _ => Nat.zero_le _) (fun s h => (by cases h))
  | some z =>
    obtain ⟨n, f, q⟩ := z
    have := pin_lt hp
    refine iw_N (fun z h => ?_) (fun h => (by cases h)) (fun s hs => ?_)
    · cases h
      refine ⟨by dsimp only; omega, by dsimp only; omega, ?_⟩
      dsimp only
      rw [Wn_cons, Wn_nil, sl_ln]
      omega
    · rw [List.mem_singleton] at hs
      rw [hs]
      exact sl_ne (by dsimp only; omega)
theorem atL_W0 : ∀ (n k : Nat), k ≤ e → Wn (atN T (atL T e n k)) + 3 * (atL T e n k).length + k ≤ e ∧ (∀ s ∈ atN T (atL T e n k), s ≠ []) ∧ 5 * (atL T e n k).length + k ≤ e := by
  intro n
  induction n with
  | zero => intro k hk; exact ⟨by show 0 + 3 * 0 + k ≤ e; omega, fun s h => (by cases h), by show 5 * 0 + k ≤ e; omega⟩
  | succ n ih =>
    intro k hk
    have h0 : Wn (atN T []) + 3 * ([] : List (Nat × Nat × Nat × Nat)).length + k ≤ e ∧ (∀ s ∈ atN T [], s ≠ []) ∧ 5 * ([] : List (Nat × Nat × Nat × Nat)).length + k ≤ e := ⟨by show 0 + 3 * 0 + k ≤ e; omega, fun s h => (by cases h), by show 5 * 0 + k ≤ e; omega⟩
    unfold atL
    cases hs : spc T e (some k) with
    | none => exact h0
    | some x =>
      dsimp only
      have hx := spc_gt hk hs
      cases hn : nmg T e true (some x) with
      | none => exact h0
      | some b =>
        dsimp only
        have hb := nmg_lt hn
        cases hv : eqs T e (some b) with
        | none => exact h0
        | some v =>
          dsimp only
          have hv2 := eqs_gt hb.2.2 hv
          cases hj : vlp T e (some v) with
          | none => exact h0
          | some j =>
            dsimp only
            have hj2 := vlp_gt hj
            obtain ⟨i1, i2, i3⟩ := ih j hj2.2.1
            have ec : atN T ((x, b, v, j) :: atL T e n j) = sl T x (b - x) :: atN T (atL T e n j) := rfl
            rw [ec, Wn_cons, sl_ln, List.length_cons]
            refine ⟨by omega, fun s hs => ?_, by omega⟩
            rcases List.mem_cons.mp hs with rfl | hs
            · exact sl_ne hb.2.1
            · exact i2 s hs
theorem iw_tag : iw (tgk (gd (cur a)) (cur a).length 0) (cur a).length (nmTs a) [] (tgn a) none := by
  unfold nmTs tgn
  generalize gd (cur a) = T
  generalize (cur a).length = e
  cases hk : tgk T e 0 with
  | none =>
    refine ⟨fun z h => (by cases h), fun _ => ⟨Nat.zero_le _, ?_, rfl⟩, fun s h => (by cases h)⟩
    cases hn : nmg T e true (some 1) with
    | none => show 8 * 0 + 5 * 0 ≤ e; omega
    | some n =>
      have h1 := nmg_lt hn
      have := (atL_W0 (T := T) (e := e) (e + 1) n h1.2.2).2.2
      show 8 * 0 + 5 * (atL T e (e + 1) n).length ≤ e
      omega
  | some k =>
    obtain ⟨n, κ, h1, h2, h3, h4, h5, h6⟩ := tgk_at hk
    rw [h1]
    dsimp only
    obtain ⟨w1, w2, w3⟩ := atL_W (e + 1) n κ (by omega) h2
    have w5 := Wn_2 w2
    have w6 : (atN T (atL T e (e + 1) n)).length = (atL T e (e + 1) n).length := by unfold atN; rw [List.length_map]
    refine ⟨fun z hz => ?_, fun h => (by cases h), fun s hs => ?_⟩
    · cases hz
      rw [Wn_cons, sl_ln]
      refine ⟨by omega, h6, ?_, ?_⟩
      · show _ + 0 ≤ k
        omega
      · show 8 * 0 + 5 * _ + 0 ≤ k
        omega
    · rcases List.mem_cons.mp hs with rfl | hs
      · exact sl_ne h3
      · exact w2 s hs
theorem alk_at {k : Nat} (h9 : 9 ≤ e) (h : alk T e 0 = some k) : ∃ s n κ, spc T e (some 9) = some s ∧ nmg T e true (some s) = some n ∧ adk T e (e + 1) n = some κ ∧ 10 ≤ s ∧ s < n ∧ n ≤ κ ∧ κ < k ∧ k ≤ e := by
  unfold alk at h
  rw [Nat.zero_add] at h
  cases hs : spc T e (some 9) with
  | none => rw [hs] at h; cases h
  | some s =>
    rw [hs] at h
    have h1 := spc_gt h9 hs
    cases hn : nmg T e true (some s) with
    | none => rw [hn] at h; cases h
    | some n =>
      rw [hn] at h
      have h2 := nmg_lt hn
      have h' : wd T e [62] (asp T e (adk T e (e + 1) n)) = some k := h
      cases hz : adk T e (e + 1) n with
      | none => rw [hz] at h'; cases h'
      | some κ =>
        rw [hz] at h'
        have h3 := adk_le _ _ _ h2.2.2 hz
        have h4 := wd_asp (by decide) h3.2 h'
        exact ⟨s, n, κ, rfl, hn, hz, by omega, by omega, h3.1, h4.1, h4.2⟩
theorem iw_atl (h9 : 9 ≤ (cur a).length) : iw (alk (gd (cur a)) (cur a).length 0) (cur a).length (nmAs a) (prA a) 0 none := by
  unfold nmAs prA
  generalize gd (cur a) = T
  generalize (cur a).length = e at h9 ⊢
  cases hk : alk T e 0 with
  | none =>
    have e1 : ∀ (q : Option Nat), (match q, (none : Option Nat) with
      | some s, some _ => (match nmg T e true (some s) with
        | none => []
        | some n => sl T s (n - s) :: adXn T e (e + 1) n)
      | _, _ => adWo T e (nmg T e true (spc T e (some 9)))) = adWo T e (nmg T e true (spc T e (some 9))) := by intro q; cases q <;> rfl
    have e2 : ∀ (q : Option Nat), (match q, (none : Option Nat) with
      | some s, some _ => (match nmg T e true (some s) with
        | none => ([] : List (Str × Str))
        | some n => (adL T e (e + 1) n).map (fun x => (sl T s (n - s), nmx T e x)))
      | _, _ => []) = [] := by intro q; cases q <;> rfl
    rw [e1, e2]
    have hw : Wn (adWo T e (nmg T e true (spc T e (some 9)))) ≤ e ∧ ∀ s ∈ adWo T e (nmg T e true (spc T e (some 9))), s ≠ [] := by
      cases hs : spc T e (some 9) with
      | none => exact ⟨Nat.zero_le _, fun s h => (by cases h)⟩
      | some s =>
        cases hn : nmg T e true (some s) with
        | none => exact ⟨Nat.zero_le _, fun s h => (by cases h)⟩
        | some n =>
          have h2 := nmg_lt hn
          have := adW_W (T := T) (e + 1) n h2.2.2
          refine ⟨by show Wn (adW T e (e + 1) n) ≤ e; omega, ?_⟩
          have key : ∀ (m k : Nat), ∀ s ∈ adW T e m k, s ≠ [] := by
            intro m
            induction m with
            | zero => intro k s hs; cases hs
            | succ m ih =>
              intro k s hs
              unfold adW at hs
              split at hs
              · cases hs
              · split at hs
                · cases hs
                · rcases List.mem_append.mp hs with hs | hs
                  · unfold tyWo at hs
                    split at hs
                    · cases hs
                    · exact tyW_ne s hs
                  · split at hs
                    · cases hs
                    · exact ih _ s hs
          exact key (e + 1) n
    exact ⟨fun z h => (by cases h), fun _ => ⟨hw.1, by show 8 * 0 + 5 * 0 ≤ e; omega, rfl⟩, hw.2⟩
  | some k =>
    obtain ⟨s, n, κ, h1, h2, h3, h4, h5, h6, h7, h8⟩ := alk_at h9 hk
    rw [h1]
    dsimp only
    rw [h2]
    dsimp only
    obtain ⟨w1, w2, w3, w4, w5, w6⟩ := adXn_W (e + 1) n κ (by omega) h3
    refine ⟨fun z hz => ?_, fun h => (by cases h), fun x hx => ?_⟩
    · cases hz
      rw [Wn_cons, sl_ln, List.length_map]
      refine ⟨by omega, h8, ?_, ?_⟩
      · show _ + 0 ≤ k
        omega
      · show _ + 5 * 0 + 0 ≤ k
        omega
    · rcases List.mem_cons.mp hx with rfl | hx
      · exact sl_ne h5
      · exact w4 x hx
end Kw3
