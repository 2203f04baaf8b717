/-! ===== items of the class: definitions, step by step, and at shifted places ===== -/
section JI23
variable {T T' : Nat → Int} {e d : Nat}
theorem adL_fuel : ∀ (n m k : Nat), k ≤ e → e < n + k → e < m + k → adL T e n k = adL T e m k := by
  intro n
  induction n with
  | zero => intro m k h0 h1 h2; omega
  | succ n ih =>
    intro m k h0 h1 h2
    cases m with
    | zero => omega
    | succ m =>
      show (match spc T e (some k) with
        | none => []
        | some x => match nmg T e true (some x) with
          | none => []
          | some _ => match dfn T e x with
            | none => []
            | some j => x :: adL T e n j) = (match spc T e (some k) with
        | none => []
        | some x => match nmg T e true (some x) with
          | none => []
          | some _ => match dfn T e x with
            | none => []
            | some j => x :: adL T e m j)
      cases hs : spc T e (some k) with
      | none => rfl
      | some x =>
        dsimp only
        have g1 := spc_gt h0 hs
        cases hn : nmg T e true (some x) with
        | none => rfl
        | some b =>
          dsimp only
          cases hv : dfn T e x with
          | none => rfl
          | some j =>
            dsimp only
            have g3 := dfn_gt hv
            rw [ih m j g3.2 (by omega) (by omega)]
theorem adL_step {k : Nat} (hk : k ≤ e) : adL T e (e + 1) k = match spc T e (some k) with
    | none => []
    | some x => match nmg T e true (some x) with
      | none => []
      | some _ => match dfn T e x with
        | none => []
        | some j => x :: adL T e (e + 1) j := by
  show (match spc T e (some k) with
    | none => []
    | some x => match nmg T e true (some x) with
      | none => []
      | some _ => match dfn T e x with
        | none => []
        | some j => x :: adL T e e j) = _
  cases hs : spc T e (some k) with
  | none => rfl
  | some x =>
    dsimp only
    have g1 := spc_gt hk hs
    cases hn : nmg T e true (some x) with
    | none => rfl
    | some b =>
      dsimp only
      cases hv : dfn T e x with
      | none => rfl
      | some j =>
        dsimp only
        have g3 := dfn_gt hv
        rw [adL_fuel e (e + 1) j g3.2 (by omega) (by omega)]
theorem sh_brL (h : SHT T T' e d) {b : Bool} : ∀ (n k : Nat), brL T' (d + e) b n (d + k) = (brL T e b n k).map (fun z => (d + z.1, d + z.2)) := by
  intro n
  induction n with
  | zero => intro k; rfl
  | succ n ih =>
    intro k
    show (match nmg T' (d + e) b (asp T' (d + e) (some (d + k))) with
      | none => []
      | some j => (sk isSp T' (d + e) (d + k), j) :: (if mt T' (d + e) (sk isSp T' (d + e) j) [124] = true then brL T' (d + e) b n (sk isSp T' (d + e) j + 1) else [])) = (match nmg T e b (asp T e (some k)) with
      | none => []
      | some j => (sk isSp T e k, j) :: (if mt T e (sk isSp T e j) [124] = true then brL T e b n (sk isSp T e j + 1) else []) : List (Nat × Nat)).map (fun (z : Nat × Nat) => (d + z.1, d + z.2))
    rw [sh_asps h, sh_nmg h]
    cases hn : nmg T e b (asp T e (some k)) with
    | none => rfl
    | some j =>
      rw [mvo_some]
      dsimp only
      rw [sh_sk h, sh_sk h, sh_mt h, List.map_cons]
      by_cases c : mt T e (sk isSp T e j) [124] = true
      · rw [if_pos c, if_pos c, Nat.add_assoc, ih]
      · rw [if_neg c, if_neg c]; rfl
theorem sh_tyn (h : SHT T T' e d) {i n : Nat} (hn : nmg T e true (some i) = some n) : tyn (sl T' (d + i) (d + n - (d + i))) = tyn (sl T i (n - i)) := by
  have g := nmg_lt hn
  rw [show d + n - (d + i) = n - i by omega, sh_sl h (by omega)]
theorem sh_atyN (h : SHT T T' e d) (i : Nat) : atyN T' (d + e) (d + i) = atyN T e i := by
  unfold atyN
  rw [sh_lk h, sh_nmgs h]
  cases hn : nmg T e true (some i) with
  | none => rfl
  | some n =>
    rw [mvo_some]
    dsimp only
    rw [sh_tyn h hn]
theorem sh_atyL (h : SHT T T' e d) {i z : Nat} (hi : i ≤ e) (ht : typ T e i = some z) : atyL T' (d + e) (d + i) = (atyL T e i).map (fun z => (d + z.1, d + z.2)) := by
  have hz := typ_len hi ht
  unfold atyL
  rw [sh_lk h, sh_nmgs h]
  by_cases c : lk T e i = 40
  · rw [if_pos c, if_pos c, Nat.add_assoc d i 1, sh_brL h, brL_fuel (d + e + 1) (e + 1) (i + 1) (by omega) (by omega) (by omega)]
  · rw [if_neg c, if_neg c]
    cases hn : nmg T e true (some i) with
    | none => rfl
    | some n =>
      rw [mvo_some]
      dsimp only
      rw [sh_tyn h hn]
      cases htn : tyn (sl T i (n - i)) with
      | none => rfl
      | some t =>
        dsimp only
        by_cases c8 : t = 8
        · rw [if_pos c8, if_pos c8, sh_spcs h]
          cases hs : spc T e (some n) with
          | none => rfl
          | some x =>
            rw [mvo_some]
            dsimp only
            have g := nmg_lt hn
            have g1 := spc_gt g.2.2 hs
            have hx : x + 1 ≤ e := by
              unfold typ at ht
              rw [if_neg c, hn] at ht
              dsimp only at ht
              rw [htn] at ht
              dsimp only at ht
              rw [if_pos c8, hs] at ht
              have := brt_gt ht
              omega
            rw [Nat.add_assoc d x 1, sh_brL h, brL_fuel (d + e + 1) (e + 1) (x + 1) hx (by omega) (by omega)]
        · rw [if_neg c8, if_neg c8]; rfl
end JI23
