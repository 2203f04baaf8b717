section Kwh
variable {L : Nat → Nat} {o : Nat} {σ τ υ : IS} {bk : List Str} {pl : List Int} {ad : List ADc} {el : List Elm} {at_ : List Att} {R : Int → IS → Prop}
theorem LPm.mv {E : Str → Str} (h : LPm at_ bk E σ) (h1 : τ.1 17 10 = σ.1 17 10) (h2 : τ.1 17 11 = σ.1 17 11) : LPm at_ bk E τ := by
  unfold LPm at h ⊢
  rw [h1, h2]
  exact h
/-- the attributes of one pass, in their order -/
theorem sp_K_pick {n : Nat} {v : Bool} {x : Int} (h17 : σ.1 17 1 = (o : Int)) (hD : KD4 L o σ bk pl ad el at_) (hV : VCh at_) (hN : NCh el at_) (hL : L 245 = 32768 ∧ L 247 = 32768) (he : n < el.length) (hx : x = (n : Int)) (hK : KD (EN el at_ (n : Int)) (ats at_ (el.getD n elD))) (h3 : ∀ t ∈ ats at_ (el.getD n elD), nm3 t = 0)
    (hq : ∀ (τ : IS) (gl : List Nat), WKq σ τ → gl.length ≤ 32768 → (∀ i, i < gl.length → τ.2 245 i = (gl.getD i 0 : Int)) → (∀ j ∈ gl, j < at_.length) → gl.map (fun j => at_.getD j atD) = pkA (EN el at_ (el.getD n elD).2.1) (EN el at_ (n : Int)) (ats at_ (el.getD n elD)) v → R (gl.length : Int) τ) : w_KWriter_pick L x (b1 v) R σ := by
  subst hx
  have hD' := hD
  obtain ⟨hLn, hB, hE, hA, hp, hd, hal, hel, hpl, hpool⟩ := hD'
  obtain ⟨l8, l8', l8''⟩ : (∀ k, 8 ≤ k → k ≤ 13 → L (rfo o k) = L (rfo o 8)) ∧ 16500 ≤ L (rfo o 8) ∧ L (rfo o 8) ≤ 32768 := by obtain ⟨-, -, -, -, -, -, -, -, -, -, -, -, -, -, -, -, -, x, -⟩ := hLn; exact x
  have l3 : ∀ k, 3 ≤ k → k ≤ 6 → L (rfo o k) = 16384 := by obtain ⟨-, -, -, -, -, -, -, -, -, -, -, -, -, -, -, x, -⟩ := hLn; exact x
  have ho := hLn.oo
  have hdy : dyD (o : Int) := by unfold dyD; rcases ho with y | y <;> rw [y] <;> decide
  obtain ⟨-, -, n5, n6⟩ := hE.2 n he
  obtain ⟨d1, -⟩ := hd n he
  have hkey : ∀ i j, i < j → j < (el.getD n elD).2.2.2.1 → wky (EN el at_ (n : Int)) (at_.getD ((el.getD n elD).2.2.1 + i) atD).1 ≠ wky (EN el at_ (n : Int)) (at_.getD ((el.getD n elD).2.2.1 + j) atD).1 := fun i j hij hj => by
    have := List.pairwise_iff_getElem.mp hK i j (by rw [ats_len]; omega) (by rw [ats_len]; omega) hij
    have ei : ∀ m (hm : m < (ats at_ (el.getD n elD)).length), (ats at_ (el.getD n elD))[m] = at_.getD ((el.getD n elD).2.2.1 + m) atD := fun m hm => by
      have h7 := ats_get (at_ := at_) (x := el.getD n elD) (i := m) (by rw [ats_len] at hm; exact hm)
      rw [List.getD_eq_getElem?_getD, List.getElem?_eq_getElem hm] at h7
      exact h7
    rw [ei, ei] at this
    exact this
  have hatm : ∀ i, i < (el.getD n elD).2.2.2.1 → at_.getD ((el.getD n elD).2.2.1 + i) atD ∈ ats at_ (el.getD n elD) := fun i hi => by
    unfold ats
    exact List.mem_map.mpr ⟨i, List.mem_range.mpr hi, rfl⟩
  have hatm2 : ∀ t, t ∈ ats at_ (el.getD n elD) ↔ ∃ i, i < (el.getD n elD).2.2.2.1 ∧ t = at_.getD ((el.getD n elD).2.2.1 + i) atD := fun t => by
    unfold ats
    rw [List.mem_map]
    exact ⟨fun ⟨i, i1, i2⟩ => ⟨i, List.mem_range.mp i1, i2.symm⟩, fun ⟨i, i1, i2⟩ => ⟨i, List.mem_range.mpr i1, i2.symm⟩⟩
  generalize hf : (el.getD n elD).2.2.1 = f at *
  generalize hc : (el.getD n elD).2.2.2.1 = cnt at *
  generalize hE0 : EN el at_ (el.getD n elD).2.1 = E0 at *
  generalize hEE : EN el at_ (n : Int) = E at *
  unfold w_KWriter_pick
  rw [h17, show Int.toNat (o : Int) = o from rfl, show Int.toNat (n : Int) = n from rfl, n5]
  refine ⟨hdy, ⟨by omega, by rw [l3 5 (by omega) (by omega)]; omega⟩, ?_⟩
  refine WL_ind (fun z ρ => ∃ (m : Nat) (gl : List Nat), z = ((gl.length : Int), ((f + m : Nat) : Int)) ∧ m ≤ cnt ∧ gl.length ≤ m ∧ WKq σ ρ ∧ (∀ i, i < gl.length → ρ.2 245 i = (gl.getD i 0 : Int)) ∧ gl.Pairwise (fun i j => klt (wky E (at_.getD i atD).1) (wky E (at_.getD j atD).1) = true) ∧ (∀ j, j ∈ gl ↔ ∃ i, j = f + i ∧ i < m ∧ (dcl (at_.getD j atD).1).isSome = v ∧ idl E0 (at_.getD j atD) = false) ∧ (v = false → LPm at_ bk E ρ ∧ ∀ j ∈ gl, MNg at_ (ρ.2 247 (j - f)) (mng E (at_.getD j atD).1))) (fun z _ => ((f : Int) + (cnt : Int) - z.2).toNat) ?_ _ _ ⟨0, [], rfl, Nat.zero_le _, Nat.zero_le _, ⟨fun p k a => by rw [pf_1, if_neg (fun z => a ⟨z.1, Or.inl z.2⟩)], fun _ _ _ => rfl⟩, fun i hi => absurd hi (Nat.not_lt_zero _), List.Pairwise.nil, fun j => ⟨fun z => (by cases z), fun ⟨i, _, z, _⟩ => absurd z (Nat.not_lt_zero _)⟩, fun _ => ⟨Or.inl pf_eq, fun j hj => (by cases hj)⟩⟩
  rintro z ρ ⟨m, gl, rfl, m1, m2, m3, m4, m5, m6, m7⟩ K hKK
  try dsimp only
  have r1 : ρ.1 17 1 = (o : Int) := (m3.1 17 1 (by omega)).trans h17
  have hDρ := hD.wk m3.wx
  rw [r1, show Int.toNat (o : Int) = o from rfl, m3.wx.ro ho (show 6 ≤ 19 by omega), n6]
  refine ⟨hdy, ⟨by omega, by rw [l3 6 (by omega) (by omega)]; omega⟩, ⟨by omega, by omega⟩, ?_⟩
  by_cases cm : m < cnt
  · rw [if_pos (by omega)]
    refine sp_K4_isDecl hDρ (i := f + m) (by omega) rfl (WJ_dir ?_)
    try dsimp only
    -- it is not written
    have skip : ¬ ((dcl (at_.getD (f + m) atD).1).isSome = v ∧ idl E0 (at_.getD (f + m) atD) = false) → inR (((f + m : Nat) : Int) + 1) ∧ K ((gl.length : Int), ((f + m : Nat) : Int) + 1) ρ := fun hno => by
      refine ⟨⟨by omega, by omega⟩, hKK _ _ ⟨m + 1, gl, by rw [show ((f + m : Nat) : Int) + 1 = ((f + (m + 1) : Nat) : Int) by omega], by omega, by omega, m3, m4, m5, fun j => ?_, m7⟩ (by dsimp only; omega)⟩
      rw [m6 j]
      constructor
      · rintro ⟨i, i1, i2, i3⟩; exact ⟨i, i1, by omega, i3⟩
      · rintro ⟨i, i1, i2, i3⟩
        by_cases ci : i = m
        · subst ci; subst i1; exact absurd i3 hno
        · exact ⟨i, i1, by omega, i3⟩
    by_cases cv : (dcl (at_.getD (f + m) atD).1).isSome = v
    · rw [if_pos (by rw [cv])]
      refine WJ_dir ?_
      try dsimp only
      -- it is put into its place
      have put : idl E0 (at_.getD (f + m) atD) = false → ∀ (w : Int) (υ : IS), WKq ρ υ → (υ.2 = ρ.2) → (v = false → LPm at_ bk E υ ∧ MNg at_ w (mng E (at_.getD (f + m) atD).1)) → inL L 247 (((f + m : Nat) : Int) - (f : Int)) ∧ WL (fun (K24 : Int → IS → Prop) (s26 : Int) (σ27 : IS) => WJ (fun (s30 : Unit) (σ31 : IS) => inL L 245 s26 ∧ inR ((gl.length : Int) + 1) ∧ inR (((f + m : Nat) : Int) + 1) ∧ K ((gl.length : Int) + 1, ((f + m : Nat) : Int) + 1) (pr σ31 245 (Int.toNat s26) ((f + m : Nat) : Int))) (fun J28 => if 0 < s26 then inR (s26 - 1) ∧ inL L 245 (s26 - 1) ∧ w_KWriter_comesFirst L (f : Int) ((f + m : Nat) : Int) (σ27.2 245 (Int.toNat (s26 - 1))) (b1 v) (fun v36 σ35 => if v36 = 0 then J28 () σ35 else inR (s26 - 1) ∧ inL L 245 (s26 - 1) ∧ inL L 245 s26 ∧ inR (s26 + (-1)) ∧ K24 (s26 + (-1)) (pr σ35 245 (Int.toNat s26) (σ35.2 245 (Int.toNat (s26 - 1))))) σ27 else J28 () σ27)) (gl.length : Int) (pr υ 247 (Int.toNat (((f + m : Nat) : Int) - (f : Int))) w) := fun hid w υ u1 u2 u3 => by
        rw [show ((f + m : Nat) : Int) - (f : Int) = (m : Int) by omega, show Int.toNat (m : Int) = m from rfl]
        refine ⟨⟨by omega, by omega⟩, ?_⟩
        have hq1 : WKq σ (pr υ 247 m w) := m3.trans (u1.trans ⟨fun _ _ _ => rfl, fun r a b => by
          funext j
          rw [pr_2, if_neg (fun z => b z.1)]⟩)
        refine sp_K_ins (E := E) (G := fun s12 σ13 => inR (((f + m : Nat) : Int) + 1) ∧ K (s12, ((f + m : Nat) : Int) + 1) σ13) ((hq1.1 17 1 (by omega)).trans h17) (hD.wk hq1.wx) hV hN hL (by omega) (by omega) (by omega) cv (fun j hj => ?_) (fun e => ⟨?_, fun j hj => ?_⟩) (fun i hi => ?_) m5 (fun τ gl' t1 t2 t3 t4 t5 t6 => ?_)
        · obtain ⟨i, rfl, i2, i3, -⟩ := (m6 j).mp hj
          exact ⟨by omega, by omega, i3, fun z => hkey i m (by omega) cm z.symm⟩
        · rw [pr_2, if_pos ⟨rfl, by omega⟩]; exact (u3 e).2
        · obtain ⟨i, rfl, i2, -⟩ := (m6 j).mp hj
          rw [pr_2, if_neg (by omega), u2]
          exact (m7 e).2 _ hj
        · rw [pr_2, if_neg (by omega), u2]; exact m4 i hi
        · refine ⟨⟨by omega, by omega⟩, hKK _ _ ⟨m + 1, gl', ?_, by omega, by omega, hq1.trans ⟨fun p k _ => by rw [t1], fun r a b => t2 r a⟩, t4, t5, fun j => ?_, fun e => ⟨?_, fun j hj => ?_⟩⟩ (by dsimp only; omega)⟩
          · rw [t3]
            show (((gl.length : Int) + 1), ((f + m : Nat) : Int) + 1) = (((gl.length + 1 : Nat) : Int), ((f + (m + 1) : Nat) : Int))
            congr 1
          · rw [t6 j, m6 j]
            constructor
            · rintro (z | ⟨i, i1, i2, i3⟩)
              · exact ⟨m, z, by omega, by rw [z]; exact ⟨cv, hid⟩⟩
              · exact ⟨i, i1, by omega, i3⟩
            · rintro ⟨i, i1, i2, i3⟩
              by_cases ci : i = m
              · exact Or.inl (by rw [i1, ci])
              · exact Or.inr ⟨i, i1, by omega, i3⟩
          · exact (u3 e).1.mv (by rw [t1, pr_1]) (by rw [t1, pr_1])
          · rw [t2 247 (by decide), pr_2]
            rcases (t6 j).mp hj with z | z
            · rw [if_pos ⟨rfl, by omega⟩, z]; exact (u3 e).2
            · obtain ⟨i, rfl, i2, -⟩ := (m6 j).mp z
              rw [if_neg (by omega), u2]
              exact (m7 e).2 _ z
      cases v with
      | false =>
        rw [if_pos (by decide)]
        have hdn : dcl (at_.getD (f + m) atD).1 = none := by
          cases hdd : dcl (at_.getD (f + m) atD).1 with
          | none => rfl
          | some p => rw [hdd] at cv; cases cv
        have hid : idl E0 (at_.getD (f + m) atD) = false := by unfold idl; rw [hdn]
        refine ⟨⟨by omega, by omega⟩, WJ_dir ?_⟩
        try dsimp only
        rw [if_pos (by decide)]
        refine sp_K_meaning (n := n) (i := f + m) r1 hDρ he (by omega) rfl rfl hdn (by rw [hEE]; exact (m7 rfl).1) (fun w τ t1 t2 t3 => ?_)
        rw [hEE] at t2 t3
        exact put hid w τ ⟨t1.1, fun r _ _ => by rw [t1.2]⟩ t1.2 (fun _ => ⟨t2, t3⟩)
      | true =>
        rw [if_neg (by decide)]
        refine sp_K_isNews (n := n) (i := f + m) r1 hDρ hV he (by omega) rfl rfl cv (h3 _ (hatm m cm)) ?_
        rw [hE0]
        try dsimp only
        cases hid : idl E0 (at_.getD (f + m) atD) with
        | true =>
          rw [if_pos (by decide)]
          exact skip (fun z => by rw [hid] at z; cases z.2)
        | false =>
          rw [if_neg (by decide)]
          refine ⟨⟨by omega, by omega⟩, WJ_dir ?_⟩
          try dsimp only
          rw [if_neg (by decide)]
          exact put hid 0 ρ WKq.refl rfl (fun e => by cases e)
    · rw [if_neg (fun z => cv ?_)]
      · exact skip (fun z => cv z.1)
      · revert z
        cases (dcl (at_.getD (f + m) atD).1).isSome <;> cases v <;> first | (intro _; rfl) | (intro z; exact absurd z (by decide))
  · rw [if_neg (by omega)]
    have hmc : m = cnt := by omega
    subst hmc
    refine hq ρ gl m3 (by omega) m4 (fun j hj => ?_) ?_
    · obtain ⟨i, rfl, i2, -⟩ := (m6 j).mp hj
      omega
    · unfold pkA
      refine srt_uniq (k := fun t => wky E t.1) (List.pairwise_map.mpr m5) (srt_pw (k := fun t => wky E t.1) (List.Pairwise.filter _ hK)) (fun t => ?_)
      rw [List.mem_map, mem_srt, List.mem_filter, Bool.and_eq_true, beq_iff_eq, Bool.not_eq_true', hatm2]
      constructor
      · rintro ⟨j, j1, rfl⟩
        obtain ⟨i, rfl, i2, i3, i4⟩ := (m6 j).mp j1
        exact ⟨⟨i, i2, rfl⟩, i3, i4⟩
      · rintro ⟨⟨i, i1, rfl⟩, i3, i4⟩
        exact ⟨f + i, (m6 _).mpr ⟨i, rfl, i1, i3, i4⟩, rfl⟩
end Kwh
