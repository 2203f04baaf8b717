section Rt12
variable {el : List Elm} {at_ : List Att} {S r : List Evt} {N0 rm nd m z : Nat} {sk : List Nat} {b b' : AS} {t s : Str}
theorem PIg.cr (h : PIg t s) : PIg t (s.flatMap crE) := by
  obtain ⟨h1, h2, h3, h4, h5⟩ := h
  refine ⟨h1, h2, nqp_cr s 0 h3, ?_, ?_⟩
  · cases s with
    | nil => exact hdn_nil
    | cons c s =>
      rw [List.flatMap_cons]
      unfold crE
      split
      · rw [ti_1088]; exact hdn_cons (by decide)
      · exact hdn_cons (h4 c rfl)
  · intro c hc
    obtain ⟨x, x1, x2⟩ := List.mem_flatMap.mp hc
    unfold crE at x2
    split at x2
    · rw [ti_1088] at x2
      have : ∀ c ∈ [(38 : Int), 35, 120, 68, 59], isCh c = true := by decide
      exact this c x2
    · rw [List.mem_singleton.mp x2]; exact h5 x x1
theorem pis_evm : ∀ {d : List Evt}, pis (d.map evm) = pis d
  | [] => rfl
  | .inl _ :: d => pis_evm (d := d)
  | .inr _ :: d => by
    show pis (d.map evm) + 1 = pis d + 1
    rw [pis_evm]
theorem RT.pisB (h : RT el at_ S N0 b r sk m z) : pis (aS b) + pis r ≤ pis S := by
  obtain ⟨d, d1, d2⟩ := h.2.2.2.1
  rw [d1, d2, pis_evm, pis_app]
  exact Nat.le_refl _
theorem RT.n4 (h : RT el at_ S N0 b r sk m z) : aN b 4 ≠ 1 ∧ (sk = [] → aN b 4 ≠ 2) ∧ (sk ≠ [] → aN b 4 = 2) ∧ (sk = [] → m = 0 → aN b 4 = 0) := by
  have := h.2.1.2.2.2.1
  rw [this]
  unfold phs
  refine ⟨?_, ?_, ?_, ?_⟩
  · split
    · split <;> omega
    · omega
  · intro e
    rw [if_pos e]
    split <;> omega
  · intro e
    rw [if_neg e]
  · intro e1 e2
    rw [if_pos e1, if_pos e2]
/-- an instruction -/
theorem RT.pin (hc : RTc el at_ S) (hnd : el.length + (flW el at_ el.length).length + pis S ≤ nd) (h : RT el at_ S N0 b r sk m z) {r' : List Evt} {z' : Nat} (hr : r = .inr (t, s) :: r') (htx : txR el at_ z r sk m = wPiC t (s.flatMap crE) ++ txR el at_ z' r' sk m) (hz : z' ≤ 2 ∧ (z' = 1 → sk = [] ∧ m = 0) ∧ (z' = 2 → sk = [] ∧ 0 < m ∧ ∃ t s r'', r' = .inr (t, s) :: r'')) : ∃ b', stp rm nd b = .inr b' ∧ RT el at_ S N0 b' r' sk m z' ∧ (cur b').length < (cur b).length := by
  have hg : PIg t s := by
    obtain ⟨d, d1, -⟩ := h.2.2.2.1
    exact hc.2.2.1 t s (by rw [d1, hr]; exact List.mem_append_right _ List.mem_cons_self)
  have hcur : cur b = wPiC t (s.flatMap crE) ++ txR el at_ z' r' sk m := h.txt.trans htx
  obtain ⟨y, hy⟩ := wPiC_hd (t := t) (s := s.flatMap crE)
  have hb := h.pisB
  rw [hr] at hb
  have hb' : pis (aS b) + (pis r' + 1) ≤ pis S := hb
  have hn3 := h.2.1.2.2.1
  have hB := h.2.2.1.2.1
  have hm := h.2.2.1.2.2.2
  have hfl : (flW el at_ m).length ≤ (flW el at_ el.length).length := by
    have := flW_mono (el := el) (at_ := at_) (m := m) (el.length - m)
    rw [Nat.add_sub_cancel' hm] at this
    exact this
  have hs : stp rm nd b = iPin nd true b := stp_pinW (r := y ++ txR el at_ z' r' sk m) (by rw [hcur, hy]; rfl) h.n4.1
  have hp := rd_pin (nd := nd) hcur hg.cr (by rw [hn3, hB]; omega)
  have hlen := wPiC_len (t := t) (s := s.flatMap crE) hg.1
  obtain ⟨o1, o2, o3, o4, o5, o6, o7, o8, o9, o10⟩ := tch_other (a := b) (sp := false)
  refine ⟨_, hs.trans hp, h.nx (x := [.inr (t, s)]) (p := 1) (y := wPiC t (s.flatMap crE)) hr htx rfl ⟨o1, o2, o4, o5, o6, o7, o10⟩ ⟨?_, ?_, ?_, ?_, ?_, ?_, ?_⟩ ⟨(S0.tchE (a := b) (b := false)).1, (S0.tchE (a := b) (b := false)).2.1, rfl⟩ rfl ?_ (show 5 ≤ _ from hlen) (fun q hq => hq) (fun q hq => hq) hz (by rw [hy]; exact List.cons_ne_nil _ _)⟩
  · exact congrFun o3 0
  · exact congrFun o3 1
  · rfl
  · exact congrFun o3 4
  · exact congrFun o3 5
  · exact congrFun o3 6
  · exact congrFun o3 8
  · show aN b 2 + (hasc t).toNat ≤ _
    have : (hasc t).toNat ≤ 1 := by
      unfold hasc
      split <;> decide
    omega
theorem txR0 : txR el at_ 0 r sk m = wrS el at_ r sk m := by unfold txR; rw [if_pos rfl]
theorem txR1 : txR el at_ 1 r sk m = 10 :: wrS el at_ r sk m := by unfold txR; rw [if_neg (by decide), if_pos rfl]
theorem txR2 : txR el at_ 2 (.inr (t, s) :: r) sk m = wPiC t (s.flatMap crE) ++ wrS el at_ r sk m := by unfold txR; rw [if_neg (by decide), if_neg (by decide)]
theorem wTag_hd {nm : Str} {w : List Att} (hn : lgn nm) : ∃ c y, wTag nm w = 60 :: c :: y ∧ isSt c = true := by
  obtain ⟨c, y, rfl, h1, -⟩ := lgn_cons hn
  exact ⟨c, y ++ (w.flatMap wAt ++ [62]), rfl, h1⟩
/-- outside, what is written begins with a sign of a tag -/
theorem wr_hd0 (h1 : stR (el.map (fun x => x.2.1)) r ([], 0) = some ([], el.length)) (h2 : ∃ q, nst r (0, false) = some q) (hl : 0 < el.length) : ∃ y, wrS el at_ r [] 0 = 60 :: y := by
  cases r with
  | nil =>
    have := congrArg Prod.snd (Option.some.inj h1)
    have h3 : 0 = el.length := this
    omega
  | cons v r =>
    cases v with
    | inr x =>
      obtain ⟨t, s⟩ := x
      rw [wrS_pi, wPi_C]
      exact ⟨_, rfl⟩
    | inl c =>
      rw [wrS_c]
      rw [stR_c] at h1
      obtain ⟨q, h2⟩ := h2
      rw [nst_c] at h2
      by_cases c1 : c = -1
      · rw [if_pos c1] at h1; cases h1
      · rw [if_neg c1] at h1 h2 ⊢
        by_cases c2 : c < 0
        · rw [if_pos c2]
          exact ⟨_, rfl⟩
        · rw [if_neg c2, if_pos rfl] at h2
          cases h2
/-- inside, behind plain letters -/
theorem wr_hd2 (hk : sk ≠ []) (hv : ∀ c r', r = .inl c :: r' → c < 0 ∨ RFX (escL false c) c) : hdn isRn (wrS el at_ r sk m) := by
  cases r with
  | nil => exact hdn_nil
  | cons v r =>
    cases v with
    | inr x =>
      obtain ⟨t, s⟩ := x
      rw [wrS_pi, wPi_C]
      cases sk with
      | nil => exact absurd rfl hk
      | cons e q => exact hdn_cons (by decide)
    | inl c =>
      rw [wrS_c]
      rcases hv c r rfl with h | h
      · by_cases c1 : c = -1
        · rw [if_pos c1]
          cases sk with
          | nil => exact absurd rfl hk
          | cons e q =>
            dsimp only
            unfold wEn
            rw [ti_1086]
            exact hdn_cons (by decide)
        · rw [if_neg c1, if_pos h]
          exact hdn_cons (by decide)
      · obtain ⟨y, hy⟩ := h.hd
        have := h.rk (r := []) |>.2
        rw [if_neg (by omega), if_neg (by omega), hy]
        exact hdn_cons (by decide)
/-- the longest row of plain letters -/
theorem pln : ∀ (r : List Evt), ∃ (x : List Int) (r2 : List Evt), r = x.map (fun c => (Sum.inl c : Evt)) ++ r2 ∧ (∀ c ∈ x, 0 ≤ c ∧ escL false c = [c] ∧ c ≠ 60 ∧ c ≠ 38 ∧ c ≠ 62) ∧ ∀ c r', r2 = .inl c :: r' → c < 0 ∨ RFX (escL false c) c
  | [] => ⟨[], [], rfl, fun c h => (by cases h), fun c r' h => (by cases h)⟩
  | .inr v :: r => ⟨[], .inr v :: r, rfl, fun c h => (by cases h), fun c r' h => (by cases h)⟩
  | .inl c :: r => by
    by_cases c1 : c < 0
    · exact ⟨[], .inl c :: r, rfl, fun c h => (by cases h), fun c' r' h => by cases h; exact Or.inl c1⟩
    · rcases escL_or (v := false) (c := c) with ⟨h1, h2, h3, h4, -, h6⟩ | h
      · obtain ⟨x, r2, e1, e2, e3⟩ := pln r
        refine ⟨c :: x, r2, by rw [e1]; rfl, fun d hd => ?_, e3⟩
        rcases List.mem_cons.mp hd with rfl | z
        · exact ⟨by omega, h1, h3, h2, h6 rfl⟩
        · exact e2 d z
      · exact ⟨[], .inl c :: r, rfl, fun c h => (by cases h), fun c' r' h' => by cases h'; exact Or.inr h⟩
theorem wr_pln {sk : List Nat} {m : Nat} : ∀ (x : List Int) {r : List Evt}, (∀ c ∈ x, 0 ≤ c ∧ escL false c = [c]) → wrS el at_ (x.map (fun c => (Sum.inl c : Evt)) ++ r) sk m = x ++ wrS el at_ r sk m
  | [], r, _ => rfl
  | c :: x, r, h => by
    obtain ⟨h1, h2⟩ := h c List.mem_cons_self
    show wrS el at_ (.inl c :: (x.map (fun c => (Sum.inl c : Evt)) ++ r)) sk m = _
    rw [wrS_c, if_neg (by omega), if_neg (by omega), h2, wr_pln x (fun d hd => h d (List.mem_cons_of_mem _ hd))]
    rfl
theorem stR_pln {pl : List Int} : ∀ (x : List Int) {r : List Evt} {q : List Nat × Nat}, (∀ c ∈ x, 0 ≤ c) → stR pl (x.map (fun c => (Sum.inl c : Evt)) ++ r) q = stR pl r q
  | [], r, q, _ => rfl
  | c :: x, r, (st, m), h => by
    have h1 := h c List.mem_cons_self
    show stR pl (.inl c :: (x.map (fun c => (Sum.inl c : Evt)) ++ r)) (st, m) = _
    rw [stR_c, if_neg (by omega), if_neg (by omega), stR_pln x (fun d hd => h d (List.mem_cons_of_mem _ hd))]
theorem nst_pln : ∀ (x : List Int) {r : List Evt} {d : Nat × Bool}, (∀ c ∈ x, 0 ≤ c) → d.1 ≠ 0 → nst (x.map (fun c => (Sum.inl c : Evt)) ++ r) d = nst r d
  | [], r, d, _, _ => rfl
  | c :: x, r, d, h, hd => by
    have h1 := h c List.mem_cons_self
    show nst (.inl c :: (x.map (fun c => (Sum.inl c : Evt)) ++ r)) d = _
    rw [nst_c, if_neg (by omega), if_neg (by omega), if_neg hd, nst_pln x (fun d hd => h d (List.mem_cons_of_mem _ hd)) hd]
theorem evl_pln : ∀ (x : List Int), evl ((x.map (fun c => (Sum.inl c : Evt))).map evm) = x.length
  | [] => rfl
  | c :: x => by
    show evl ((x.map (fun c => (Sum.inl c : Evt))).map evm) + 1 = x.length + 1
    rw [evl_pln x]
theorem pis_pln : ∀ (x : List Int), pis ((x.map (fun c => (Sum.inl c : Evt))).map evm) = 0
  | [] => rfl
  | c :: x => pis_pln x
theorem evm_pln : ∀ (x : List Int), (x.map (fun c => (Sum.inl c : Evt))).map evm = x.map (fun c => (Sum.inl c : Evt))
  | [] => rfl
  | c :: x => by
    show (Sum.inl c : Evt) :: (x.map (fun c => (Sum.inl c : Evt))).map evm = _
    rw [evm_pln x]
    rfl
/-- letters -/
theorem RT.chrs (h : RT el at_ S N0 b r sk m 0) {x : List Int} {r' : List Evt} {y : List Int} {f : Bool} (hr : r = x.map (fun c => (Sum.inl c : Evt)) ++ r') (hx : ∀ c ∈ x, 0 ≤ c) (htx : wrS el at_ r sk m = y ++ wrS el at_ r' sk m) (hxy : x.length ≤ y.length) (hy : y ≠ []) (hsk : sk ≠ []) (hs : stp rm nd b = .inr (adv (chr (tch b f) x) y.length)) : ∃ b', stp rm nd b = .inr b' ∧ RT el at_ S N0 b' r' sk m 0 ∧ (cur b').length < (cur b).length := by
  obtain ⟨o1, o2, o3, o4, o5, o6, o7, o8, o9, o10⟩ := tch_other (a := b) (sp := f)
  have hd : sk.length ≠ 0 := fun e => hsk (List.length_eq_zero_iff.mp e)
  refine ⟨_, hs, h.nx (x := x.map (fun c => (Sum.inl c : Evt))) (p := 0) (z' := 0) (y := y) hr (by rw [txR0, txR0]; exact htx) rfl ⟨o1, o2, o4, o5, o6, o7, o10⟩ ⟨?_, ?_, ?_, ?_, ?_, ?_, ?_⟩ ⟨(S0.tchE (a := b) (b := f)).1, (S0.tchE (a := b) (b := f)).2.1, ?_⟩ (pis_pln x).symm ?_ (by rw [evl_pln]; exact hxy) (fun q hq => by rw [stR_pln x hx] at hq; exact hq) (fun q hq => by rw [nst_pln x hx hd] at hq; exact hq) ⟨Nat.zero_le _, fun e => absurd e (by decide), fun e => absurd e (by decide)⟩ hy⟩
  · exact congrFun o3 0
  · exact congrFun o3 1
  · exact congrFun o3 3
  · exact congrFun o3 4
  · exact congrFun o3 5
  · exact congrFun o3 6
  · exact congrFun o3 8
  · show aS (tch b f) ++ _ = _
    rw [o9, evm_pln]
  · have : aN (chr (tch b f) x) 2 = aN b 2 := congrFun o3 2
    omega
end Rt12
