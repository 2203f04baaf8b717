/-! ===== room (13): how many nodes a model has (pure) ===== -/
section KwD
variable {T : Nat → Int} {e : Nat} {t : List KNd} {gr la : Int}
theorem knw_len {kd : Int} {nm : Str} {ch : Int} : (knw kd nm ch gr la t).length = t.length + 1 := by
  unfold knw
  rw [List.length_append, List.length_singleton]
  split
  · rw [List.length_modify]
  · split
    · rw [List.length_modify]
    · rfl
theorem bld_oftL {e' m j lf : Nat} (hz : oft T e j ≤ e') (he : e' ≤ e) (hm : e' < m + j) : ∃ t2 m2, bld T e' m j gr la lf t = bld T e' m2 (oft T e j) gr la lf t2 ∧ e' < m2 + oft T e j ∧ t2.length = t.length := by
  by_cases c : lk T e j = 63 ∨ (lk T e j = 42 ∨ lk T e j = 43)
  · have e1 : oft T e j = j + 1 := if_pos c
    rw [e1] at hz ⊢
    have hT : lk T e j = T j := lk_b (by omega)
    rw [hT] at c
    obtain ⟨m, rfl⟩ : ∃ m', m = m' + 1 := ⟨m - 1, by omega⟩
    refine ⟨t.modify la.toNat (fun x => (x.1, T j, x.2.2)), m, ?_, by omega, ?_⟩
    · rw [bld_s, if_neg (by omega), if_neg (by omega), if_neg (by omega), if_neg (by omega), if_pos c]
    · rw [List.length_modify]
  · have e1 : oft T e j = j := if_neg c
    rw [e1]
    exact ⟨t, m, rfl, hm, rfl⟩
theorem bl_cnt : ∀ (N : Nat) (s : Int) (st : List Int) (due : Bool) (k n d : Nat) (r : Nat × Nat × Nat) (t : List KNd) (gr la : Int) (lf m : Nat), mdk T e N (s :: st) due k n d = some r → k ≤ e → r.1 ≤ e → r.1 < m + k → 2 * (bld T r.1 m k gr la lf t).length + (st.length + 1) + k ≤ 2 * t.length + r.1 + (if due = true then 1 else 0) := by
  intro N
  induction N with
  | zero => intro s st due k n d r t gr la lf m h1; cases h1
  | succ N ih =>
    intro s st due k n d r t gr la lf m h1 hke hre hm
    have hyl := sk_le (p := isSp) (T := T) hke
    unfold mdk at h1
    generalize hy : sk isSp T e k = y at *
    have hsk : y < r.1 → bld T r.1 m k gr la lf t = bld T r.1 (m - (y - k) - 1 + 1) y gr la lf t ∧ r.1 < (m - (y - k) - 1) + (y + 1) := fun hyr => by
      have := bld_sk (T := T) (e := e) (gr := gr) (la := la) (t := t) (e' := r.1) (y - k) (m - (y - k)) k (lf := lf) (by rw [hy]; omega) (by rw [hy]; exact hyr) hre
      rw [hy, show m - (y - k) + (y - k) = m by omega] at this
      rw [this, show m - (y - k) - 1 + 1 = m - (y - k) by omega]
      exact ⟨rfl, by omega⟩
    by_cases hd : due = true
    · subst hd
      rw [if_pos rfl] at h1 ⊢
      by_cases c4 : lk T e y = 40
      · rw [if_pos c4] at h1
        have hyt := lk_lt (by decide) c4
        have hlen := (mdk_len _ _ _ _ _ _ _ (by omega) h1).2
        obtain ⟨e1, e2⟩ := hsk (by omega)
        rw [e1, bld_s, if_neg (by omega), if_pos hyt.2]
        have := ih 0 (s :: st) true (y + 1) n _ r (knw 1 [] (-1) gr la t) (t.length : Int) (-1) lf _ h1 (by omega) hre e2
        rw [knw_len, List.length_cons, if_pos rfl] at this
        omega
      · rw [if_neg c4] at h1
        cases hn : nmg T e true (some y) with
        | none => rw [hn] at h1; cases h1
        | some j =>
          rw [hn] at h1
          dsimp only at h1
          have hnl := nmg_lt hn
          have hol := oft_le (T := T) hnl.2.2
          have hlen := (mdk_len _ _ _ _ _ _ _ hol.2 h1).2
          obtain ⟨e1, e2⟩ := hsk (by omega)
          have hst : isSt (T y) = true := by rw [← lk_b (T := T) (e := e) hnl.1]; exact nmg_at hn
          rw [e1, bld_s, if_neg (by omega), if_neg (isSt_ne hst (by decide)), if_neg (isSt_ne hst (by decide)), if_neg (isSt_ne hst (by decide)), if_neg (by rintro (z | z | z); exact isSt_ne hst (by decide) z; exact isSt_ne hst (by decide) z; exact isSt_ne hst (by decide) z), nmg_cut hn (by omega) hre]
          dsimp only
          obtain ⟨t2, m2, f1, f2, f3⟩ := bld_oftL (T := T) (e := e) (e' := r.1) (m := m - (y - k) - 1) (j := j) (la := (t.length : Int)) (gr := gr) (lf := lf + 1) (t := knw 0 (sl T y (j - y)) (lf : Int) gr la t) hlen hre (by omega)
          rw [f1]
          have := ih s st false _ (n + 1) d r t2 gr (t.length : Int) (lf + 1) m2 h1 hol.2 hre f2
          rw [f3, knw_len, if_neg (by decide)] at this
          omega
    · have hdf : due = false := by simpa using hd
      subst hdf
      rw [if_neg hd] at h1 ⊢
      by_cases c4 : lk T e y = 41
      · rw [if_pos c4] at h1
        have hyt := lk_lt (by decide) c4
        have hol := oft_le (T := T) (e := e) (k := y + 1) (by omega)
        have hlen := (mdk_len _ _ _ _ _ _ _ hol.2 h1).2
        obtain ⟨e1, e2⟩ := hsk (by omega)
        rw [e1, bld_s, if_neg (by omega), if_neg (by rw [hyt.2]; decide), if_pos hyt.2]
        obtain ⟨t2, m2, f1, f2, f3⟩ := bld_oftL (T := T) (e := e) (e' := r.1) (m := m - (y - k) - 1) (j := y + 1) (la := gr) (gr := (t.getD gr.toNat kdD).2.2.2.2.2) (lf := lf) (t := t) hlen hre (by omega)
        rw [f1]
        cases st with
        | nil =>
          cases N with
          | zero => cases h1
          | succ N =>
            have hr : r = (oft T e (y + 1), n, d) := by
              have h1' : some (oft T e (y + 1), n, d) = some r := h1
              exact (Option.some.inj h1').symm
            rw [hr] at f2 ⊢
            dsimp only at f2 ⊢
            obtain ⟨m3, rfl⟩ : ∃ m', m2 = m' + 1 := ⟨m2 - 1, by omega⟩
            rw [bld_s, if_pos (by omega), f3]
            rw [List.length_nil]
            omega
        | cons s' st' =>
          have := ih s' st' false _ n d r t2 (t.getD gr.toNat kdD).2.2.2.2.2 gr lf m2 h1 hol.2 hre f2
          rw [f3, if_neg (by decide)] at this
          rw [List.length_cons]
          omega
      · rw [if_neg c4] at h1
        split at h1
        · rename_i c5
          have hyt : y < e ∧ (T y = 124 ∨ T y = 44) := by
            rcases c5.1 with z | z
            · have := lk_lt (by decide) z; exact ⟨this.1, Or.inl this.2⟩
            · have := lk_lt (by decide) z; exact ⟨this.1, Or.inr this.2⟩
          have hlen := (mdk_len _ _ _ _ _ _ _ (by omega) h1).2
          obtain ⟨e1, e2⟩ := hsk (by omega)
          rw [e1, bld_s, if_neg (by omega), if_neg (by omega), if_neg (by omega)]
          rcases hyt.2 with z | z
          · rw [if_pos z]
            have := ih _ st true (y + 1) n d r (t.modify gr.toNat (fun x => (2, x.2))) gr la lf _ h1 (by omega) hre e2
            rw [List.length_modify, if_pos rfl] at this
            omega
          · rw [if_neg (by omega), if_neg (by omega)]
            have hnn : nmg T r.1 true (some y) = none := by
              unfold nmg
              dsimp only
              rw [lk_b (by omega), z]
              rfl
            rw [hnn]
            dsimp only
            have := ih _ st true (y + 1) n d r t gr la lf _ h1 (by omega) hre e2
            rw [if_pos rfl] at this
            omega
        · cases h1
theorem bldN_two {nm : Str} {c k : Nat} (hG : GDx (nm, 3, sl T c (k - c))) (hck : c ≤ k) (hke : k ≤ e) : 2 * (bldN (nm, 3, sl T c (k - c))).length + c ≤ k + 1 := by
  obtain ⟨r, h1, h2, h3, h4, h5⟩ := bldN_at hG hck hke
  have hl := (mdk_len _ _ _ _ _ _ _ (by omega) h2).2
  rw [h5, bld_s, if_neg (by omega), if_pos h3.2]
  have := bl_cnt (e + 2) 0 [] true (c + 1) 0 1 r (knw 1 [] (-1) (-1) (-1) []) 0 (-1) 0 r.1 h2 (by omega) (by omega) (by omega)
  rw [knw_len, List.length_nil, if_pos rfl] at this
  have e0 : ((([] : List KNd).length : Nat) : Int) = 0 := rfl
  rw [e0]
  omega
end KwD
