/-! ===== values in the class ===== -/
def vfr (st : List (List Int × Nat)) : List Frm := st.map (fun z => (z.1, z.2, 0))
/-- whose texts are gone through: each once -/
def GO (en : List Ent) (fr : List Frm) : Prop := (fr.map (fun z => z.2.1)).Nodup ∧ ∀ f ∈ fr, f.2.1 ≤ en.length
theorem GO.len {en : List Ent} {fr : List Frm} (h : GO en fr) : fr.length ≤ en.length + 1 := by
  have := nodup_le (en.length + 1) (fr.map (fun z => z.2.1)) h.1 (fun x hx => by
    obtain ⟨f, hf, rfl⟩ := List.mem_map.mp hx
    have := h.2 f hf
    omega)
  rwa [List.length_map] at this
def fV : Nat → Nat → Bool := fun o k => !((o == 3 && (k == 12 || (k == 13 || k == 14))) || ((o == 2 && (k == 2 || (k == 3 || (k == 4 || (k == 6 || (k == 7 || (k == 8 || (k == 9 || (k == 10 || k == 11))))))))) || (o == 1 && (k == 13 || k == 3))))
def rV : Nat → Bool := fun r => !(r == 101 || (r == 109 || (r == 110 || (r == 111 || (r == 112 || r == 113)))))
/-- what reading a value leaves as it was -/
def VX (b0 : Nat) (σ0 σ : IS) : Prop := ag fV rV σ0 σ ∧ ∀ i, i < b0 → σ.2 101 i = σ0.2 101 i
section JVal2
variable {L : Nat → Nat} {rm nd : Nat} {σ0 σ σ' : IS}
theorem VX.ex {b0 : Nat} (h : VX b0 σ0 σ) (a : ag fX rX σ σ') : VX b0 σ0 σ' := by
  refine ⟨h.1.trans (a.sub (fun o k z => ?_) (fun r z => ?_)), fun i hi => by rw [a.2 101 rfl]; exact h.2 i hi⟩
  · simp [fV, fX] at z ⊢; omega
  · simp [rV, rX] at z ⊢; omega
theorem VX.fld {b0 : Nat} {o k : Nat} {x : Int} (h : VX b0 σ0 σ) (hk : fV o k = false) : VX b0 σ0 (pf σ o k x) := ⟨h.1.pf hk, h.2⟩
theorem VX.ad {b0 : Nat} {c : Int} (h : VX b0 σ0 σ) (hb : b0 ≤ jtp σ) {x : Int} : VX b0 σ0 (pf (pr σ 101 (jtp σ) c) 1 3 x) := ⟨(h.1.pr rfl).pf rfl, fun i hi => by rw [pf_2, pr_2, if_neg (by omega)]; exact h.2 i hi⟩
theorem lvl_snd {X Y : List Int} {g : Nat × Nat} {FR : List Frm} {k : Nat} : (lvl ((X, g) :: FR) k).2 = (lvl ((Y, g) :: FR) k).2 := by
  unfold lvl
  rw [List.length_cons, List.length_cons]
  cases FR.length + 1 - 1 - k with
  | zero => rfl
  | succ n => rfl
theorem JFr.adv {X : List Int} {g : Nat × Nat} {FR : List Frm} {os : List Nat} {j : Nat} (h : JFr σ ((X, g) :: FR) os) (hj : j ≤ X.length) (gr : sgr σ σ') (h12 : σ'.1 3 12 = σ.1 3 12) (h23 : σ'.1 2 3 = σ.1 2 3) (hr : ∀ r, 110 ≤ r → r ≤ 113 → σ'.2 r = σ.2 r) (h2 : σ'.1 2 2 = σ.1 2 2 + (j : Int)) : JFr σ' ((X.drop j, g) :: FR) os := by
  obtain ⟨b1, b2, b3, b4⟩ := h.get
  dsimp only at b2 b3
  refine JFr.mk (by rw [h12]; exact b1) ?_ ?_ (fun i hi => ?_)
  · obtain ⟨a, ha, hal, has⟩ := b2.gr gr
    refine ⟨a + j, by rw [h2, ha]; omega, by rw [List.length_drop]; omega, ?_⟩
    have hT := sht_sl has
    have e1 : sl (σ'.2 101) (a + j) (X.drop j).length = sl (gd X) j (X.drop j).length := sh_sl hT (by rw [List.length_drop]; omega)
    rw [e1]
    have e2 := sh_sl (i := 0) (n := (X.drop j).length) (gd_drop (l := X) (k := j)) (by omega)
    rw [show j + 0 = j by omega] at e2
    rw [e2, sl_gd]
  · rw [h23, b3, h2, List.length_drop]
    omega
  · have := b4 i hi
    rw [hr 110 (by omega) (by omega), hr 111 (by omega) (by omega), hr 112 (by omega) (by omega), hr 113 (by omega) (by omega)]
    rw [lvl_snd (Y := X)]
    exact ⟨this.1.gr gr, this.2⟩
def VA (L : Nat → Nat) (rm nd : Nat) (σ0 : IS) (en : List Ent) (os : List Nat) (f2 : Nat × Nat) (t : List Frm) (q : Int) (aft : List Int) (b0 : Nat) (st : List (List Int × Nat)) (lb : List Int) (c m : Nat) (out : List Int) (σ : IS) : Prop :=
  JZ L rm nd σ ∧ σ.1 2 4 = 0 ∧ JFr σ (vfr st ++ (lb ++ q :: aft, f2) :: t) os ∧ JEn L σ en ((vfr st ++ (lb ++ q :: aft, f2) :: t).map (fun z => z.2.1)) ∧ GO en (vfr st ++ (lb ++ q :: aft, f2) :: t) ∧ (∀ z ∈ st, 0 < z.2) ∧ (σ.1 3 13 = (c : Int) ∧ σ.1 3 14 = (m : Int) ∧ σ.1 2 6 = σ0.1 2 6) ∧ (jtp σ = b0 + out.length ∧ sl (σ.2 101) b0 out.length = out) ∧ VX b0 σ0 σ ∧ vlg (gd (lb ++ q :: aft)) (lb ++ q :: aft).length q ((lb ++ q :: aft).length + 1) 0 = some (lb.length + 1) ∧ VE ((b0 : Int), t.length, σ0.1 2 3) σ
/-- a good state's rest: the text that is gone through, and what is behind it of the machine's -/
def VT (x : Int) (r R : List Int) (w : Nat) (st0 : List (List Int × Nat)) (g : Nat × Nat) (FR : List Frm) (st : List (List Int × Nat)) (lb : List Int) (f2 : Nat × Nat) (t : List Frm) (q : Int) (aft : List Int) : Prop :=
  st ++ [(lb, 0)] = (x :: r, w) :: st0 ∧ vfr st ++ (lb ++ q :: aft, f2) :: t = (x :: R, g) :: FR ∧ (∃ y, R = r ++ y) ∧
  (x = 38 → rfp (gd (x :: R)) (R.length + 1) (some 0) = rfp (gd (x :: r)) (r.length + 1) (some 0)) ∧
  (∀ j, j ≤ r.length + 1 → (x ≠ 38 → j = 1) → (x = 38 → rfp (gd (x :: r)) (r.length + 1) (some 0) = some j) → ∃ st' lb', st' ++ [(lb', 0)] = ((x :: r).drop j, w) :: st0 ∧ vfr st' ++ (lb' ++ q :: aft, f2) :: t = ((x :: R).drop j, g) :: FR ∧ ((∀ z ∈ st, 0 < z.2) → ∀ z ∈ st', 0 < z.2) ∧ vlg (gd (lb' ++ q :: aft)) (lb' ++ q :: aft).length q ((lb' ++ q :: aft).length + 1) 0 = some (lb'.length + 1))
theorem vlg_at {l : List Int} {q : Int} {n k : Nat} (hk : k ≤ l.length) (hn : l.length < n + k) : vlg (gd l) l.length q n k = mvo k (vlg (gd (l.drop k)) (l.drop k).length q ((l.drop k).length + 1) 0) := by
  have h := sh_vlg (q := q) (gd_drop (l := l) (k := k)) n 0
  rw [show k + (l.drop k).length = l.length by rw [List.length_drop]; omega, show k + 0 = k by omega] at h
  rw [h, vlg_fuel n ((l.drop k).length + 1) 0 (by rw [List.length_drop]; omega) (by omega)]
/-- the head of the value itself -/
theorem VT_bot {x q : Int} {r aft : List Int} {f2 : Nat × Nat} {t : List Frm} (hv : vlg (gd (x :: r ++ q :: aft)) (x :: r ++ q :: aft).length q ((x :: r ++ q :: aft).length + 1) 0 = some ((x :: r).length + 1)) : (x ≠ q ∧ x ≠ 60) ∧ VT x r (r ++ q :: aft) 0 [] f2 t [] (x :: r) f2 t q aft := by
  have hlen : (x :: r ++ q :: aft).length = r.length + 1 + (aft.length + 1) := by simp; omega
  have hs : vlg (gd (x :: r ++ q :: aft)) (x :: r ++ q :: aft).length q ((x :: r ++ q :: aft).length + 1) 0 = (if 0 < (x :: r ++ q :: aft).length then (if x = q then some 1 else if x = 60 then none else if x = 38 then (match rfp (gd (x :: r ++ q :: aft)) (x :: r ++ q :: aft).length (some 0) with
      | none => none
      | some j => vlg (gd (x :: r ++ q :: aft)) (x :: r ++ q :: aft).length q (x :: r ++ q :: aft).length j) else vlg (gd (x :: r ++ q :: aft)) (x :: r ++ q :: aft).length q (x :: r ++ q :: aft).length 1) else none) := rfl
  rw [hs, if_pos (by omega)] at hv
  have c1 : x ≠ q := by
    intro e
    rw [if_pos e] at hv
    have := Option.some.inj hv
    rw [List.length_cons] at this
    omega
  rw [if_neg c1] at hv
  have c2 : x ≠ 60 := by
    intro e
    rw [if_pos e] at hv
    cases hv
  rw [if_neg c2] at hv
  refine ⟨⟨c1, c2⟩, rfl, rfl, ⟨q :: aft, rfl⟩, fun e38 => ?_, fun j hj hn38 h38 => ⟨[], (x :: r).drop j, ?_, ?_, fun _ z hz => absurd hz (by simp), ?_⟩⟩
  · rw [if_pos e38] at hv
    cases hr : rfp (gd (x :: r ++ q :: aft)) (x :: r ++ q :: aft).length (some 0) with
    | none => rw [hr] at hv; cases hv
    | some j =>
      rw [hr] at hv
      dsimp only at hv
      have hp := rfp_pos hr
      have hg := vlg_le _ _ _ hv
      rw [List.length_cons] at hg
      have hT : SHT (gd (x :: r)) (gd (x :: r ++ q :: aft)) (x :: r).length 0 := fun k hk => by rw [show 0 + k = k by omega]; exact gd_app hk
      have h3 := rfp_end hr (e' := r.length + 1) (by omega) (by omega)
      have h4 := sh_rfp hT (some 0)
      rw [mvo_some, List.length_cons, show 0 + (r.length + 1) = r.length + 1 by omega, show 0 + 0 = 0 by omega, h3] at h4
      have e1 : (r ++ q :: aft).length + 1 = (x :: r ++ q :: aft).length := by simp
      rw [e1]
      refine Eq.trans hr ?_
      cases hz : rfp (gd (x :: r)) (r.length + 1) (some 0) with
      | none => rw [hz] at h4; cases h4
      | some j' =>
        rw [hz] at h4
        have h5 : some j = some (0 + j') := h4
        rw [show 0 + j' = j' by omega] at h5
        exact h5
  · rfl
  · show ((x :: r).drop j ++ q :: aft, f2) :: t = ((x :: r ++ q :: aft).drop j, f2) :: t
    rw [List.drop_append_of_le_length (by rw [List.length_cons]; omega)]
  · have hd : (x :: r).drop j ++ q :: aft = (x :: r ++ q :: aft).drop j := (List.drop_append_of_le_length (by rw [List.length_cons]; omega)).symm
    rw [hd]
    have hvj : vlg (gd (x :: r ++ q :: aft)) (x :: r ++ q :: aft).length q (x :: r ++ q :: aft).length j = some ((x :: r).length + 1) ∧ 0 < j := by
      by_cases e38 : x = 38
      · have hz := h38 e38
        have hz' := rfp_pos (l := x :: r) hz
        rw [if_pos e38] at hv
        cases hr : rfp (gd (x :: r ++ q :: aft)) (x :: r ++ q :: aft).length (some 0) with
        | none => rw [hr] at hv; cases hv
        | some j2 =>
          rw [hr] at hv
          dsimp only at hv
          have hg := vlg_le _ _ _ hv
          rw [List.length_cons] at hg
          have hT : SHT (gd (x :: r)) (gd (x :: r ++ q :: aft)) (x :: r).length 0 := fun k hk => by rw [show 0 + k = k by omega]; exact gd_app hk
          have h3 := rfp_end hr (e' := r.length + 1) (by omega) (by omega)
          have h4 := sh_rfp hT (some 0)
          rw [mvo_some, List.length_cons, show 0 + (r.length + 1) = r.length + 1 by omega, show 0 + 0 = 0 by omega, h3, hz] at h4
          have h5 : some j2 = some (0 + j) := h4
          have h6 : j2 = j := by have := Option.some.inj h5; omega
          subst h6
          exact ⟨hv, by omega⟩
      · have hj1 := hn38 e38
        subst hj1
        rw [if_neg e38] at hv
        exact ⟨hv, by omega⟩
    have h7 := hvj.1
    rw [vlg_at (by omega) (by omega)] at h7
    obtain ⟨i, hi, hi2⟩ := mvo_eq_some.mp h7
    rw [hi]
    rw [List.length_cons] at hi2
    rw [List.length_drop, List.length_cons]
    congr 1
    omega
/-- the head of an entity's text -/
theorem VT_ent {x q : Int} {r lb aft : List Int} {w : Nat} {st : List (List Int × Nat)} {f2 : Nat × Nat} {t : List Frm} (hv : vlg (gd (lb ++ q :: aft)) (lb ++ q :: aft).length q ((lb ++ q :: aft).length + 1) 0 = some (lb.length + 1)) : VT x r r w (st ++ [(lb, 0)]) (w, 0) (vfr st ++ (lb ++ q :: aft, f2) :: t) ((x :: r, w) :: st) lb f2 t q aft := by
  refine ⟨rfl, rfl, ⟨[], by simp⟩, fun _ => rfl, fun j _ _ _ => ⟨((x :: r).drop j, w) :: st, lb, rfl, rfl, fun h z hz => ?_, hv⟩⟩
  rcases List.mem_cons.mp hz with rfl | hz
  · exact h (x :: r, w) List.mem_cons_self
  · exact h z (List.mem_cons_of_mem _ hz)
end JVal2
