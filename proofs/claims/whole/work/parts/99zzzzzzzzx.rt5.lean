/-! ===== the attributes that are written mean the same (pure) ===== -/
/-- the attributes that are written of an element -/
noncomputable def WQa (el : List Elm) (at_ : List Att) (e : Nat) : List Att := (wat (EN el at_ (el.getD e elD).2.1) (EN el at_ (e : Int)) (ats at_ (el.getD e elD))).map cutA
section Rt8
variable {E E0 : Str → Str} {l l' : List Att} {q : Str} {t : Att}
theorem ent2_mem : ∀ {l : List Att} {E : Str → Str}, (l.map (fun z => z.1)).Nodup → t ∈ l → dcl t.1 = some q → q ≠ sXm → q ≠ sXn → ent2 E l q = t.2.1
  | x :: l, E, hd, ht, h, h1, h2 => by
    rw [List.map_cons, List.nodup_cons] at hd
    show ent2 (upN E x) l q = t.2.1
    rcases List.mem_cons.mp ht with z | z
    · subst z
      rw [ent2_no (fun u hu hq => ?_), upN_at h, if_neg (fun y => y.elim h1 h2)]
      · show (if q = q then t.2.1 else E q) = _
        rw [if_pos rfl]
      · refine hd.1 ?_
        rw [dcl_inj h hq]
        exact List.mem_map.mpr ⟨u, hu, rfl⟩
    · exact ent2_mem hd.2 z h h1 h2
/-- what is left out says nothing new -/
theorem ent2_same (hd : (l.map (fun z => z.1)).Nodup) (hd' : (l'.map (fun z => z.1)).Nodup) (h1 : ∀ u ∈ l', ∃ t ∈ l, t.1 = u.1 ∧ t.2.1 = u.2.1) (h2 : ∀ t ∈ l, idl E t = false → ∃ u ∈ l', u.1 = t.1 ∧ u.2.1 = t.2.1) : ent2 E l' = ent2 E l := by
  funext q
  by_cases c0 : q = sXm ∨ q = sXn
  · rw [ent2_x c0, ent2_x c0]
  have c1 : q ≠ sXm := fun z => c0 (Or.inl z)
  have c2 : q ≠ sXn := fun z => c0 (Or.inr z)
  by_cases c : ∃ u ∈ l', dcl u.1 = some q
  · obtain ⟨u, u1, u2⟩ := c
    obtain ⟨t, t1, t2, t3⟩ := h1 u u1
    rw [ent2_mem hd' u1 u2 c1 c2, ent2_mem hd t1 (by rw [t2]; exact u2) c1 c2, t3]
  · rw [ent2_no (fun u hu hq => c ⟨u, hu, hq⟩)]
    by_cases d : ∃ t ∈ l, dcl t.1 = some q
    · obtain ⟨t, t1, t2⟩ := d
      rw [ent2_mem hd t1 t2 c1 c2]
      by_cases i : idl E t = true
      · unfold idl at i
        rw [t2] at i
        exact (of_decide_eq_true i).symm
      · obtain ⟨u, u1, u2, -⟩ := h2 t t1 (Bool.eq_false_iff.mpr i)
        exact absurd ⟨u, u1, by rw [u2]; exact t2⟩ c
    · rw [ent2_no (fun u hu hq => d ⟨u, hu, hq⟩)]
theorem mem_wat : t ∈ wat E0 E l ↔ t ∈ l ∧ idl E0 t = false := by
  unfold wat
  rw [mem_srt, List.mem_filter]
  constructor
  · rintro ⟨h1, h2⟩
    exact ⟨h1, by rw [Bool.not_eq_true'] at h2; exact h2⟩
  · rintro ⟨h1, h2⟩
    exact ⟨h1, by rw [h2]; rfl⟩
theorem wat_pw (hK : KD E l) : (wat E0 E l).Pairwise (fun x y => klt (wky E x.1) (wky E y.1) = true) := by
  unfold wat
  exact srt_pw (k := fun t => wky E t.1) (List.Pairwise.filter _ hK)
theorem pw_nd (h : l.Pairwise (fun x y => klt (wky E x.1) (wky E y.1) = true)) : (l.map (fun z => z.1)).Nodup := by
  refine List.pairwise_map.mpr (h.imp (fun {x y} hxy z => ?_))
  rw [z, klt_irr] at hxy
  cases hxy
theorem cut_nm : (l.map cutA).map (fun z => z.1) = l.map (fun z => z.1) := by
  rw [List.map_map]
  rfl
theorem cut_pw (h : l.Pairwise (fun x y => klt (wky E x.1) (wky E y.1) = true)) : (l.map cutA).Pairwise (fun x y => klt (wky E x.1) (wky E y.1) = true) := List.pairwise_map.mpr h
theorem cut_wAt : (l.map cutA).flatMap wAt = l.flatMap wAt := by
  induction l with
  | nil => rfl
  | cons t l ih =>
    rw [List.map_cons, List.flatMap_cons, List.flatMap_cons, ih]
    rfl
theorem idl_cut : idl E (cutA t) = idl E t := rfl
/-- what is written is written the same again -/
theorem wat_id (hp : l.Pairwise (fun x y => klt (wky E x.1) (wky E y.1) = true)) (hi : ∀ t ∈ l, idl E0 t = false) : wat E0 E l = l := by
  unfold wat
  have hf : l.filter (fun t => !idl E0 t) = l := List.filter_eq_self.mpr (fun t ht => by rw [hi t ht]; rfl)
  rw [hf]
  refine srt_uniq (k := fun t => wky E t.1) (srt_pw (hp.imp (fun {x y} hxy z => ?_))) hp (fun x => mem_srt)
  rw [z, klt_irr] at hxy
  cases hxy
theorem wat_cut (hK : KD E l) : wat E0 E ((wat E0 E l).map cutA) = (wat E0 E l).map cutA := wat_id (cut_pw (wat_pw hK)) (fun t ht => by
  obtain ⟨u, u1, rfl⟩ := List.mem_map.mp ht
  exact (mem_wat.mp u1).2)
theorem ent2_wat (hd : (l.map (fun z => z.1)).Nodup) (hK : KD E l) : ent2 E0 ((wat E0 E l).map cutA) = ent2 E0 l := ent2_same hd (by rw [cut_nm]; exact pw_nd (wat_pw hK)) (fun u hu => by
  obtain ⟨t, t1, rfl⟩ := List.mem_map.mp hu
  exact ⟨t, (mem_wat.mp t1).1, rfl, rfl⟩) (fun t ht hi => ⟨cutA t, List.mem_map.mpr ⟨t, mem_wat.mpr ⟨ht, hi⟩, rfl⟩, rfl, rfl⟩)
end Rt8
section Rt9
variable {el el' : List Elm} {at_ at' : List Att}
/-- the tree that comes of reading what is written -/
def SAM (el : List Elm) (at_ : List Att) (el' : List Elm) (at' : List Att) : Prop := el'.length = el.length ∧ ∀ e, e < el.length → (el'.getD e elD).1 = (el.getD e elD).1 ∧ (el'.getD e elD).2.1 = (el.getD e elD).2.1 ∧ ats at' (el'.getD e elD) = WQa el at_ e
def PAR (el : List Elm) : Prop := ∀ i, i < el.length → (el.getD i elD).2.1 = -1 ∨ (0 ≤ (el.getD i elD).2.1 ∧ (el.getD i elD).2.1 < (i : Int))
/-- what holds of names and keys -/
def KDA (el : List Elm) (at_ : List Att) : Prop := ∀ e, e < el.length → KD (EN el at_ (e : Int)) (ats at_ (el.getD e elD)) ∧ ((ats at_ (el.getD e elD)).map (fun z => z.1)).Nodup
theorem SAM.par (h : SAM el at_ el' at') (hp : PAR el) : PAR el' := fun i hi => by
  rw [h.1] at hi
  rw [(h.2 i hi).2.1]
  exact hp i hi
theorem SAM.en (h : SAM el at_ el' at') (hp : PAR el) (hK : KDA el at_) : ∀ (n : Nat) (e : Int), -1 ≤ e → e < (n : Int) → e < (el.length : Int) → EN el' at' e = EN el at_ e
  | n, e, h0, hn, hl => by
    by_cases c : e < 0
    · have : e = -1 := by omega
      rw [this, EN_neg, EN_neg]
    · cases n with
      | zero => exact absurd hn (by omega)
      | succ n =>
        obtain ⟨k, rfl⟩ : ∃ k : Nat, e = (k : Int) := ⟨e.toNat, by omega⟩
        have hk : k < el.length := by omega
        obtain ⟨h1, h2, h3⟩ := h.2 k hk
        rw [EN_s (h.par hp) (by rw [h.1]; exact hk), EN_s hp hk, h2, h3]
        have hpk := hp k hk
        have ih := SAM.en h hp hK n (el.getD k elD).2.1 (by omega) (by omega) (by omega)
        rw [ih]
        unfold WQa
        rw [EN_s hp hk]
        have hKk := (hK k hk).1
        rw [EN_s hp hk] at hKk
        exact ent2_wat (hK k hk).2 hKk
theorem wPi_cr {op bh : Bool} {t s : Str} : wPi op bh t (s.flatMap crE) = wPi op bh t s := by
  have h1 : ∀ s : Str, (s.flatMap crE).flatMap (fun c => if c = 13 then ti 1088 else [c]) = s.flatMap (fun c => if c = 13 then ti 1088 else [c]) := fun s => by
    rw [List.flatMap_assoc]
    congr 1
    funext c
    unfold crE
    by_cases c1 : c = 13
    · rw [if_pos c1, ti_1088]; rfl
    · rw [if_neg c1, List.flatMap_singleton, if_neg c1]
  have h2 : (s.flatMap crE = []) ↔ s = [] := by
    cases s with
    | nil => exact ⟨fun _ => rfl, fun _ => rfl⟩
    | cons c s =>
      rw [List.flatMap_cons]
      constructor
      · intro z
        have := (List.append_eq_nil_iff.mp z).1
        unfold crE at this
        split at this
        · rw [ti_1088] at this; cases this
        · cases this
      · intro z; cases z
  unfold wPi
  rw [h1]
  congr 4
  by_cases c : s = []
  · rw [if_pos c, if_pos (h2.mpr c)]
  · rw [if_neg c, if_neg (fun z => c (h2.mp z))]
def evm : Evt → Evt
  | .inl c => .inl c
  | .inr x => .inr (x.1, x.2.flatMap crE)
/-- the canonical text of it is the same -/
theorem SAM.wr (h : SAM el at_ el' at') (hp : PAR el) (hK : KDA el at_) {q : List Nat × Nat} : ∀ (r : List Evt) (sk : List Nat) (m : Nat), stR (el.map (fun x => x.2.1)) r (sk, m) = some q → (∀ e ∈ sk, e < el.length) → wrS el' at' (r.map evm) sk m = wrS el at_ r sk m
  | [], sk, m, _, _ => rfl
  | .inr (t, s) :: r, sk, m, hs, hk => by
    show wPi _ _ t (s.flatMap crE) ++ wrS el' at' (r.map evm) sk m = wPi _ _ t s ++ wrS el at_ r sk m
    rw [wPi_cr, SAM.wr h hp hK r sk m hs hk]
  | .inl c :: r, sk, m, hs, hk => by
    rw [stR_c] at hs
    show wrS el' at' (.inl c :: r.map evm) sk m = _
    rw [wrS_c, wrS_c]
    by_cases c1 : c = -1
    · rw [if_pos c1] at hs ⊢
      rw [if_pos c1]
      cases sk with
      | nil => cases hs
      | cons e sk =>
        dsimp only at hs ⊢
        rw [SAM.wr h hp hK r sk m hs (fun x hx => hk x (List.mem_cons_of_mem _ hx)), (h.2 e (hk e List.mem_cons_self)).1]
    · rw [if_neg c1] at hs ⊢
      rw [if_neg c1]
      by_cases c2 : c < 0
      · rw [if_pos c2] at hs ⊢
        rw [if_pos c2]
        split at hs
        · rename_i hc
          have hm : m < el.length := by have := hc.2.1; rw [List.length_map] at this; exact this
          rw [SAM.wr h hp hK r (m :: sk) (m + 1) hs (fun x hx => by
            rcases List.mem_cons.mp hx with z | z
            · rw [z]; exact hm
            · exact hk x z)]
          obtain ⟨h1, h2, h3⟩ := h.2 m hm
          have hpm := hp m hm
          rw [h1, h2, h3, SAM.en h hp hK (m + 1) _ (by omega) (by omega) (by omega), SAM.en h hp hK (m + 1) _ (by omega) (by omega) (by omega)]
          unfold wTg WQa
          rw [wat_cut (hK m hm).1, cut_wAt]
        · cases hs
      · rw [if_neg c2] at hs ⊢
        rw [if_neg c2, SAM.wr h hp hK r sk m hs hk]
end Rt9
