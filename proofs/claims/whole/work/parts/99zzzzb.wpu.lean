/-! ===== what is written (pure): letters ===== -/
/-- a letter as it is written in a text (v false) or a value -/
def escL (v : Bool) (c : Int) : Str := if c = 38 then ti 1090 else if c = 60 then ti 1091 else if c = 13 then ti 1088 else if c = 62 ∧ v = false then ti 1092 else if c = 34 ∧ v = true then ti 1093 else if c = 9 ∧ v = true then ti 1094 else if c = 10 ∧ v = true then ti 1095 else [c]
/-- a declaration that says nothing new -/
noncomputable def idl (E : Str → Str) (t : Att) : Bool := match dcl t.1 with
  | none => false
  | some p => decide (t.2.1 = E p)
def ins (k : Att → Key) (x : Att) : List Att → List Att
  | [] => [x]
  | y :: l => if klt (k x) (k y) = true then x :: y :: l else y :: ins k x l
def srt (k : Att → Key) : List Att → List Att
  | [] => []
  | x :: l => ins k x (srt k l)
/-- the attributes that are written, in their order -/
noncomputable def wat (E0 E : Str → Str) (l : List Att) : List Att := srt (fun t => wky E t.1) (l.filter (fun t => !idl E0 t))
def wAt (t : Att) : Str := [32] ++ (t.1 ++ (ti 1085 ++ (t.2.1.flatMap (escL true) ++ [34])))
noncomputable def wTg (E0 E : Str → Str) (s : Str) (l : List Att) : Str := [60] ++ (s ++ ((wat E0 E l).flatMap wAt ++ [62]))
def wEn (s : Str) : Str := ti 1086 ++ (s ++ [62])
def wPi (op bh : Bool) (t s : Str) : Str := (if op = false ∧ bh = true then [10] else []) ++ (ti 1087 ++ (t ++ ((if s = [] then [] else [32]) ++ (s.flatMap (fun c => if c = 13 then ti 1088 else [c]) ++ (ti 1089 ++ (if bh = false then [10] else []))))))
/-- the letters of the canonical text: from a place of the stream on, with the open elements and how many began -/
noncomputable def wrS (el : List Elm) (at_ : List Att) : List Evt → List Nat → Nat → Str
  | [], _, _ => []
  | .inr (t, s) :: r, sk, m => wPi (!sk.isEmpty) (decide (0 < m)) t s ++ wrS el at_ r sk m
  | .inl c :: r, sk, m => if c = -1 then (match sk with
      | [] => wrS el at_ r [] m
      | e :: q => wEn (el.getD e elD).1 ++ wrS el at_ r q m) else if c < 0 then wTg (EN el at_ (el.getD m elD).2.1) (EN el at_ (m : Int)) (el.getD m elD).1 (ats at_ (el.getD m elD)) ++ wrS el at_ r (m :: sk) (m + 1) else escL false c ++ wrS el at_ r sk m
/-- the canonical text -/
noncomputable def cnW (a : AS) : Str := wrS (aL a) (aB a) (aS a) [] 0
section Wpu
variable {k : Att → Key} {E E0 : Str → Str}
theorem mem_ins {x y : Att} : ∀ {l : List Att}, y ∈ ins k x l ↔ y = x ∨ y ∈ l
  | [] => by
    show y ∈ [x] ↔ _
    rw [List.mem_singleton]
    exact ⟨Or.inl, fun h => h.elim id (fun z => by cases z)⟩
  | z :: l => by
    unfold ins
    split
    · rw [List.mem_cons]
    · rw [List.mem_cons, mem_ins (l := l), List.mem_cons]
      constructor
      · rintro (h | h | h)
        · exact Or.inr (Or.inl h)
        · exact Or.inl h
        · exact Or.inr (Or.inr h)
      · rintro (h | h | h)
        · exact Or.inr (Or.inl h)
        · exact Or.inl h
        · exact Or.inr (Or.inr h)
theorem mem_srt {y : Att} : ∀ {l : List Att}, y ∈ srt k l ↔ y ∈ l
  | [] => Iff.rfl
  | x :: l => by
    show y ∈ ins k x (srt k l) ↔ _
    rw [mem_ins, mem_srt (l := l), List.mem_cons]
theorem ins_pw {x : Att} : ∀ {l : List Att}, (∀ y ∈ l, k x ≠ k y) → l.Pairwise (fun x y => klt (k x) (k y) = true) → (ins k x l).Pairwise (fun x y => klt (k x) (k y) = true)
  | [], _, _ => List.pairwise_singleton _ _
  | y :: l, hx, h => by
    unfold ins
    obtain ⟨h1, h2⟩ := List.pairwise_cons.mp h
    by_cases c : klt (k x) (k y) = true
    · rw [if_pos c]
      refine List.pairwise_cons.mpr ⟨fun z hz => ?_, h⟩
      rcases List.mem_cons.mp hz with q | q
      · rw [q]; exact c
      · exact klt_tr c (h1 z q)
    · rw [if_neg c]
      refine List.pairwise_cons.mpr ⟨fun z hz => ?_, ins_pw (fun z hz => hx z (List.mem_cons_of_mem _ hz)) h2⟩
      rcases mem_ins.mp hz with q | q
      · rw [q]
        rcases klt_tot (hx y List.mem_cons_self) with w | w
        · exact absurd w c
        · exact w
      · exact h1 z q
theorem srt_pw : ∀ {l : List Att}, l.Pairwise (fun x y => k x ≠ k y) → (srt k l).Pairwise (fun x y => klt (k x) (k y) = true)
  | [], _ => List.Pairwise.nil
  | x :: l, h => by
    obtain ⟨h1, h2⟩ := List.pairwise_cons.mp h
    exact ins_pw (fun y hy => h1 y (mem_srt.mp hy)) (srt_pw h2)
theorem srt_uniq : ∀ {l1 l2 : List Att}, l1.Pairwise (fun x y => klt (k x) (k y) = true) → l2.Pairwise (fun x y => klt (k x) (k y) = true) → (∀ x, x ∈ l1 ↔ x ∈ l2) → l1 = l2
  | [], [], _, _, _ => rfl
  | [], y :: l2, _, _, h => by have := (h y).mpr List.mem_cons_self; cases this
  | x :: l1, [], _, _, h => by have := (h x).mp List.mem_cons_self; cases this
  | x :: l1, y :: l2, h1, h2, h => by
    obtain ⟨a1, a2⟩ := List.pairwise_cons.mp h1
    obtain ⟨b1', b2⟩ := List.pairwise_cons.mp h2
    have exy : x = y := by
      rcases List.mem_cons.mp ((h x).mp List.mem_cons_self) with q | q
      · exact q
      · rcases List.mem_cons.mp ((h y).mpr List.mem_cons_self) with r | r
        · exact r.symm
        · have := kle_of (a1 y r)
          rw [b1' x q] at this
          cases this
    have nx : ∀ z ∈ l1, z ≠ x := fun z hz e => by
      have := a1 z hz
      rw [e, klt_irr] at this
      cases this
    have ny : ∀ z ∈ l2, z ≠ y := fun z hz e => by
      have := b1' z hz
      rw [e, klt_irr] at this
      cases this
    rw [exy, srt_uniq (l1 := l1) (l2 := l2) a2 b2 (fun z => ?_)]
    constructor
    · intro hz
      rcases List.mem_cons.mp ((h z).mp (List.mem_cons_of_mem _ hz)) with q | q
      · exact absurd (q.trans exy.symm) (nx z hz)
      · exact q
    · intro hz
      rcases List.mem_cons.mp ((h z).mpr (List.mem_cons_of_mem _ hz)) with q | q
      · exact absurd (q.trans exy) (ny z hz)
      · exact q
/-- what is written of a letter, in bytes -/
theorem esc_L {v : Bool} {c : Int} : esc v c = (escL v c).flatMap u8b := by
  have k1 : ∀ i ∈ [1088, 1090, 1091, 1092, 1093, 1094, 1095], (ti i).flatMap u8b = ti i := by decide +kernel
  unfold esc escL
  by_cases c1 : c = 38
  · rw [if_pos c1, if_pos c1, k1 _ (by decide)]
  · rw [if_neg c1, if_neg c1]
    by_cases c2 : c = 60
    · rw [if_pos c2, if_pos c2, k1 _ (by decide)]
    · rw [if_neg c2, if_neg c2]
      by_cases c3 : c = 13
      · rw [if_pos c3, if_pos c3, k1 _ (by decide)]
      · rw [if_neg c3, if_neg c3]
        by_cases c4 : c = 62 ∧ v = false
        · rw [if_pos c4, if_pos c4, k1 _ (by decide)]
        · rw [if_neg c4, if_neg c4]
          by_cases c5 : c = 34 ∧ v = true
          · rw [if_pos c5, if_pos c5, k1 _ (by decide)]
          · rw [if_neg c5, if_neg c5]
            by_cases c6 : c = 9 ∧ v = true
            · rw [if_pos c6, if_pos c6, k1 _ (by decide)]
            · rw [if_neg c6, if_neg c6]
              by_cases c7 : c = 10 ∧ v = true
              · rw [if_pos c7, if_pos c7, k1 _ (by decide)]
              · rw [if_neg c7, if_neg c7, List.flatMap_singleton]
theorem ti_u8 : ∀ i ∈ [1085, 1086, 1087, 1088, 1089], (ti i).flatMap u8b = ti i := by decide +kernel
theorem esc_fl {v : Bool} {s : Str} : s.flatMap (esc v) = (s.flatMap (escL v)).flatMap u8b := by
  rw [List.flatMap_assoc]
  congr 1
  funext c
  exact esc_L
/-- no two attributes of an element have one key -/
def KD (E : Str → Str) (l : List Att) : Prop := l.Pairwise (fun x y => wky E x.1 ≠ wky E y.1)
theorem sn_zero {f : Nat → Nat} : ∀ {n : Nat}, sn f n = 0 → ∀ i, i < n → f i = 0
  | 0, _, i, hi => absurd hi (Nat.not_lt_zero _)
  | n + 1, h, i, hi => by
    rw [sn_s] at h
    by_cases c : i = n
    · rw [c]; omega
    · exact sn_zero (n := n) (by omega) i (by omega)
theorem prf_nil {s : Str} (h : prf s = some []) : lcl s = s := by
  by_cases c : (clk s s.length).2 = 0
  · exact (prf_0 c).2
  · by_cases d : okq s
    · have := (prf_1 d).1
      rw [h] at this
      have h2 := congrArg List.length (Option.some.inj this)
      have h3 := d.2.1
      have h4 := d.2.2.1
      rw [List.length_nil, List.length_take] at h2
      omega
    · rw [(prf_n c d).1] at h
      cases h
/-- no two names of attributes mean the same if nothing is violated -/
theorem KD_of {at_ : List Att} {x : Elm} (h0 : ∀ i, i < x.2.2.2.1 → nm0 (at_.getD (x.2.2.1 + i) atD).1 = 0) (h1 : ∀ i, i < x.2.2.2.1 → nm1 E (at_.getD (x.2.2.1 + i) atD).1 = 0) (h2 : ∀ i, i < x.2.2.2.1 → nm2 E at_ x.2.2.1 i = 0) (hn : (nmL at_ x.2.2.1 x.2.2.2.1).Nodup) : KD E (ats at_ x) := by
  have hl : (nmL at_ x.2.2.1 x.2.2.2.1).length = x.2.2.2.1 := by unfold nmL; rw [List.length_map, List.length_range]
  unfold KD
  rw [List.pairwise_iff_getElem]
  intro i j hi hj hij
  rw [ats_len] at hi hj
  have ei : ∀ m (hm : m < (ats at_ x).length), (ats at_ x)[m] = at_.getD (x.2.2.1 + m) atD := fun m hm => by
    have := ats_get (at_ := at_) (x := x) (i := m) (by rw [ats_len] at hm; exact hm)
    rw [← this, List.getD_eq_getElem?_getD, List.getElem?_eq_getElem hm]
    rfl
  rw [ei, ei]
  have hne : (at_.getD (x.2.2.1 + i) atD).1 ≠ (at_.getD (x.2.2.1 + j) atD).1 := by
    have h5 := List.pairwise_iff_getElem.mp hn i j (by rw [hl]; exact hi) (by rw [hl]; exact hj) hij
    intro z
    refine h5 ?_
    unfold nmL
    simp only [List.getElem_map, List.getElem_range]
    exact z
  intro hk
  have p0i := h0 i hi
  have p0j := h0 j hj
  have p1i := h1 i hi
  have p1j := h1 j hj
  have p2 := h2 j hj
  unfold nm2 at p2
  have hb : mng E (at_.getD (x.2.2.1 + i) atD).1 = mng E (at_.getD (x.2.2.1 + j) atD).1 → lcl (at_.getD (x.2.2.1 + i) atD).1 = lcl (at_.getD (x.2.2.1 + j) atD).1 → bfr E at_ x.2.2.1 j = true := fun y1 y2 => by
    unfold bfr
    rw [List.any_eq_true]
    exact ⟨i, List.mem_range.mpr hij, by rw [y1, y2, decide_eq_true rfl, decide_eq_true rfl]; rfl⟩
  generalize (at_.getD (x.2.2.1 + i) atD).1 = s at *
  generalize (at_.getD (x.2.2.1 + j) atD).1 = t at *
  have pe : ∀ u : Str, nm0 u = 0 → nm1 E u = 0 → dcl u = none → (mng E u = [] → prf u = some []) := fun u z0 z1 zd zm => by
    unfold nm0 at z0
    unfold nm1 at z1
    by_cases c : prf u = none
    · rw [if_pos c] at z0; cases z0
    · by_cases d : pfx u = []
      · rcases pfx_cases (s := u) with ⟨y1, -⟩ | ⟨p, y1, y2⟩
        · exact absurd y1 c
        · rw [y1, ← y2, d]
      · unfold mng at zm
        rw [if_neg d] at zm
        by_cases e : pfx u = sXn
        · unfold dcl at zd
          rcases pfx_cases (s := u) with ⟨y1, -⟩ | ⟨p, y1, y2⟩
          · exact absurd y1 c
          · split at zd
            · cases zd
            · rw [if_pos (by rw [y1, ← y2, e])] at zd
              cases zd
        · rw [if_pos ⟨d, e, zm⟩] at z1
          cases z1
  unfold wky at hk
  cases hd : dcl s with
  | some p =>
    cases hd2 : dcl t with
    | some q =>
      rw [hd, hd2] at hk
      have e : p = q := congrArg (fun z : Key => z.2.1) hk
      exact hne (dcl_inj hd (by rw [e]; exact hd2))
    | none =>
      rw [hd, hd2] at hk
      have := congrArg (fun z : Key => z.1) hk
      cases this
  | none =>
    cases hd2 : dcl t with
    | some q =>
      rw [hd, hd2] at hk
      have := congrArg (fun z : Key => z.1) hk
      cases this
    | none =>
      rw [hd, hd2] at hk
      have e1 : mng E s = mng E t := congrArg (fun z : Key => z.2.1) hk
      have e2 : lcl s = lcl t := congrArg (fun z : Key => z.2.2) hk
      by_cases c : mng E t = []
      · have q1 := prf_nil (pe s p0i p1i hd (by rw [e1]; exact c))
        have q2 := prf_nil (pe t p0j p1j hd2 c)
        exact hne (by rw [← q1, ← q2, e2])
      · rw [if_pos ⟨c, hb e1 e2⟩] at p2
        cases p2
end Wpu
