/-! ===== the reference: whether an element fits, and its end ===== -/
/-- whether what stands in an element fits its declaration -/
def fitc (ed : List EDc) (x : EDc) (tc sp : Bool) (chs : List Str) : Bool := if x.2.1 = 0 then !tc else if x.2.1 = 3 then (!sp) && acc (mvE x).2 (mvE x).1 (mvE x).1.2.1 (mvE x).1.1 chs else if x.2.1 = 2 then chs.all (fun s => decide (s ∈ mxN x)) else chs.all (fun s => (edf ed s).isSome)
section Kcl
variable {L : Nat → Nat} {rm nd o : Nat} {σ τ : IS} {g g' : KG} {a a' A : AS} {Q : IS → Prop} {R : Int → IS → Prop} {bk : List Str} {ed : List EDc} {x : EDc}
/-- the names in an element, as both count them -/
theorem cns_chd {el : List Elm} {e : Nat} (h : ∀ y ∈ el, -1 ≤ y.2.1) : cns el 0 e = chd el e := by
  have key : ∀ n j, n + j = el.length → (chl (kpr el) el.length e j).map (fun i => (el.getD i elD).1) = ((el.drop j).filter (fun x => x.2.1 == (e : Int))).map (fun x => x.1) := by
    intro n
    induction n with
    | zero =>
      intro j hj
      rw [chl_e (by omega), List.drop_eq_nil_of_le (by omega)]
      rfl
    | succ n ih =>
      intro j hj
      have hjl : j < el.length := by omega
      have hg : el.getD j elD = el[j] := by rw [List.getD_eq_getElem?_getD, List.getElem?_eq_getElem hjl]; rfl
      rw [chl_s hjl, List.drop_eq_getElem_cons hjl, List.filter_cons]
      have hm := h _ (List.getElem_mem hjl)
      have hkp : kpr el j = some e ↔ (el[j]).2.1 = (e : Int) := by
        unfold kpr
        rw [hg]
        by_cases c : (el[j]).2.1 = -1
        · rw [if_pos c, c]
          exact ⟨fun z => (by cases z), fun z => (by omega)⟩
        · rw [if_neg c]
          constructor
          · intro z
            have := Option.some.inj z
            omega
          · intro z
            rw [z]; rfl
      by_cases c : (el[j]).2.1 = (e : Int)
      · rw [if_pos (hkp.mpr c), if_pos (by simpa using c), List.map_cons, List.map_cons, ih (j + 1) (by omega), hg]
      · rw [if_neg (fun z => c (hkp.mp z)), if_neg (by simpa using c)]
        exact ih (j + 1) (by omega)
  have := key el.length 0 (by omega)
  rw [List.drop_zero] at this
  exact this
theorem fit_c {el : List Elm} {e : Nat} (h : ∀ y ∈ el, -1 ≤ y.2.1) : fit ed el x e = fitc ed x (el.getD e elD).2.2.2.2.2.1 (el.getD e elD).2.2.2.2.2.2 (chd el e) := by
  unfold fit fitc
  rw [cns_chd h]
/-- the tree of a declared model means what the model means -/
theorem bldN_TF (hG : GDx x) (hk : x.2.1 = 3) : (∃ G, TFk (bldN x) G (mvE x).1 (mvE x).2) ∧ (mvE x).2.length ≤ 255 := by
  obtain ⟨r, ⟨h0, h40⟩, h1, h2, h3, h4, h5, h6, -⟩ := md_src (T := gd x.2.2) (e := x.2.2.length) (a := 0) hG hk (by omega) sl_gd
  have hre := (mdk_two _ _ _ _ _ _ (by decide) h1).2
  have hlen := (mdk_len _ _ _ _ _ _ _ (by omega) h1).2
  have hE : mdE x = r.1 := by
    unfold mdE mdl
    have hm : mt (gd x.2.2) x.2.2.length 0 [40] = true := by
      show ((lk (gd x.2.2) x.2.2.length 0 == 40) && true) = true
      rw [lk_b h0, h40]
      rfl
    rw [if_pos hm, h1]
    rfl
  refine ⟨?_, by omega⟩
  unfold bldN
  rw [hE, bld_s, if_neg (by omega), if_pos h40]
  have hB : BI (knw 1 [] (-1) (-1) (-1) []) (fun _ => ((false, fun _ => false, fun _ => false, fun _ _ => false), 0, 0, 0, [])) [] 0 [] 0 none [] true (-1) := by
    have hl : (knw 1 [] (-1) (-1) (-1) []).length = 1 := rfl
    refine ⟨fun p hp hpn => absurd (show p ∈ [0] by rw [show p = 0 by omega]; exact List.mem_singleton.mpr rfl) hpn, ⟨⟨by decide, rfl, rfl, rfl, List.Pairwise.nil, fun c hc => (by cases hc), rfl, rfl, fun _ => (by decide), rfl, rfl⟩, trivial⟩, Or.inl ⟨rfl, rfl⟩, fun _ _ => rfl, fun p hp => Or.inl ⟨by omega, by rw [show p = 0 by omega]; rfl⟩, ⟨fun p hp hpk => ?_, rfl⟩, rfl⟩
    rw [show p = 0 by omega] at hpk
    exact absurd hpk (by decide)
  exact bl_go _ 0 [] 0 none [] true 1 1 [] r (mvE x).1 (mvE x).2 _ _ (-1) r.1 h1 h5 (by omega) hre h3 (by decide) hB (by omega)
theorem fE_mem : ∀ (n : Nat) (ed : List EDc), ed.length = n → ∀ x ∈ fE ed, x ∈ ed := by
  intro n
  induction n with
  | zero =>
    intro ed h x hx
    have : ed = [] := List.eq_nil_of_length_eq_zero h
    subst this
    exact hx
  | succ n ih =>
    intro ed h x hx
    obtain ⟨ed', y, rfl⟩ : ∃ ed' y, ed = ed' ++ [y] := by
      have hne : ed ≠ [] := fun z => by rw [z] at h; cases h
      exact ⟨ed.dropLast, ed.getLast hne, (List.dropLast_concat_getLast hne).symm⟩
    rw [List.length_append, List.length_singleton] at h
    rw [fE_app] at hx
    split at hx
    · exact List.mem_append_left _ (ih ed' (by omega) x hx)
    · rcases List.mem_append.mp hx with z | z
      · exact List.mem_append_left _ (ih ed' (by omega) x z)
      · exact List.mem_append_right _ z
theorem fE_sub {j : Nat} (hj : j < (fE ed).length) : (fE ed).getD j ([], 0, []) ∈ ed := by
  refine fE_mem _ ed rfl _ ?_
  rw [List.getD_eq_getElem?_getD, List.getElem?_eq_getElem hj]
  exact List.getElem_mem hj
theorem fE_len : ∀ (n : Nat) (ed : List EDc), ed.length = n → (fE ed).length ≤ ed.length := by
  intro n
  induction n with
  | zero =>
    intro ed h
    have : ed = [] := List.eq_nil_of_length_eq_zero h
    subst this
    exact Nat.le_refl _
  | succ n ih =>
    intro ed h
    obtain ⟨ed', y, rfl⟩ : ∃ ed' y, ed = ed' ++ [y] := by
      have hne : ed ≠ [] := fun z => by rw [z] at h; cases h
      exact ⟨ed.dropLast, ed.getLast hne, (List.dropLast_concat_getLast hne).symm⟩
    rw [List.length_append, List.length_singleton] at h
    have := ih ed' (by omega)
    rw [fE_app, List.length_append, List.length_singleton]
    split
    · omega
    · rw [List.length_append, List.length_singleton]; omega
set_option maxHeartbeats 2000000 in
theorem sp_K_isFit {i fr n64 : Nat} {a1 : Int} {tc sp : Bool} {chs : List Str} (hL : KLn L o rm nd) (hn : (gB g).Nodup) (hE : KEd σ (gB g) ed) (hG : ∀ x ∈ ed, GDx x ∧ x.2.1 ≤ 3) (hl : (fE ed).length ≤ 8300) (h47 : σ.1 16 47 ≤ 50000) (h58 : σ.1 16 58 ≤ 50000) (hi : i < (fE ed).length) (ha1 : a1 = (i : Int)) (h64 : σ.1 16 64 = (n64 : Int)) (h64b : n64 < 16384) (htc : σ.2 168 n64 = b1 tc) (hsp : σ.2 169 n64 = b1 sp) (h170 : σ.2 170 n64 = (fr : Int)) (h66 : σ.1 16 66 = ((fr + chs.length : Nat) : Int)) (hle : fr + chs.length ≤ 16384) (hch : ∀ j, j < chs.length → Kn (gB g) (σ.2 171 (fr + j)) (chs.getD j [])) (hq : ∀ τ, TXk σ τ → R (b1 (fitc ed ((fE ed).getD i ([], 0, [])) tc sp chs)) τ) : w_KReader_isFit L a1 R σ := by
  subst ha1
  obtain ⟨e1, e2, e3, e4⟩ := id hE
  obtain ⟨k1, k2, k3, k4, k5⟩ := e2 i hi
  have hmem : ∀ j, j < (fE ed).length → (fE ed).getD j ([], 0, []) ∈ ed := fun j hj => fE_sub hj
  have hgx := hG _ (hmem i hi)
  have l16 := hL.2.2.2.2.1
  have l168 := l16 168 (by omega) (by omega)
  have l169 := l16 169 (by omega) (by omega)
  have l170 := l16 170 (by omega) (by omega)
  have l171 := l16 171 (by omega) (by omega)
  have l9 := hL.2.2.2.2.2.2.2.2.1
  have l190 := l9 190 (by omega) (by omega)
  have l191 := l9 191 (by omega) (by omega)
  have l192 := l9 192 (by omega) (by omega)
  have l207 : L 207 = 50000 := hL.2.2.2.2.2.2.2.2.2.2.2.1
  generalize hxe : (fE ed).getD i ([], 0, []) = x at *
  unfold w_KReader_isFit
  rw [h64, show Int.toNat (n64 : Int) = n64 from rfl, show Int.toNat (i : Int) = i from rfl, k2, htc, hsp, h170]
  refine ⟨⟨by omega, by omega⟩, ⟨by omega, by omega⟩, ?_⟩
  unfold fitc at hq
  by_cases c0 : x.2.1 = 0
  · rw [if_pos (by omega)]
    rw [if_pos c0] at hq
    refine ⟨⟨by omega, by omega⟩, ?_⟩
    have := hq σ TXk.refl
    cases tc
    · exact this
    · exact this
  rw [if_neg (by omega)]
  rw [if_neg c0] at hq
  refine ⟨⟨by omega, by omega⟩, ?_⟩
  by_cases c3 : x.2.1 = 3
  · rw [if_pos (by omega)]
    rw [if_pos c3] at hq
    refine ⟨⟨by omega, by omega⟩, ?_⟩
    refine WJ_dir ?_
    refine WJ_dir ?_
    cases sp with
    | true =>
      rw [if_neg (by decide)]
      exact ⟨Or.inl rfl, hq σ TXk.refl⟩
    | false =>
      rw [if_pos (by decide)]
      obtain ⟨n0, m1, m2, m3, m4⟩ := k4 c3
      obtain ⟨⟨G, hT⟩, h255⟩ := bldN_TF hgx.1 c3
      rw [m1]
      refine ⟨⟨by omega, by omega⟩, sp_K_makes (chs := chs) (fr := fr) hL.2.2.2.2.2.2.2.2.2.1 hL.2.2.2.2.2.2.2.2.2.2.2.2.2.1 l171 hn hT m3 h255 m2 h47 m4 rfl h66 hch hle (fun τ hX => ?_)⟩
      have := hq τ hX
      rw [Bool.not_false, Bool.true_and] at this
      generalize acc (mvE x).2 (mvE x).1 (mvE x).1.2.1 (mvE x).1.1 chs = bb at this ⊢
      cases bb with
      | true => rw [if_neg (by decide)]; exact ⟨Or.inr rfl, this⟩
      | false => rw [if_pos (by decide)]; exact ⟨Or.inl rfl, this⟩
  rw [if_neg (by omega)]
  rw [if_neg c3] at hq
  clear k4
  -- children one by one
  have hfc : ∀ P : Str → Bool, (if x.2.1 = 2 then chs.all (fun s => decide (s ∈ mxN x)) else chs.all (fun s => (edf ed s).isSome)) = chs.all P → (∀ s, P s = if x.2.1 = 2 then decide (s ∈ mxN x) else (edf ed s).isSome) → True := fun _ _ _ => trivial
  have hP : (if x.2.1 = 2 then chs.all (fun s => decide (s ∈ mxN x)) else chs.all (fun s => (edf ed s).isSome)) = chs.all (fun s => if x.2.1 = 2 then decide (s ∈ mxN x) else (edf ed s).isSome) := by
    by_cases c2 : x.2.1 = 2
    · simp only [if_pos c2]
    · simp only [if_neg c2]
  rw [hP] at hq
  clear hP hfc
  refine WL_ind (fun (s5 : Int × Int) ρ => ρ = σ ∧ ∃ j : Nat, j ≤ chs.length ∧ s5 = (b1 ((chs.take j).all (fun s => if x.2.1 = 2 then decide (s ∈ mxN x) else (edf ed s).isSome)), ((fr + j : Nat) : Int))) (fun s _ => (((fr + chs.length : Nat) : Int) - s.2).toNat) ?_ _ σ ⟨rfl, 0, by omega, rfl⟩
  rintro s5 ρ ⟨rfl, j, hj, rfl⟩ K hI
  try dsimp only
  rw [h66]
  by_cases c : j < chs.length
  · rw [if_pos (by omega), show Int.toNat ((fr + j : Nat) : Int) = fr + j from rfl, k2]
    have hw := hch j c
    have htk : (chs.take (j + 1)).all (fun s => if x.2.1 = 2 then decide (s ∈ mxN x) else (edf ed s).isSome) = ((chs.take j).all (fun s => if x.2.1 = 2 then decide (s ∈ mxN x) else (edf ed s).isSome) && (if x.2.1 = 2 then decide (chs.getD j [] ∈ mxN x) else (edf ed (chs.getD j [])).isSome)) := by
      rw [List.take_add_one, List.all_append, List.getElem?_eq_getElem c, List.getD_eq_getElem?_getD, List.getElem?_eq_getElem c]
      simp
    generalize hwd : chs.getD j [] = w at *
    refine ⟨⟨by omega, by omega⟩, ?_⟩
    -- the next
    have nxt : ∀ b : Bool, b = (if x.2.1 = 2 then decide (w ∈ mxN x) else (edf ed w).isSome) → inR (((fr + j : Nat) : Int) + 1) ∧ K ((if b1 ((chs.take j).all (fun s => if x.2.1 = 2 then decide (s ∈ mxN x) else (edf ed s).isSome)) = 0 then (0 : Int) else (if b1 b = 0 then (0 : Int) else (1 : Int))), ((fr + j : Nat) : Int) + 1) ρ := fun b hb => by
      refine ⟨⟨by omega, by omega⟩, hI _ _ ⟨rfl, j + 1, by omega, ?_⟩ (by dsimp only; omega)⟩
      rw [htk, ← hb]
      refine Prod.ext ?_ ?_
      · cases (chs.take j).all (fun s => if x.2.1 = 2 then decide (s ∈ mxN x) else (edf ed s).isSome) <;> cases b <;> rfl
      · show ((fr + j : Nat) : Int) + 1 = ((fr + (j + 1) : Nat) : Int)
        omega
    refine WJ_of (fun (s11 : Int) υ => υ = ρ ∧ ((x.2.1 = 2 ∧ s11 = 0) ∨ (x.2.1 ≠ 2 ∧ s11 = b1 (edf ed w).isSome))) (fun J hJ => ?_) ?_
    · refine WJ_dir ?_
      by_cases c2 : x.2.1 = 2
      · rw [if_neg (by omega)]
        exact hJ 0 _ ⟨rfl, Or.inl ⟨c2, rfl⟩⟩
      · rw [if_pos (by omega)]
        refine ⟨⟨by omega, by omega⟩, sp_K_contentOf (s := w) (ed := ed) hL hn hE hl hw.f ?_⟩
        have hiso := (fE_edf (s := w) ed).1
        cases hf : fEi ed w with
        | none =>
          rw [hf] at hiso
          have hz : (edf ed w).isSome = false := hiso.symm
          rw [if_pos (show enc none < 0 by decide)]
          exact hJ 0 _ ⟨rfl, Or.inr ⟨c2, by rw [hz]; rfl⟩⟩
        | some z =>
          rw [hf] at hiso
          have hz : (edf ed w).isSome = true := hiso.symm
          have ez : enc (some z) = (z : Int) := rfl
          rw [ez, if_neg (by omega)]
          exact hJ 1 _ ⟨rfl, Or.inr ⟨c2, by rw [hz]; rfl⟩⟩
    rintro s11 υ ⟨rfl, h11⟩
    by_cases c2 : x.2.1 = 2
    · have hs11 : s11 = 0 := by
        rcases h11 with z | z
        · exact z.2
        · exact absurd c2 z.1
      obtain ⟨⟨b, m1, m2, m3⟩, m4⟩ := k3 c2
      subst hs11
      refine WL_ind (fun (s15 : Int × Int) υ2 => υ2 = υ ∧ ∃ q : Nat, q ≤ (mxN x).length ∧ s15 = (b1 (decide (w ∈ (mxN x).take q)), (q : Int))) (fun s _ => (((mxN x).length : Int) - s.2).toNat) ?_ _ υ ⟨rfl, 0, by omega, by rw [List.take_zero]; rfl⟩
      rintro s15 υ2 ⟨rfl, q, hq', rfl⟩ K2 hI2
      try dsimp only
      rw [m4, k2]
      refine ⟨⟨by omega, by omega⟩, fun _ => ⟨by omega, by omega⟩, ?_⟩
      by_cases cq : q < (mxN x).length
      · rw [if_pos ⟨by omega, by omega⟩, m1, show (b : Int) + (q : Int) = ((b + q : Nat) : Int) by omega, show Int.toNat ((b + q : Nat) : Int) = b + q from rfl]
        refine ⟨fun _ => ⟨⟨by omega, by omega⟩, ⟨by omega, by omega⟩, ⟨by omega, by omega⟩, ⟨by omega, by omega⟩⟩, ?_⟩
        unfold LETI
        refine ⟨⟨by omega, by omega⟩, hI2 _ _ ⟨rfl, q + 1, by omega, ?_⟩ (by dsimp only; omega)⟩
        have hkq := Kn.eqI hn (m3 q cq) hw
        have hmem2 : (w ∈ (mxN x).take (q + 1)) ↔ (w ∈ (mxN x).take q ∨ (mxN x).getD q [] = w) := by
          rw [List.take_add_one, List.mem_append, List.getElem?_eq_getElem cq, List.getD_eq_getElem?_getD, List.getElem?_eq_getElem cq]
          simp [eq_comm]
        refine Prod.ext ?_ rfl
        show (if b1 (decide (w ∈ (mxN x).take q)) = 0 then (if υ2.2 207 (b + q) = υ2.2 171 (fr + j) then (1 : Int) else 0) else 1) = b1 (decide (w ∈ (mxN x).take (q + 1)))
        by_cases cm : w ∈ (mxN x).take q
        · rw [decide_eq_true cm, decide_eq_true (hmem2.mpr (Or.inl cm)), if_neg (by decide)]
          rfl
        · rw [decide_eq_false cm, if_pos (by decide)]
          by_cases ce : (mxN x).getD q [] = w
          · rw [if_pos (hkq.mpr ce), decide_eq_true (hmem2.mpr (Or.inr ce))]
            rfl
          · rw [if_neg (fun z => ce (hkq.mp z)), decide_eq_false (fun z => (hmem2.mp z).elim cm ce)]
            rfl
      · rw [if_neg (fun z => by have := z.1; omega)]
        have hqe : q = (mxN x).length := by omega
        rw [hqe, List.take_length]
        exact nxt (decide (w ∈ mxN x)) (by rw [if_pos c2])
    · have hs11 : s11 = b1 (edf ed w).isSome := by
        rcases h11 with z | z
        · exact absurd z.1 c2
        · exact z.2
      subst hs11
      have h192 := k5 c2
      refine WL_ind (fun (s15 : Int × Int) υ2 => υ2 = υ ∧ s15 = (b1 (edf ed w).isSome, 0)) (fun _ _ => 0) ?_ _ υ ⟨rfl, rfl⟩
      rintro s15 υ2 ⟨rfl, rfl⟩ K2 hI2
      try dsimp only
      rw [h192]
      refine ⟨⟨by omega, by omega⟩, fun z => absurd z (by decide), ?_⟩
      rw [if_neg (fun z => absurd z.1 (by decide))]
      exact nxt _ (by rw [if_neg c2])
  · rw [if_neg (by omega)]
    have hje : j = chs.length := by omega
    rw [hje, List.take_length]
    exact ⟨is01_b, hq ρ TXk.refl⟩
end Kcl
