/-! ===== the trees of models (pure): what comes first, last and behind, node by node ===== -/
/-- what may come first of parts -/
def fso (s : Int) (G : Nat → KGv) : List Nat → Nat → Bool
  | [], _ => false
  | c :: l, q => (gvl (G c)).2.1 q || ((s == 124 || (gvl (G c)).1) && fso s G l q)
/-- the parts from an accumulator on -/
def foA (s : Int) (G : Nat → KGv) (u : MVl) (l : List Nat) : MVl := l.foldl (fun v p => vjn (s == 124) v (gvl (G p))) u
section Kfo
variable {t : List KNd} {G : Nat → KGv} {s : Int} {l l1 l2 : List Nat} {u : MVl} {W : MVl} {NS : List Str} {i p c n : Nat}
theorem foA_fo : ∀ {l : List Nat} {u : MVl}, l.foldl (fun o p => some (vj s o (gvl (G p)))) (some u) = some (foA s G u l)
  | [], _ => rfl
  | _ :: l, _ => foA_fo (l := l)
theorem fo_cons : fo s G (c :: l) = some (foA s G (gvl (G c)) l) := foA_fo
theorem fo_mid : fo s G (l1 ++ c :: l2) = some (foA s G (vj s (fo s G l1) (gvl (G c))) l2) := by
  unfold fo
  rw [List.foldl_append]
  exact foA_fo
theorem foA_nul : ∀ {l : List Nat} {u : MVl}, (foA s G u l).1 = if s = 124 then u.1 || l.any (fun c => (gvl (G c)).1) else u.1 && l.all (fun c => (gvl (G c)).1)
  | [], u => by
    show u.1 = _
    split <;> simp
  | c :: l, u => by
    show (foA s G (vjn (s == 124) u (gvl (G c))) l).1 = _
    rw [foA_nul (l := l)]
    by_cases z : s = 124
    · rw [if_pos z, if_pos z, z]
      show (u.1 || (gvl (G c)).1 || l.any _) = (u.1 || ((gvl (G c)).1 || l.any _))
      rw [Bool.or_assoc]
    · rw [if_neg z, if_neg z, show (s == 124) = false by simpa using z]
      show (u.1 && (gvl (G c)).1 && l.all _) = (u.1 && ((gvl (G c)).1 && l.all _))
      rw [Bool.and_assoc]
theorem foA_fst {q : Nat} : ∀ {l : List Nat} {u : MVl}, (foA s G u l).2.1 q = (u.2.1 q || ((s == 124 || u.1) && fso s G l q))
  | [], u => by
    show u.2.1 q = (u.2.1 q || ((s == 124 || u.1) && false))
    simp
  | c :: l, u => by
    show (foA s G (vjn (s == 124) u (gvl (G c))) l).2.1 q = (u.2.1 q || ((s == 124 || u.1) && ((gvl (G c)).2.1 q || ((s == 124 || (gvl (G c)).1) && fso s G l q))))
    rw [foA_fst (l := l)]
    by_cases z : s = 124
    · rw [z]
      show ((u.2.1 q || (gvl (G c)).2.1 q) || (true && fso 124 G l q)) = (u.2.1 q || (true && ((gvl (G c)).2.1 q || (true && fso 124 G l q))))
      cases u.2.1 q <;> cases (gvl (G c)).2.1 q <;> rfl
    · rw [show (s == 124) = false by simpa using z]
      show ((u.2.1 q || (u.1 && (gvl (G c)).2.1 q)) || ((false || (u.1 && (gvl (G c)).1)) && fso s G l q)) = (u.2.1 q || ((false || u.1) && ((gvl (G c)).2.1 q || ((false || (gvl (G c)).1) && fso s G l q))))
      cases u.2.1 q <;> cases (gvl (G c)).2.1 q <;> cases u.1 <;> cases (gvl (G c)).1 <;> cases fso s G l q <;> rfl
theorem fo_nul (h : fo s G l = some u) : u.1 = if s = 124 then l.any (fun c => (gvl (G c)).1) else l.all (fun c => (gvl (G c)).1) := by
  cases l with
  | nil => cases h
  | cons c l =>
    rw [fo_cons] at h
    rw [← Option.some.inj h, foA_nul]
    rfl
theorem fo_fst {q : Nat} (h : fo s G l = some u) : u.2.1 q = fso s G l q := by
  cases l with
  | nil => cases h
  | cons c l =>
    rw [fo_cons] at h
    rw [← Option.some.inj h, foA_fst]
    rfl
/-- the name i is neither last nor followed -/
def sln (v : MVl) (i : Nat) : Prop := v.2.2.1 i = false ∧ ∀ q, v.2.2.2 i q = false
theorem sln.vof {v : MVl} {h : Int} (hs : sln v i) : sln (vof h v) i := ⟨hs.1, fun q => by
  show (v.2.2.2 i q || (rpt h && (v.2.2.1 i && v.2.1 q))) = false
  rw [hs.1, hs.2]
  simp⟩
theorem sln.vjn {v x : MVl} {b : Bool} (h1 : sln v i) (h2 : sln x i) : sln (vjn b v x) i := by
  cases b with
  | true => exact ⟨by show (v.2.2.1 i || x.2.2.1 i) = false; rw [h1.1, h2.1]; rfl, fun q => by show (v.2.2.2 i q || x.2.2.2 i q) = false; rw [h1.2, h2.2]; rfl⟩
  | false => exact ⟨by show (x.2.2.1 i || (x.1 && v.2.2.1 i)) = false; rw [h1.1, h2.1]; simp, fun q => by show ((v.2.2.2 i q || x.2.2.2 i q) || (v.2.2.1 i && x.2.1 q)) = false; rw [h1.1, h1.2, h2.2]; rfl⟩
theorem foA_slt : ∀ {l : List Nat} {u : MVl}, sln u i → (∀ c ∈ l, sln (gvl (G c)) i) → sln (foA s G u l) i
  | [], _, h, _ => h
  | c :: l, _, h, hl => foA_slt (l := l) (h.vjn (hl c List.mem_cons_self)) (fun d hd => hl d (List.mem_cons_of_mem _ hd))
theorem fo_slt (h : fo s G l = some u) (hl : ∀ c ∈ l, sln (gvl (G c)) i) : sln u i := by
  cases l with
  | nil => cases h
  | cons c l =>
    rw [fo_cons] at h
    rw [← Option.some.inj h]
    exact foA_slt (hl c List.mem_cons_self) (fun d hd => hl d (List.mem_cons_of_mem _ hd))
/-- behind the part that i lies in -/
theorem foA_aft : ∀ {l : List Nat} {u : MVl}, (∀ c ∈ l, sln (gvl (G c)) i) → (foA s G u l).2.2.1 i = (u.2.2.1 i && (s == 124 || l.all (fun c => (gvl (G c)).1))) ∧ ∀ q, (foA s G u l).2.2.2 i q = (u.2.2.2 i q || (u.2.2.1 i && (!(s == 124) && fso s G l q)))
  | [], u, _ => ⟨by show u.2.2.1 i = (u.2.2.1 i && (s == 124 || true)); simp, fun q => by show u.2.2.2 i q = (u.2.2.2 i q || (u.2.2.1 i && (!(s == 124) && false))); simp⟩
  | c :: l, u, hl => by
    have hc := hl c List.mem_cons_self
    obtain ⟨h1, h2⟩ := foA_aft (l := l) (u := vjn (s == 124) u (gvl (G c))) (fun d hd => hl d (List.mem_cons_of_mem _ hd))
    have e1 : (foA s G u (c :: l)) = foA s G (vjn (s == 124) u (gvl (G c))) l := rfl
    rw [e1]
    by_cases z : s = 124
    · have zb : (s == 124) = true := by simpa using z
      rw [zb] at h1 h2 ⊢
      have a1 : (vjn true u (gvl (G c))).2.2.1 i = u.2.2.1 i := by show (u.2.2.1 i || (gvl (G c)).2.2.1 i) = _; rw [hc.1, Bool.or_false]
      have a2 : ∀ q, (vjn true u (gvl (G c))).2.2.2 i q = u.2.2.2 i q := fun q => by show (u.2.2.2 i q || (gvl (G c)).2.2.2 i q) = _; rw [hc.2, Bool.or_false]
      refine ⟨by rw [h1, a1, Bool.true_or, Bool.true_or], fun q => ?_⟩
      rw [h2, a1, a2]
      simp
    · have zb : (s == 124) = false := by simpa using z
      rw [zb] at h1 h2 ⊢
      have a1 : (vjn false u (gvl (G c))).2.2.1 i = ((gvl (G c)).1 && u.2.2.1 i) := by show ((gvl (G c)).2.2.1 i || ((gvl (G c)).1 && u.2.2.1 i)) = _; rw [hc.1, Bool.false_or]
      have a2 : ∀ q, (vjn false u (gvl (G c))).2.2.2 i q = (u.2.2.2 i q || (u.2.2.1 i && (gvl (G c)).2.1 q)) := fun q => by show ((u.2.2.2 i q || (gvl (G c)).2.2.2 i q) || (u.2.2.1 i && (gvl (G c)).2.1 q)) = _; rw [hc.2, Bool.or_false]
      refine ⟨?_, fun q => ?_⟩
      · rw [h1, a1]
        show (((gvl (G c)).1 && u.2.2.1 i) && (false || l.all _)) = (u.2.2.1 i && (false || ((gvl (G c)).1 && l.all _)))
        cases (gvl (G c)).1 <;> cases u.2.2.1 i <;> simp
      · rw [h2, a1, a2]
        show ((u.2.2.2 i q || (u.2.2.1 i && (gvl (G c)).2.1 q)) || (((gvl (G c)).1 && u.2.2.1 i) && (!false && fso s G l q))) = (u.2.2.2 i q || (u.2.2.1 i && (!false && ((gvl (G c)).2.1 q || ((s == 124 || (gvl (G c)).1) && fso s G l q)))))
        rw [zb]
        cases u.2.2.2 i q <;> cases (gvl (G c)).2.1 q <;> cases u.2.2.1 i <;> cases (gvl (G c)).1 <;> cases fso s G l q <;> rfl
/-- a group, from the part that the name i lies in -/
theorem fo_at (h : fo s G (l1 ++ c :: l2) = some u) (h1 : ∀ d ∈ l1, sln (gvl (G d)) i) (h2 : ∀ d ∈ l2, sln (gvl (G d)) i) : u.2.2.1 i = ((gvl (G c)).2.2.1 i && (s == 124 || l2.all (fun c => (gvl (G c)).1))) ∧ ∀ q, u.2.2.2 i q = ((gvl (G c)).2.2.2 i q || ((gvl (G c)).2.2.1 i && (!(s == 124) && fso s G l2 q))) := by
  rw [fo_mid] at h
  have hu := Option.some.inj h
  have key : (vj s (fo s G l1) (gvl (G c))).2.2.1 i = (gvl (G c)).2.2.1 i ∧ ∀ q, (vj s (fo s G l1) (gvl (G c))).2.2.2 i q = (gvl (G c)).2.2.2 i q := by
    cases hf : fo s G l1 with
    | none => exact ⟨rfl, fun q => rfl⟩
    | some v =>
      have hv := fo_slt hf h1
      show (vjn (s == 124) v (gvl (G c))).2.2.1 i = _ ∧ ∀ q, (vjn (s == 124) v (gvl (G c))).2.2.2 i q = _
      cases (s == 124) with
      | true => exact ⟨by show (v.2.2.1 i || (gvl (G c)).2.2.1 i) = _; rw [hv.1, Bool.false_or], fun q => by show (v.2.2.2 i q || (gvl (G c)).2.2.2 i q) = _; rw [hv.2, Bool.false_or]⟩
      | false => exact ⟨by show ((gvl (G c)).2.2.1 i || ((gvl (G c)).1 && v.2.2.1 i)) = _; rw [hv.1, Bool.and_false, Bool.or_false], fun q => by show ((v.2.2.2 i q || (gvl (G c)).2.2.2 i q) || (v.2.2.1 i && (gvl (G c)).2.1 q)) = _; rw [hv.1, hv.2, Bool.false_or, Bool.false_and, Bool.or_false]⟩
  obtain ⟨a1, a2⟩ := foA_aft (s := s) (u := vj s (fo s G l1) (gvl (G c))) h2
  rw [← hu]
  refine ⟨by rw [a1, key.1], fun q => by rw [a2, key.1, key.2]⟩
theorem ivl_app : ∀ {l1 : List Nat} {x y : Nat}, ivl G x (l1 ++ l2) y → ∃ z, ivl G x l1 z ∧ ivl G z l2 y
  | [], x, _, h => ⟨x, rfl, h⟩
  | _ :: _, _, _, h => by
    obtain ⟨z, z1, z2⟩ := ivl_app h.2
    exact ⟨z, ⟨h.1, z1⟩, z2⟩
theorem ivl_le : ∀ {l : List Nat} {x y : Nat}, ivl G x l y → (∀ c ∈ l, glo (G c) < ghi (G c)) → x ≤ y ∧ ∀ c ∈ l, x ≤ glo (G c) ∧ ghi (G c) ≤ y
  | [], _, _, h, _ => ⟨Nat.le_of_eq h, fun c hc => by cases hc⟩
  | c :: l, x, y, h, hl => by
    obtain ⟨h1, h2⟩ := h
    obtain ⟨a1, a2⟩ := ivl_le h2 (fun d hd => hl d (List.mem_cons_of_mem _ hd))
    have hc := hl c List.mem_cons_self
    refine ⟨by omega, fun d hd => ?_⟩
    rcases List.mem_cons.mp hd with z | z
    · rw [z]; omega
    · have := a2 d z; omega
/-- below each node lies a name at least -/
theorem TFk.lh (hT : TFk t G W NS) : ∀ n p, p < t.length → t.length ≤ n + p → glo (G p) < ghi (G p) := by
  intro n
  induction n with
  | zero => intro p h1 h2; omega
  | succ n ih =>
    intro p h1 h2
    obtain ⟨a1, a2, a3, -⟩ := hT.1 p h1
    by_cases c : kK t p = 0
    · have := (a1 c).2.1; omega
    · obtain ⟨b1, -, b3, -⟩ := a2 c
      obtain ⟨d1, d2⟩ := ivl_le b3 (fun d hd => ih d (a3 d hd).2.2.1 (by have := (a3 d hd).2.1; omega))
      cases hl : gch (G p) with
      | nil => exact absurd hl b1
      | cons d r =>
        have hd : d ∈ gch (G p) := by rw [hl]; exact List.mem_cons_self
        have := d2 d hd
        have := ih d (a3 d hd).2.2.1 (by have := (a3 d hd).2.1; omega)
        omega
theorem TFk.lh' (hT : TFk t G W NS) (hp : p < t.length) : glo (G p) < ghi (G p) := hT.lh t.length p hp (by omega)
/-- a name that does not lie below a node is neither last there nor followed -/
theorem TFk.sup (hT : TFk t G W NS) : ∀ n p, p < t.length → t.length ≤ n + p → ∀ i, ¬ (glo (G p) ≤ i ∧ i < ghi (G p)) → sln (gvl (G p)) i := by
  intro n
  induction n with
  | zero => intro p h1 h2; omega
  | succ n ih =>
    intro p h1 h2 i hi
    obtain ⟨a1, a2, a3, -⟩ := hT.1 p h1
    by_cases c : kK t p = 0
    · obtain ⟨-, b2, b3, -⟩ := a1 c
      rw [b3]
      refine sln.vof ⟨?_, fun q => rfl⟩
      show (i == glo (G p)) = false
      have : i ≠ glo (G p) := by omega
      simpa using this
    · obtain ⟨b1, -, b3, s, -, b5⟩ := a2 c
      cases hf : fo s G (gch (G p)) with
      | none => rw [hf] at b5; cases b5
      | some u =>
        rw [hf] at b5
        have hv : vof (kO t p) u = gvl (G p) := Option.some.inj b5
        rw [← hv]
        obtain ⟨d1, d2⟩ := ivl_le b3 (fun d hd => hT.lh' (a3 d hd).2.2.1)
        refine (fo_slt hf (fun d hd => ih d (a3 d hd).2.2.1 (by have := (a3 d hd).2.1; omega) i (fun z => hi ⟨Nat.le_trans (d2 d hd).1 z.1, Nat.lt_of_lt_of_le z.2 (d2 d hd).2⟩))).vof
theorem TFk.sup' (hT : TFk t G W NS) (hp : p < t.length) (hi : ¬ (glo (G p) ≤ i ∧ i < ghi (G p))) : sln (gvl (G p)) i := hT.sup t.length p hp (by omega) i hi
/-- a node that is not the first: its group, what stands before and behind it there -/
theorem TFk.up (hT : TFk t G W NS) (hp : p < t.length) (h0 : p ≠ 0) (h1 : glo (G p) ≤ i) (h2 : i < ghi (G p)) : ∃ (g : Nat) (s : Int) (l1 l2 : List Nat) (u : MVl), kA t p = (g : Int) ∧ g < p ∧ kK t g = (if s = 124 then 2 else 1) ∧ gch (G g) = l1 ++ p :: l2 ∧ chn (kS t) (kS t p) l2 ∧ (∀ c ∈ l2, c < t.length ∧ p < c ∧ gdp (G c) = gdp (G g) + 1) ∧ gvl (G g) = vof (kO t g) u ∧ (∀ q, u.2.1 q = (gvl (G g)).2.1 q) ∧ (glo (G g) ≤ i ∧ i < ghi (G g)) ∧
    u.2.2.1 i = ((gvl (G p)).2.2.1 i && (s == 124 || l2.all (fun c => (gvl (G c)).1))) ∧ (∀ q, u.2.2.2 i q = ((gvl (G p)).2.2.2 i q || ((gvl (G p)).2.2.1 i && (!(s == 124) && fso s G l2 q)))) := by
  rcases hT.2.2.2.1 p hp with z | ⟨g, z1, z2, z3⟩
  · exact absurd z.1 h0
  have z3' : p ∈ gch (G g) := z3.elim id (fun y => by cases y)
  have hg : g < t.length := by omega
  obtain ⟨a1, a2, a3, a4, -⟩ := hT.1 g hg
  have hk : kK t g ≠ 0 := fun y => by rw [(a1 y).2.2.2] at z3'; cases z3'
  obtain ⟨b1, b2, b3, s, b4, b5⟩ := a2 hk
  obtain ⟨l1, l2, hl⟩ := List.append_of_mem z3'
  rw [hl] at b2 b3 b5 a3 a4
  cases hf : fo s G (l1 ++ p :: l2) with
  | none => rw [hf] at b5; cases b5
  | some u =>
    rw [hf] at b5
    have hv : vof (kO t g) u = gvl (G g) := Option.some.inj b5
    obtain ⟨z, i1, i2⟩ := ivl_app b3
    have lh : ∀ d ∈ l1 ++ p :: l2, glo (G d) < ghi (G d) := fun d hd => hT.lh' (a3 d hd).2.2.1
    have j1 := ivl_le i1 (fun d hd => lh d (List.mem_append_left _ hd))
    have j2 := ivl_le i2.2 (fun d hd => lh d (List.mem_append_right _ (List.mem_cons_of_mem _ hd)))
    have e1 := i2.1
    have hs1 : ∀ d ∈ l1, sln (gvl (G d)) i := fun d hd => hT.sup' (a3 d (List.mem_append_left _ hd)).2.2.1 (by have := j1.2 d hd; omega)
    have hs2 : ∀ d ∈ l2, sln (gvl (G d)) i := fun d hd => hT.sup' (a3 d (List.mem_append_right _ (List.mem_cons_of_mem _ hd))).2.2.1 (by have := j2.2 d hd; omega)
    obtain ⟨f1, f2⟩ := fo_at hf hs1 hs2
    refine ⟨g, s, l1, l2, u, z1, z2, b4, hl, chn_drop b2, fun c hc => ?_, hv.symm, fun q => by rw [← hv]; rfl, by omega, f1, f2⟩
    have := a3 c (List.mem_append_right _ (List.mem_cons_of_mem _ hc))
    refine ⟨this.2.2.1, ?_, this.2.2.2⟩
    have hp2 := (List.pairwise_append.mp a4).2.1
    exact (List.pairwise_cons.mp hp2).1 c hc
/-- a name that is not the last of a node is not the last of all, and nothing more comes behind it -/
theorem TFk.dn (hT : TFk t G W NS) : ∀ n p, p ≤ n → p < t.length → glo (G p) ≤ i → i < ghi (G p) → (gvl (G p)).2.2.1 i = false → W.2.2.1 i = false ∧ ∀ q, W.2.2.2 i q = (gvl (G p)).2.2.2 i q := by
  intro n
  induction n with
  | zero =>
    intro p h0 hp h1 h2 h3
    have : p = 0 := by omega
    subst this
    rw [hT.2.2.1] at h3 ⊢
    exact ⟨h3, fun q => rfl⟩
  | succ n ih =>
    intro p h0 hp h1 h2 h3
    by_cases c : p = 0
    · subst c
      rw [hT.2.2.1] at h3 ⊢
      exact ⟨h3, fun q => rfl⟩
    · obtain ⟨g, s, l1, l2, u, g1, g2, g3, g4, g5, g6, g7, g8, g9, g10, g11⟩ := hT.up hp c h1 h2
      have e1 : (gvl (G g)).2.2.1 i = false := by
        rw [g7]
        show u.2.2.1 i = false
        rw [g10, h3, Bool.false_and]
      obtain ⟨r1, r2⟩ := ih g (by omega) (by omega) g9.1 g9.2 e1
      refine ⟨r1, fun q => ?_⟩
      rw [r2, g7]
      show (u.2.2.2 i q || (rpt (kO t g) && (u.2.2.1 i && u.2.1 q))) = _
      rw [g10, g11, h3]
      simp
end Kfo
