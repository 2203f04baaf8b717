/-! ===== the reference: a tree is built ===== -/
/-- the names of a text, from k on -/
def bnm (T : Nat → Int) (e : Nat) : Nat → Nat → List Str
  | 0, _ => []
  | n + 1, k => if e ≤ k then [] else match nmg T e true (some k) with
    | none => bnm T e n (k + 1)
    | some j => sl T k (j - k) :: bnm T e n j
/-- the innermost group -/
def ghd : List Nat → Int
  | [] => -1
  | g :: _ => (g : Int)
/-- groups that are open lie in each other -/
def ABk (t : List KNd) : List Nat → Prop
  | [] => True
  | g :: gl => kA t g = ghd gl ∧ ABk t gl
/-- a tree that is being built, without what it means -/
def BS (t : List KNd) (gl : List Nat) (la : Int) : Prop := (∀ g ∈ gl, g < t.length ∧ kK t g ≠ 0) ∧ ABk t gl ∧ (la = -1 ∨ ∃ i : Nat, la = (i : Int) ∧ i < t.length)
section Kbd
variable {L : Nat → Nat} {rm nd o : Nat} {σ ρ τ : IS} {g g' : KG} {Q : IS → Prop} {R : Int → IS → Prop} {T : Nat → Int} {p e : Nat} {x y : Int} {s : Str} {l : List Str} {t t' : List KNd} {gl : List Nat} {la gr kd h ch : Int} {nm : Str} {bk bk' : List Str} {n0 : Nat}
theorem ghd_or (hB : BS t gl la) : ghd gl = -1 ∨ ∃ i : Nat, ghd gl = (i : Int) ∧ i < t.length := by
  cases gl with
  | nil => exact Or.inl rfl
  | cons g gl => exact Or.inr ⟨g, rfl, (hB.1 g List.mem_cons_self).1⟩
theorem ABk.ext : ∀ {gl : List Nat}, ABk t gl → (∀ g ∈ gl, kA t' g = kA t g) → ABk t' gl
  | [], _, _ => trivial
  | g :: gl, h, hA => ⟨by rw [hA g List.mem_cons_self]; exact h.1, ABk.ext h.2 (fun x hx => hA x (List.mem_cons_of_mem _ hx))⟩
theorem BS.grp (hB : BS t gl la) (hr : RD t t' 1 0 [] (-1) (ghd gl) la) : BS t' (t.length :: gl) (-1) := by
  obtain ⟨r1, r2, r3⟩ := hr
  refine ⟨fun g hg => ?_, ⟨r3.2.2.2.2.2, hB.2.1.ext (fun g hg => (r2 g (hB.1 g hg).1).2.2.2.1)⟩, Or.inl rfl⟩
  rcases List.mem_cons.mp hg with z | z
  · rw [z]; exact ⟨by omega, by rw [r3.1]; decide⟩
  · exact ⟨by have := (hB.1 g z).1; omega, by rw [(r2 g (hB.1 g z).1).1]; exact (hB.1 g z).2⟩
theorem BS.nam (hB : BS t gl la) (hr : RD t t' 0 h nm ch (ghd gl) la) : BS t' gl (t.length : Int) := by
  obtain ⟨r1, r2, r3⟩ := hr
  exact ⟨fun g hg => ⟨by have := (hB.1 g hg).1; omega, by rw [(r2 g (hB.1 g hg).1).1]; exact (hB.1 g hg).2⟩, hB.2.1.ext (fun g hg => (r2 g (hB.1 g hg).1).2.2.2.1), Or.inr ⟨t.length, rfl, by omega⟩⟩
theorem BS.cls {g0 : Nat} (hB : BS t (g0 :: gl) la) : BS t gl (g0 : Int) := ⟨fun g hg => hB.1 g (List.mem_cons_of_mem _ hg), hB.2.1.2, Or.inr ⟨g0, rfl, (hB.1 g0 List.mem_cons_self).1⟩⟩
theorem BS.oft {i : Nat} (hB : BS t gl la) (hi : i < t.length) : BS (t.modify i (fun x => (x.1, h, x.2.2))) gl la := by
  have := kof_rd (t := t) (h := h) hi
  exact ⟨fun g hg => ⟨by rw [this.1]; exact (hB.1 g hg).1, by rw [(this.2 g (hB.1 g hg).1).1]; exact (hB.1 g hg).2⟩, hB.2.1.ext (fun g hg => (this.2 g (hB.1 g hg).1).2.2.2.2.2), by rw [this.1]; exact hB.2.2⟩
theorem BS.alt {i : Nat} (hB : BS t gl la) (hi : i < t.length) : BS (t.modify i (fun x => (2, x.2))) gl la := by
  have := kch_rd (t := t) hi
  have h2 : ∀ g ∈ gl, kK (t.modify i (fun x => (2, x.2))) g ≠ 0 := fun g hg => by
    rw [(this.2 g (hB.1 g hg).1).1]
    split
    · decide
    · exact (hB.1 g hg).2
  exact ⟨fun g hg => ⟨by rw [this.1]; exact (hB.1 g hg).1, h2 g hg⟩, hB.2.1.ext (fun g hg => (this.2 g (hB.1 g hg).1).2.2.2.2.2), by rw [this.1]; exact hB.2.2⟩
theorem bld_len {e' : Nat} : ∀ (n k : Nat) (gr la : Int) (lf : Nat) (t : List KNd), t.length ≤ (bld T e' n k gr la lf t).length := by
  intro n
  induction n with
  | zero => intro k gr la lf t; exact Nat.le_refl _
  | succ n ih =>
    intro k gr la lf t
    have hkn : ∀ (kd : Int) (nm : Str) (ch gr la : Int), (knw kd nm ch gr la t).length = t.length + 1 := fun kd nm ch gr la => by
      unfold knw
      rw [List.length_append, List.length_singleton]
      split
      · rw [List.length_modify]
      · split
        · rw [List.length_modify]
        · rfl
    rw [bld_s]
    split
    · exact Nat.le_refl _
    · split
      · refine Nat.le_trans ?_ (ih _ _ _ _ _)
        rw [hkn]; omega
      · split
        · exact ih _ _ _ _ _
        · split
          · refine Nat.le_trans ?_ (ih _ _ _ _ _)
            rw [List.length_modify]; exact Nat.le_refl _
          · split
            · refine Nat.le_trans ?_ (ih _ _ _ _ _)
              rw [List.length_modify]; exact Nat.le_refl _
            · split
              · exact ih _ _ _ _ _
              · refine Nat.le_trans ?_ (ih _ _ _ _ _)
                rw [hkn]; omega
theorem ksh_nn {i : Nat} : ksh n0 (i : Int) = ((n0 + i : Nat) : Int) := by
  unfold ksh
  rw [if_neg (by omega)]
  omega
/-- the rows of a tree with a new node -/
theorem KTr.new (hT : KTr σ bk n0 t) (hk : kle bk bk') (hla : la = -1 ∨ ∃ i : Nat, la = (i : Int) ∧ i < t.length) (hgr : gr = -1 ∨ ∃ i : Nat, gr = (i : Int) ∧ i < t.length ∧ kK t i ≠ 0)
    (hr : ∀ r j, 193 ≤ r → r ≤ 198 → j < t.length → τ.2 r (n0 + j) = if r = 197 ∧ la = (j : Int) then ((n0 + t.length : Nat) : Int) else if r = 196 ∧ la < 0 ∧ gr = (j : Int) then ((n0 + t.length : Nat) : Int) else σ.2 r (n0 + j))
    (h3 : τ.2 193 (n0 + t.length) = kd) (h4 : τ.2 194 (n0 + t.length) = 0) (h5 : kd = 0 → Kn bk' (τ.2 195 (n0 + t.length)) nm ∧ τ.2 196 (n0 + t.length) = ch) (h6 : kd ≠ 0 → τ.2 196 (n0 + t.length) = ksh n0 ch) (h7 : τ.2 197 (n0 + t.length) = -1) (h8 : τ.2 198 (n0 + t.length) = ksh n0 gr) : KTr τ bk' n0 (knw kd nm ch gr la t) := by
  have hgr' : gr = -1 ∨ ∃ i : Nat, gr = (i : Int) ∧ i < t.length := hgr.imp id (fun ⟨i, a, b, _⟩ => ⟨i, a, b⟩)
  obtain ⟨r1, r2, r3⟩ := knw_rd (kd := kd) (nm := nm) (ch := ch) hla hgr'
  intro j hj
  rw [r1] at hj
  show τ.2 193 (n0 + j) = kK (knw kd nm ch gr la t) j ∧ τ.2 194 (n0 + j) = kO (knw kd nm ch gr la t) j ∧ (kK (knw kd nm ch gr la t) j = 0 → Kn bk' (τ.2 195 (n0 + j)) (kM (knw kd nm ch gr la t) j) ∧ τ.2 196 (n0 + j) = kC (knw kd nm ch gr la t) j) ∧ (kK (knw kd nm ch gr la t) j ≠ 0 → τ.2 196 (n0 + j) = ksh n0 (kC (knw kd nm ch gr la t) j)) ∧ τ.2 197 (n0 + j) = ksh n0 (kS (knw kd nm ch gr la t) j) ∧ τ.2 198 (n0 + j) = ksh n0 (kA (knw kd nm ch gr la t) j)
  by_cases c : j = t.length
  · subst c
    obtain ⟨q1, q2, q3, q4, q5, q6⟩ := r3
    rw [q1, q2, q3, q4, q5, q6]
    exact ⟨h3, h4, h5, h6, h7, h8⟩
  · have hj' : j < t.length := by omega
    obtain ⟨q1, q2, q3, q4, q5, q6⟩ := r2 j hj'
    obtain ⟨k1, k2, k3, k4, k5, k6⟩ := hT j hj'
    have k1 : σ.2 193 (n0 + j) = kK t j := k1
    have k2 : σ.2 194 (n0 + j) = kO t j := k2
    have k3 : kK t j = 0 → Kn bk (σ.2 195 (n0 + j)) (kM t j) ∧ σ.2 196 (n0 + j) = kC t j := k3
    have k4 : kK t j ≠ 0 → σ.2 196 (n0 + j) = ksh n0 (kC t j) := k4
    have k5 : σ.2 197 (n0 + j) = ksh n0 (kS t j) := k5
    have k6 : σ.2 198 (n0 + j) = ksh n0 (kA t j) := k6
    have e3 := hr 193 j (by omega) (by omega) hj'
    have e4 := hr 194 j (by omega) (by omega) hj'
    have e5 := hr 195 j (by omega) (by omega) hj'
    have e6 := hr 196 j (by omega) (by omega) hj'
    have e7 := hr 197 j (by omega) (by omega) hj'
    have e8 := hr 198 j (by omega) (by omega) hj'
    rw [if_neg (by omega), if_neg (by omega)] at e3 e4 e5 e8
    rw [if_neg (by omega)] at e6
    rw [q1, q2, q3, q4, q5, q6, e3, e4, e5, e6, e7, e8]
    refine ⟨k1, k2, fun z => ⟨(k3 z).1.le hk, ?_⟩, fun z => ?_, ?_, k6⟩
    · have hng : ¬ gr = (j : Int) := fun w => by
        rcases hgr with y | ⟨i, y1, y2, y3⟩
        · omega
        · rw [show i = j by omega] at y3; exact y3 z
      rw [if_neg (fun w => hng w.2.2), if_neg (fun w => hng w.2)]
      exact (k3 z).2
    · by_cases cc : la < 0 ∧ gr = (j : Int)
      · rw [if_pos ⟨rfl, cc⟩, if_pos cc, ksh_nn]
      · rw [if_neg (fun w => cc w.2), if_neg cc]
        exact k4 z
    · by_cases cc : la = (j : Int)
      · rw [if_pos ⟨rfl, cc⟩, if_pos cc, ksh_nn]
      · rw [if_neg (fun w => cc w.2), if_neg (by omega), if_neg cc]
        exact k5
set_option maxHeartbeats 2000000 in
theorem sp_K_newNode {len : Nat} {a1 a2 a3 : Int} (hL9 : ∀ r, 193 ≤ r → r ≤ 198 → L r = 50000) (h47 : σ.1 16 47 = ((n0 + len : Nat) : Int)) (hlt : n0 + len < 50000) (ha1 : a1 = 0 ∨ a1 = 1) (ha2 : a2 = ksh n0 gr) (ha3 : a3 = ksh n0 la) (hla : la = -1 ∨ ∃ i : Nat, la = (i : Int) ∧ i < len) (hgr : gr = -1 ∨ ∃ i : Nat, gr = (i : Int) ∧ i < len)
    (hq : ∀ τ, (∀ pp kk, ¬ (pp = 16 ∧ kk = 47) → τ.1 pp kk = σ.1 pp kk) → τ.1 16 47 = ((n0 + len + 1 : Nat) : Int) → (∀ r, ¬ (193 ≤ r ∧ r ≤ 198) → τ.2 r = σ.2 r) → (∀ r j, 193 ≤ r → r ≤ 198 → j < n0 → τ.2 r j = σ.2 r j) → (∀ r j, 193 ≤ r → r ≤ 198 → j < len → τ.2 r (n0 + j) = if r = 197 ∧ la = (j : Int) then ((n0 + len : Nat) : Int) else if r = 196 ∧ la < 0 ∧ gr = (j : Int) then ((n0 + len : Nat) : Int) else σ.2 r (n0 + j)) → τ.2 193 (n0 + len) = a1 → τ.2 194 (n0 + len) = 0 → τ.2 196 (n0 + len) = -1 → τ.2 197 (n0 + len) = -1 → τ.2 198 (n0 + len) = ksh n0 gr → R ((n0 + len : Nat) : Int) τ) : w_KReader_newNode L a1 a2 a3 R σ := by
  have l193 := hL9 193 (by omega) (by omega)
  have l194 := hL9 194 (by omega) (by omega)
  have l195 := hL9 195 (by omega) (by omega)
  have l196 := hL9 196 (by omega) (by omega)
  have l197 := hL9 197 (by omega) (by omega)
  have l198 := hL9 198 (by omega) (by omega)
  have hnb : nb a1 = a1 := by rcases ha1 with z | z <;> rw [z] <;> decide
  unfold w_KReader_newNode
  rw [h47, show Int.toNat ((n0 + len : Nat) : Int) = n0 + len from rfl, hnb]
  refine ⟨⟨by omega, by omega⟩, ⟨by omega, by omega⟩, ⟨by omega, by omega⟩, ⟨by omega, by omega⟩, ⟨by omega, by omega⟩, ⟨by omega, by omega⟩, ⟨by omega, by omega⟩, ?_⟩
  refine WJ_dir ?_
  have F0 : ∀ pp kk, ¬ (pp = 16 ∧ kk = 47) → (pr (pr (pr (pr (pr (pr (pf σ 16 47 (((n0 + len : Nat) : Int) + 1)) 193 (n0 + len) a1) 194 (n0 + len) 0) 195 (n0 + len) (-1)) 196 (n0 + len) (-1)) 197 (n0 + len) (-1)) 198 (n0 + len) a2).1 pp kk = σ.1 pp kk := fun pp kk z => by rw [pr_1, pr_1, pr_1, pr_1, pr_1, pr_1, pf_1, if_neg z]
  have F0' : (pr (pr (pr (pr (pr (pr (pf σ 16 47 (((n0 + len : Nat) : Int) + 1)) 193 (n0 + len) a1) 194 (n0 + len) 0) 195 (n0 + len) (-1)) 196 (n0 + len) (-1)) 197 (n0 + len) (-1)) 198 (n0 + len) a2).1 16 47 = ((n0 + len + 1 : Nat) : Int) := by rw [pr_1, pr_1, pr_1, pr_1, pr_1, pr_1, pf_eq]; omega
  have R0 : ∀ r, ¬ (193 ≤ r ∧ r ≤ 198) → (pr (pr (pr (pr (pr (pr (pf σ 16 47 (((n0 + len : Nat) : Int) + 1)) 193 (n0 + len) a1) 194 (n0 + len) 0) 195 (n0 + len) (-1)) 196 (n0 + len) (-1)) 197 (n0 + len) (-1)) 198 (n0 + len) a2).2 r = σ.2 r := fun r z => by rw [prn (by omega), prn (by omega), prn (by omega), prn (by omega), prn (by omega), prn (by omega), pfr]
  have V : ∀ r j, (pr (pr (pr (pr (pr (pr (pf σ 16 47 (((n0 + len : Nat) : Int) + 1)) 193 (n0 + len) a1) 194 (n0 + len) 0) 195 (n0 + len) (-1)) 196 (n0 + len) (-1)) 197 (n0 + len) (-1)) 198 (n0 + len) a2).2 r j = if j = n0 + len then (if r = 198 then a2 else if r = 197 then -1 else if r = 196 then -1 else if r = 195 then -1 else if r = 194 then 0 else if r = 193 then a1 else σ.2 r j) else σ.2 r j := fun r j => by
    rw [pr_2, pr_2, pr_2, pr_2, pr_2, pr_2, pf_2]
    by_cases c : j = n0 + len
    · simp only [c, and_true, if_true]
    · simp only [c, and_false, if_false]
  generalize pr (pr (pr (pr (pr (pr (pf σ 16 47 (((n0 + len : Nat) : Int) + 1)) 193 (n0 + len) a1) 194 (n0 + len) 0) 195 (n0 + len) (-1)) 196 (n0 + len) (-1)) 197 (n0 + len) (-1)) 198 (n0 + len) a2 = σ0 at *
  have V1 : ∀ r j, j ≠ n0 + len → σ0.2 r j = σ.2 r j := fun r j z => by rw [V, if_neg z]
  have v3 : σ0.2 193 (n0 + len) = a1 := by rw [V, if_pos rfl, if_neg (by decide), if_neg (by decide), if_neg (by decide), if_neg (by decide), if_neg (by decide), if_pos rfl]
  have v4 : σ0.2 194 (n0 + len) = 0 := by rw [V, if_pos rfl, if_neg (by decide), if_neg (by decide), if_neg (by decide), if_neg (by decide), if_pos rfl]
  have v6 : σ0.2 196 (n0 + len) = -1 := by rw [V, if_pos rfl, if_neg (by decide), if_neg (by decide), if_pos rfl]
  have v7 : σ0.2 197 (n0 + len) = -1 := by rw [V, if_pos rfl, if_neg (by decide), if_pos rfl]
  have v8 : σ0.2 198 (n0 + len) = ksh n0 gr := by rw [V, if_pos rfl, if_pos rfl, ha2]
  rcases hla with z | ⟨i, z1, z2⟩
  · have a3n : a3 = -1 := by rw [ha3, z]; rfl
    rw [if_pos (by omega)]
    rcases hgr with y | ⟨k, y1, y2⟩
    · have a2n : a2 = -1 := by rw [ha2, y]; rfl
      rw [if_pos (by omega)]
      refine hq σ0 F0 F0' R0 (fun r j _ _ hj => V1 r j (by omega)) (fun r j _ _ hj => ?_) v3 v4 v6 v7 v8
      rw [if_neg (by omega), if_neg (by omega)]
      exact V1 r _ (by omega)
    · have a2n : a2 = ((n0 + k : Nat) : Int) := by rw [ha2, y1]; exact ksh_nn
      rw [if_neg (by omega), a2n, show Int.toNat ((n0 + k : Nat) : Int) = n0 + k from rfl]
      refine ⟨⟨by omega, by omega⟩, hq _ (fun pp kk w => by rw [pr_1]; exact F0 pp kk w) (by rw [pr_1]; exact F0') (fun r w => by rw [prn (by omega)]; exact R0 r w) (fun r j _ _ hj => by rw [pr_2, if_neg (by omega)]; exact V1 r j (by omega)) (fun r j _ _ hj => ?_) (by rw [prn (by decide)]; exact v3) (by rw [prn (by decide)]; exact v4) (by rw [prr, if_neg (by omega)]; exact v6) (by rw [prn (by decide)]; exact v7) (by rw [prn (by decide)]; exact v8)⟩
      rw [pr_2, if_neg (show ¬ (r = 197 ∧ la = (j : Int)) by omega)]
      by_cases cc : r = 196 ∧ n0 + j = n0 + k
      · rw [if_pos cc, if_pos (by omega)]
      · rw [if_neg cc, if_neg (by omega)]
        exact V1 r _ (by omega)
  · have a3n : a3 = ((n0 + i : Nat) : Int) := by rw [ha3, z1]; exact ksh_nn
    rw [if_neg (by omega), a3n, show Int.toNat ((n0 + i : Nat) : Int) = n0 + i from rfl]
    refine ⟨⟨by omega, by omega⟩, hq _ (fun pp kk w => by rw [pr_1]; exact F0 pp kk w) (by rw [pr_1]; exact F0') (fun r w => by rw [prn (by omega)]; exact R0 r w) (fun r j _ _ hj => by rw [pr_2, if_neg (by omega)]; exact V1 r j (by omega)) (fun r j _ _ hj => ?_) (by rw [prn (by decide)]; exact v3) (by rw [prn (by decide)]; exact v4) (by rw [prn (by decide)]; exact v6) (by rw [prr, if_neg (by omega)]; exact v7) (by rw [prn (by decide)]; exact v8)⟩
    rw [pr_2]
    by_cases cc : r = 197 ∧ n0 + j = n0 + i
    · rw [if_pos cc, if_pos (by omega)]
    · rw [if_neg cc, if_neg (show ¬ (r = 197 ∧ la = (j : Int)) by omega), if_neg (by omega)]
      exact V1 r _ (by omega)
end Kbd
