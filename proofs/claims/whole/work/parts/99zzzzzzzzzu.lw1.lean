/-! ===== both programs between two calls ===== -/
section Pk
variable {L L' : Nat → Nat} {rm nd S : Nat} {σ τ : IS} {a : AS} {d : DOC} {F P : List Int}
/-- what the class's picture looks at is the same -/
def JQ (σ τ : IS) : Prop := (∀ o k, o < 11 → ¬ (o = 0 ∧ k = 1) → τ.1 o k = σ.1 o k) ∧ ∀ r, 101 ≤ r → r < 162 → τ.2 r = σ.2 r
theorem JQ.sgr (h : JQ σ τ) (hS : SI L σ) : SI L τ ∧ sgr σ τ := SI_of hS (σ' := τ) (h.1 1 14 (by decide) (by decide)) (by rw [h.1 1 3 (by decide) (by decide)]; have := hS.1; omega) (fun r y1 y2 => h.2 r (by omega) (by omega)) (fun i _ => by rw [h.2 101 (by omega) (by omega)])
theorem JQ.ji (h : JQ σ τ) (hJ : JI L rm nd S σ) : JI L rm nd S τ := by
  obtain ⟨zS, zch, zw, zc, zst, zr, zz, z2⟩ := hJ
  have g := h.sgr zS
  have jwE : jw τ = jw σ := by unfold jw; rw [h.1 1 14 (by decide) (by decide)]
  refine ⟨g.1, fun i hi => by rw [h.2 101 (by omega) (by omega)]; exact zch i hi, ⟨by rw [jwE]; exact zw.1, fun i hi => by rw [g.2.2.2.1 i (by omega)]; exact zw.2 i hi⟩, ?_, ?_, fun j h1 h2 => ?_, fun r hr w hw1 hw2 => ?_, ?_⟩
  · rw [h.1 1 12 (by decide) (by decide), h.1 1 0 (by decide) (by decide), h.1 6 0 (by decide) (by decide)]; exact zc
  · rw [h.1 1 16 (by decide) (by decide), h.2 155 (by omega) (by omega)]; exact zst
  · rw [h.1 2 j (by decide) (by omega)]; exact zr j h1 h2
  · rw [h.2 r (by omega) (by omega)]
    exact zz r hr w (by rw [← jwE]; exact hw1) hw2
  · rw [h.1 1 2 (by decide) (by decide), h.1 1 3 (by decide) (by decide), h.2 102 (by omega) (by omega), h.2 103 (by omega) (by omega)]
    exact z2
theorem JQ.jnI (h : JQ σ τ) {x : Int} {s : Str} (hj : Jn σ x s) : Jn τ x s := by
  obtain ⟨w, a, b, c⟩ := hj
  refine ⟨w, a, ?_, ?_⟩
  · unfold jw at b ⊢; rw [h.1 1 14 (by decide) (by decide)]; exact b
  · unfold wst wfr wsz at c ⊢
    rw [h.2 101 (by omega) (by omega), h.2 102 (by omega) (by omega), h.2 103 (by omega) (by omega)]
    exact c
theorem JQ.wE (h : JQ σ τ) (w : Nat) : wst τ w = wst σ w := by unfold wst wfr wsz; rw [h.2 101 (by omega) (by omega), h.2 102 (by omega) (by omega), h.2 103 (by omega) (by omega)]
theorem JQ.jE (h : JQ σ τ) : jw τ = jw σ := by unfold jw; rw [h.1 1 14 (by decide) (by decide)]
theorem JQ.tr {el : List Elm} {at_ : List Att} (h : JQ σ τ) (ht : MTr L σ el at_) : MTr L τ el at_ := by
  obtain ⟨a, b, c, e⟩ := ht
  have sp : ∀ {x : Int} {s : Str}, SPo σ x s → SPo τ x s := fun {x s} hs => by
    obtain ⟨w, k1, k2, k3, k4⟩ := hs
    refine ⟨w, k1, by rw [h.jE]; exact k2, by rw [h.wE]; exact k3, ?_⟩
    unfold SPW at k4 ⊢
    rw [h.wE, h.2 156 (by omega) (by omega), h.2 157 (by omega) (by omega)]
    refine ⟨?_, h.jnI k4.2⟩
    rcases k4.1 with y | ⟨p, y1, y2⟩
    · exact Or.inl y
    · exact Or.inr ⟨p, y1, h.jnI y2⟩
  refine ⟨(h.sgr a).1, ?_, fun i hi => ?_, fun i hi => ?_⟩
  · unfold CWd at b ⊢
    rw [h.jE, h.wE, h.wE, h.wE, h.wE, h.wE]
    exact b
  · rw [h.2 146 (by omega) (by omega), h.2 129 (by omega) (by omega), h.2 130 (by omega) (by omega), h.2 131 (by omega) (by omega)]
    exact ⟨sp (c i hi).1, (c i hi).2⟩
  · rw [h.2 161 (by omega) (by omega), h.2 134 (by omega) (by omega)]
    exact ⟨sp (e i hi).1, h.jnI (e i hi).2⟩
theorem JQ.jg (h : JQ σ τ) (hS : SI L σ) (hG : JG L σ a) : JG L τ a := by
  obtain ⟨g1, g2, g3, g4, g5, g6, g7, g8, g9, g10⟩ := hG
  have sg := (h.sgr hS).2
  refine ⟨?_, g2.dep sg ⟨fun o k q => h.1 o k (by simp [fEl] at q; omega) (by simp [fEl] at q; omega), fun r q => h.2 r (by simp [rEl] at q; omega) (by simp [rEl] at q; omega)⟩, g3.dep sg ⟨fun o k q => h.1 o k (by simp [fAt] at q; omega) (by simp [fAt] at q; omega), fun r q => h.2 r (by simp [rAt] at q; omega) (by simp [rAt] at q; omega)⟩, g4.dep sg ⟨fun o k q => h.1 o k (by simp [fSt] at q; omega) (by simp [fSt] at q; omega), fun r q => h.2 r (by simp [rSt] at q; omega) (by simp [rSt] at q; omega)⟩, g5.dep ⟨fun o k q => h.1 o k (by simp [fNu] at q; omega) (by simp [fNu] at q; omega), fun r q => by cases q⟩, h.tr g6, fun w hw => ?_, fun k => by rw [h.2 149 (by omega) (by omega)]; exact g8 k, fun k => by rw [h.2 160 (by omega) (by omega)]; exact g9 k, by rw [h.1 10 7 (by decide) (by decide)]; exact g10⟩
  · rw [h.1 0 12 (by decide) (by decide), h.1 0 13 (by decide) (by decide), h.1 0 14 (by decide) (by decide)]
    exact g1
  · rw [h.wE, h.2 158 (by omega) (by omega)]
    exact h.jnI (g7 w (by rw [← h.jE]; exact hw))
theorem JQ.dc (h : JQ σ τ) (hS : SI L σ) (hd : JDc L rm nd σ d) : JDc L rm nd τ d := by
  unfold JDc at hd ⊢
  cases d with
  | inl fp =>
    dsimp only at hd ⊢
    obtain ⟨h1, h2⟩ := hd
    refine ⟨by rw [h.1 0 12 (by decide) (by decide), h.1 0 13 (by decide) (by decide), h.1 0 14 (by decide) (by decide)]; exact h1, ?_⟩
    unfold TF at h2 ⊢
    rw [h.1 6 1 (by decide) (by decide), h.1 6 2 (by decide) (by decide), h.1 6 10 (by decide) (by decide), h.1 6 15 (by decide) (by decide), h.1 6 16 (by decide) (by decide), h.1 6 3 (by decide) (by decide)]
    exact h2
  | inr a => exact ⟨h.jg hS hd.1, hd.2⟩
/-- the same lengths, but for what is only thought of -/
def LE (L L' : Nat → Nat) : Prop := ∀ r, r < 900 → L' r = L r
theorem LE.symm (h : LE L L') : LE L' L := fun r hr => (h r hr).symm
theorem LE.si (h : LE L L') (hS : SI L σ) : SI L' σ := by
  unfold SI slt at hS ⊢
  rw [h 102 (by decide), h 101 (by decide), h 106 (by decide)]
  exact hS
theorem LE.ji (h : LE L L') (hJ : JI L rm nd S σ) : JI L' rm nd S σ := by
  obtain ⟨zS, zch, z3, z4, z5, z6, z7, z8⟩ := hJ
  refine ⟨h.si zS, ?_, z3, z4, z5, z6, ?_, z8⟩
  · unfold jch; rw [h 101 (by decide)]; exact zch
  · rw [h 155 (by decide)]; exact z7
theorem LE.dc (h : LE L L') (hd : JDc L rm nd σ d) : JDc L' rm nd σ d := by
  unfold JDc at hd ⊢
  cases d with
  | inl fp => exact hd
  | inr a =>
    obtain ⟨⟨g1, g2, g3, g4, g5, g6, g7⟩, hG⟩ := hd
    exact ⟨⟨g1, g2, g3, g4, g5, ⟨h.si g6.1, g6.2⟩, g7⟩, hG⟩
/-- the class between two calls -/
def IJ (L : Nat → Nat) (rm nd S : Nat) (σ : IS) (d : DOC) (F P : List Int) : Prop := JI L rm nd S σ ∧ JDc L rm nd σ d ∧ JFd σ F ∧ PRd σ P
/-- the reference between two calls -/
def IK (rm nd : Nat) (σ : IS) (d : DOC) (F P : List Int) : Prop := KDc σ d ∧ KFd σ F ∧ KPr σ P ∧ σ.1 12 0 = (rm : Int) ∧ σ.1 12 1 = (nd : Int) ∧ σ.1 14 22 = 0 ∧ σ.1 15 22 ≠ 0
theorem IJ.dep (h : IJ L rm nd S σ d F P) (hf : ∀ o k, o < 12 → τ.1 o k = σ.1 o k) (hr : ∀ r, 100 ≤ r → r < 165 → τ.2 r = σ.2 r) : IJ L rm nd S τ d F P := by
  obtain ⟨h1, h2, ⟨f1, f2, f3, f4⟩, D, p1, p2, p3, p4, p5, p6⟩ := h
  have hq : JQ σ τ := ⟨fun o k y _ => hf o k (by omega), fun r y1 y2 => hr r (by omega) (by omega)⟩
  exact ⟨hq.ji h1, hq.dc h1.1 h2, ⟨by rw [hf 0 1 (by decide)]; exact f1, f2, by rw [hr 100 (by omega) (by omega)]; exact f3, f4⟩, D, p1, by rw [hf 11 3 (by decide)]; exact p2, by rw [hf 11 5 (by decide)]; exact p3, by rw [hf 11 4 (by decide)]; exact p4, p5, by rw [hr D (by omega) (by omega)]; exact p6⟩
theorem IJ.bx {F' : List Int} (h : IJ L rm nd S σ d F P) (hx : BX σ τ) (hF : JFd τ F') : IJ L rm nd S τ d F' P := by
  obtain ⟨h1, h2, -, D, p1, p2, p3, p4, p5, p6⟩ := h
  have hq : JQ σ τ := ⟨fun o k _ y => hx.1 o k y, fun r y1 y2 => hx.2 r (by omega)⟩
  exact ⟨hq.ji h1, hq.dc h1.1 h2, hF, D, p1, by rw [hx.1 11 3 (by decide)]; exact p2, by rw [hx.1 11 5 (by decide)]; exact p3, by rw [hx.1 11 4 (by decide)]; exact p4, p5, by rw [hx.2 D (by omega)]; exact p6⟩
theorem KDc.gen (h : KDc σ d) (h12 : ∀ k, k = 6 ∨ k = 12 ∨ k = 13 → τ.1 12 k = σ.1 12 k) (h13 : ∀ k, τ.1 13 k = σ.1 13 k) (h14 : ∀ k, τ.1 14 k = σ.1 14 k) (hr : ∀ r, 211 ≤ r → r ≤ 229 → τ.2 r = σ.2 r) : KDc τ d := by
  unfold KDc at h ⊢
  cases d with
  | inl fp =>
    dsimp only at h ⊢
    rw [h12 6 (by omega), h12 12 (by omega), h12 13 (by omega)]
    exact h
  | inr a =>
    dsimp only at h ⊢
    rw [h12 6 (by omega), h12 12 (by omega), h12 13 (by omega)]
    obtain ⟨h1, bk, pl, h2⟩ := h
    have h2 : KDk σ bk pl a := h2
    exact ⟨h1, bk, pl, h2.dep (h2.1.dep ⟨h13 1, h13 6⟩ (fun r y1 y2 => hr r (by omega) (by omega))) h14 (fun r y1 y2 => hr r (by omega) (by omega))⟩
theorem IK.dep (h : IK rm nd σ d F P) (hf : ∀ o k, 12 ≤ o → o < 18 → τ.1 o k = σ.1 o k) (hr : ∀ r, 165 ≤ r → r < 248 → τ.2 r = σ.2 r) : IK rm nd τ d F P := by
  obtain ⟨h1, ⟨f1, f2, f3, f4⟩, ⟨p1, p2, p3⟩, k1, k2, k3, k4⟩ := h
  exact ⟨h1.gen (fun k _ => hf 12 k (by decide) (by decide)) (fun k => hf 13 k (by decide) (by decide)) (fun k => hf 14 k (by decide) (by decide)) (fun r y1 y2 => hr r (by omega) (by omega)), ⟨by rw [hf 12 3 (by decide) (by decide)]; exact f1, f2, by rw [hr 165 (by omega) (by omega)]; exact f3, f4⟩, ⟨by rw [hf 12 9 (by decide) (by decide)]; exact p1, p2, by rw [hr 244 (by omega) (by omega)]; exact p3⟩, by rw [hf 12 0 (by decide) (by decide)]; exact k1, by rw [hf 12 1 (by decide) (by decide)]; exact k2, by rw [hf 14 22 (by decide) (by decide)]; exact k3, by rw [hf 15 22 (by decide) (by decide)]; exact k4⟩
/-- where only the bytes that were fed may have changed -/
theorem IK.by {F' : List Int} (h : IK rm nd σ d F P) (hx : BYk σ τ) (hF : KFd τ F') : IK rm nd τ d F' P := by
  obtain ⟨h1, -, ⟨p1, p2, p3⟩, k1, k2, k3, k4⟩ := h
  exact ⟨h1.gen (fun k y => hx.1 12 k (by omega)) (fun k => hx.1 13 k (by omega)) (fun k => hx.1 14 k (by omega)) (fun r y1 y2 => hx.2 r (by omega)), hF, ⟨by rw [hx.1 12 9 (by omega)]; exact p1, p2, by rw [hx.2 244 (by omega)]; exact p3⟩, by rw [hx.1 12 0 (by omega)]; exact k1, by rw [hx.1 12 1 (by omega)]; exact k2, by rw [hx.1 14 22 (by omega)]; exact k3, by rw [hx.1 15 22 (by omega)]; exact k4⟩
theorem IJ.by (h : IJ L rm nd S σ d F P) (hx : BYk σ τ) : IJ L rm nd S τ d F P := h.dep (fun o k y => hx.1 o k (by omega)) (fun r y1 y2 => hx.2 r (by omega))
theorem BXk.by_ (h : BXk σ τ) : BYk σ τ := ⟨h.1, h.2.2⟩
theorem BYk.k0 {x : Int} : BYk σ (pf σ 12 11 x) := ⟨fun p k y => by rw [pf_1, if_neg (by omega)], fun _ _ => rfl⟩
/-- both, and what is known of the document -/
def NX (L : Nat → Nat) (rm nd S : Nat) (σ : IS) (d : DOC) (F P : List Int) : Prop := IJ L rm nd S σ d F P ∧ IK rm nd σ d F P ∧ DGd rm nd d
theorem NX.k0 {x : Int} (h : NX L rm nd S σ d F P) : NX L rm nd S (pf σ 12 11 x) d F P :=
  ⟨h.1.by BYk.k0, h.2.1.by BYk.k0 (by obtain ⟨f1, f2, f3, f4⟩ := h.2.1.2.1; exact ⟨by rw [pf_nk (by decide)]; exact f1, f2, f3, f4⟩), h.2.2⟩
/-- the lengths of all rows -/
def LLs (L : Nat → Nat) (rm nd : Nat) : Prop := JLn L rm nd ∧ JLm L ∧ JLv L rm nd ∧ JLs L nd ∧ WLn L nd ∧ KLn L 14 rm nd ∧ KLn L 15 262144 16384 ∧ KLw L ∧ 32768 ≤ L (rfo 14 8) ∧ L 100 = 65536 ∧ L 165 = 65536 ∧ ∀ r, L r < 1073741824
end Pk
