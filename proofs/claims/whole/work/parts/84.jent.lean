/-! ===== the class's state as a whole; entities entered and left ===== -/
/-- where the text itself ends -/
def bsto (L : Nat → Nat) (σ : IS) : Prop := (σ.1 3 12 = 0 → σ.1 2 3 = (L 998 : Int)) ∧ (0 < σ.1 3 12 → σ.2 111 0 = (L 998 : Int))
def JZ (L : Nat → Nat) (rm nd : Nat) (σ : IS) : Prop := SI L σ ∧ jch L σ ∧ (19 ≤ jw σ ∧ ∀ i, i < 19 → wst σ i = ti (1064 + i)) ∧ (σ.1 1 12 = 19 ∧ σ.1 1 0 = (rm : Int) ∧ σ.1 6 0 = (nd : Int)) ∧ ((0 ≤ σ.1 1 16 ∧ σ.1 1 16 ≤ (L 999 : Int) + 1000000 ∧ σ.1 1 2 = (L 997 : Int) ∧ bsto L σ) ∧ ∀ w, σ.2 155 w ≤ σ.1 1 16) ∧ rng σ ∧ (∀ w, jw σ ≤ w → w < L 155 → σ.2 156 w = 0 ∧ σ.2 158 w = 0) ∧ (0 ≤ σ.1 1 2 ∧ σ.1 1 2 ≤ 256 ∧ σ.1 1 2 ≤ σ.1 1 3 ∧ ∀ i, i < 19 → σ.2 102 i + σ.2 103 i ≤ σ.1 1 2)
def fZ0 : Nat → Nat → Bool := fun o k => (o == 1 && (k == 12 || (k == 0 || (k == 16 || k == 2)))) || (o == 6 && k == 0)
def rZ0 : Nat → Bool := fun r => r == 155 || (r == 156 || r == 158)
def fZ : Nat → Nat → Bool := fun o k => (o == 1 && (k == 12 || (k == 0 || (k == 16 || k == 2)))) || ((o == 6 && k == 0) || ((o == 3 && k == 12) || (o == 2 && k == 3)))
def rZ : Nat → Bool := fun r => r == 155 || (r == 156 || (r == 158 || r == 111))
def JLn (L : Nat → Nat) (rm nd : Nat) : Prop := SL L ∧ (64 ≤ rm ∧ rm ≤ 98304 ∧ 16 ≤ nd ∧ nd ≤ 16384 ∧ L 999 ≤ 1000000000) ∧ L 101 = 256 + (if rm < 65536 then rm else 65536) + rm ∧ L 102 = rm / 2 + 64 ∧ (∀ r, 107 ≤ r → r ≤ 113 → L r = rm / 14 + 2) ∧ (L 114 = L 102 ∧ L 115 = L 102 ∧ L 125 = L 102 ∧ L 126 = L 102 ∧ L 127 = L 102) ∧
  (L 116 = rm / 16 + 2 ∧ L 117 = rm / 16 + 2 ∧ L 147 = rm / 16 + 2) ∧ ((∀ r, 118 ≤ r → r ≤ 123 → L r = rm / 8 + 2) ∧ L 148 = rm / 8 + 2) ∧ L 124 = rm / 2 + 2 ∧ L 128 = (if rm < 65536 then rm else 65536) + 1 ∧ ((∀ r, 129 ≤ r → r ≤ 135 → L r = nd) ∧ L 146 = nd ∧ L 161 = nd) ∧ L 136 = rm
def RJ (L : Nat → Nat) (rm nd : Nat) (σ : IS) (a : AS) : Prop := JZ L rm nd σ ∧ JFr σ (aF a) (aO a) ∧ JEn L σ (aE a) (bsy a) ∧ JNu σ (aN a) ∧ JRo σ (aR a) ∧ JEd L σ (aD a) ∧ JAd L σ (aA a) ∧ JNt L σ (aT a) ∧ JEl σ (aL a) (aO a) ∧ JAt σ (aB a) ∧ JSt σ (aS a) ∧ (σ.1 2 4 = 0 ∧ σ.1 2 6 = (aN a 2 : Int))
theorem ag.sub {F F' : Nat → Nat → Bool} {R R' : Nat → Bool} {σ σ' : IS} (h : ag F R σ σ') (hF : ∀ o k, F' o k = true → F o k = true) (hR : ∀ r, R' r = true → R r = true) : ag F' R' σ σ' := ⟨fun o k z => h.1 o k (hF o k z), fun r z => h.2 r (hR r z)⟩
section Ent
variable {L : Nat → Nat} {rm nd : Nat} {σ σ' : IS}
theorem JZ.dep0 (h : JZ L rm nd σ) (hS : SI L σ') (g : sgr σ σ') (hc : jch L σ') (hr : rng σ') (a : ag fZ0 rZ0 σ σ') (hb : bsto L σ') : JZ L rm nd σ' := by
  obtain ⟨h1, h2, ⟨h3, h3'⟩, h4, h5, h6, h7, h8, h9, h10, h11⟩ := h
  have j1 := h1.jtp_le
  have j2 := hS.jtp_le
  have g2 := g.2.1
  refine ⟨hS, hc, ⟨Nat.le_trans h3 g.1, fun i hi => by rw [g.2.2.1 i (by omega)]; exact h3' i hi⟩, ?_, ?_, hr, fun w hw hwl => ?_, ?_, ?_, ?_, fun i hi => ?_⟩
  · rw [a.1 1 12 rfl, a.1 1 0 rfl, a.1 6 0 rfl]; exact h4
  · rw [a.1 1 16 rfl, a.2 155 rfl, a.1 1 2 rfl]; exact ⟨⟨h5.1.1, h5.1.2.1, h5.1.2.2.1, hb⟩, h5.2⟩
  · rw [a.2 156 rfl, a.2 158 rfl]
    have g1 := g.1
    exact h7 w (by omega) hwl
  · rw [a.1 1 2 rfl]; exact h8
  · rw [a.1 1 2 rfl]; exact h9
  · rw [a.1 1 2 rfl]; omega
  · have := g.2.2.2.2 i (by omega)
    rw [a.1 1 2 rfl, this.1, this.2]
    exact h11 i hi
theorem JZ.dep (h : JZ L rm nd σ) (hS : SI L σ') (g : sgr σ σ') (hc : jch L σ') (hr : rng σ') (a : ag fZ rZ σ σ') : JZ L rm nd σ' := by
  refine h.dep0 hS g hc hr (a.sub (fun o k hk => ?_) (fun r hk => ?_)) ?_
  · simp [fZ0] at hk
    simp [fZ]
    omega
  · simp [rZ0] at hk
    simp [rZ]
    omega
  · have hb := h.2.2.2.2.1.1.2.2.2
    unfold bsto at hb ⊢
    rw [a.1 3 12 rfl, a.1 2 3 rfl, a.2 111 rfl]
    exact hb
theorem jch_row (h : jch L σ) (hr : σ'.2 101 = σ.2 101) : jch L σ' := by
  intro i hi
  rw [hr]
  exact h i hi
theorem rng_of (h : rng σ) (hr : ∀ j, 6 ≤ j → j ≤ 11 → σ'.1 2 j = σ.1 2 j) : rng σ' := by
  intro j h1 h2
  rw [hr j h1 h2]
  exact h j h1 h2
/-- cells outside the store and the reader changed alone -/
theorem JZ.out (h : JZ L rm nd σ) (ha : ∀ o k, o = 1 ∨ (o = 2 ∧ (k = 3 ∨ 6 ≤ k)) ∨ (o = 6 ∧ k = 0) ∨ (o = 3 ∧ k = 12) → σ'.1 o k = σ.1 o k) (hr : ∀ r, (101 ≤ r ∧ r ≤ 106) ∨ r = 155 ∨ r = 156 ∨ r = 158 ∨ r = 111 → σ'.2 r = σ.2 r) : JZ L rm nd σ' ∧ sgr σ σ' := by
  have hs := SI_of h.1 (σ' := σ') (ha 1 14 (by omega)) (by rw [ha 1 3 (by omega)]; have := h.1.1; omega) (fun r h1 h2 => hr r (by omega)) (fun i _ => by rw [hr 101 (by omega)])
  refine ⟨h.dep hs.1 hs.2 (jch_row h.2.1 (hr 101 (by omega))) (rng_of h.2.2.2.2.2.1 (fun j h1 h2 => ha 2 j (by omega))) ⟨fun o k hk => ha o k ?_, fun r hk => hr r ?_⟩, hs.2⟩
  · simp [fZ] at hk; omega
  · simp [rZ] at hk; omega
/-- the same, where the frames change -/
theorem JZ.out0 (h : JZ L rm nd σ) (ha : ∀ o k, o = 1 ∨ (o = 2 ∧ 6 ≤ k) ∨ (o = 6 ∧ k = 0) → σ'.1 o k = σ.1 o k) (hr : ∀ r, (101 ≤ r ∧ r ≤ 106) ∨ r = 155 ∨ r = 156 ∨ r = 158 → σ'.2 r = σ.2 r) (hb : bsto L σ') : JZ L rm nd σ' ∧ sgr σ σ' := by
  have hs := SI_of h.1 (σ' := σ') (ha 1 14 (by omega)) (by rw [ha 1 3 (by omega)]; have := h.1.1; omega) (fun r h1 h2 => hr r (by omega)) (fun i _ => by rw [hr 101 (by omega)])
  refine ⟨h.dep0 hs.1 hs.2 (jch_row h.2.1 (hr 101 (by omega))) (rng_of h.2.2.2.2.2.1 (fun j h1 h2 => ha 2 j (by omega))) ⟨fun o k hk => ha o k ?_, fun r hk => hr r ?_⟩ hb, hs.2⟩
  · simp [fZ0] at hk; omega
  · simp [rZ0] at hk; omega
theorem lvl_top {f : Frm} {t : List Frm} : lvl (f :: t) t.length = f := by
  unfold lvl
  rw [List.length_cons, show t.length + 1 - 1 - t.length = 0 by omega]
  rfl
theorem lvl_cons {f : Frm} {t : List Frm} {i : Nat} (h : i < t.length) : lvl (f :: t) i = lvl t i := by
  unfold lvl
  rw [List.length_cons, show t.length + 1 - 1 - i = (t.length - 1 - i) + 1 by omega]
  rfl
/-- the top and the others -/
theorem JFr.mk {f : Frm} {t : List Frm} {os : List Nat} (h1 : σ.1 3 12 = (t.length : Int)) (h2 : Jt σ (σ.1 2 2) f.1) (h3 : σ.1 2 3 = σ.1 2 2 + (f.1.length : Int)) (h4 : ∀ i, i < t.length → Jt σ (σ.2 110 i) (lvl t i).1 ∧ σ.2 111 i = σ.2 110 i + ((lvl t i).1.length : Int) ∧ σ.2 112 i + 1 = ((lvl (f :: t) (i + 1)).2.1 : Int) ∧ σ.2 113 i = els os (lvl (f :: t) (i + 1)).2.2) : JFr σ (f :: t) os := by
  refine ⟨by rw [h1, List.length_cons]; omega, by rw [List.length_cons]; omega, ?_, fun i hi => ?_⟩
  · rw [List.length_cons, show t.length + 1 - 1 = t.length by omega, lvl_top]
    exact ⟨h2, h3⟩
  · rw [List.length_cons] at hi
    rw [lvl_cons (show i < t.length by omega)]
    exact h4 i (by omega)
theorem JFr.get {f : Frm} {t : List Frm} {os : List Nat} (h : JFr σ (f :: t) os) : σ.1 3 12 = (t.length : Int) ∧ Jt σ (σ.1 2 2) f.1 ∧ σ.1 2 3 = σ.1 2 2 + (f.1.length : Int) ∧ ∀ i, i < t.length → Jt σ (σ.2 110 i) (lvl t i).1 ∧ σ.2 111 i = σ.2 110 i + ((lvl t i).1.length : Int) ∧ σ.2 112 i + 1 = ((lvl (f :: t) (i + 1)).2.1 : Int) ∧ σ.2 113 i = els os (lvl (f :: t) (i + 1)).2.2 := by
  obtain ⟨h1, h2, h3, h4⟩ := h
  rw [List.length_cons] at h1
  rw [List.length_cons, show t.length + 1 - 1 = t.length by omega, lvl_top] at h3
  refine ⟨by omega, h3.1, h3.2, fun i hi => ?_⟩
  have := h4 i (by rw [List.length_cons]; omega)
  rw [lvl_cons hi] at this
  exact this
/-- all but what enter and leave change -/
def fX : Nat → Nat → Bool := fun o k => !((o == 3 && (k == 12 || k == 13)) || (o == 2 && (k == 2 || k == 3)))
def rX : Nat → Bool := fun r => !(r == 109 || (r == 110 || (r == 111 || (r == 112 || r == 113))))
/-- the texts that are gone through end before z.1, that of depth z.2.1 at z.2.2 -/
def VE (z : Int × Nat × Int) (σ : IS) : Prop := σ.1 2 3 ≤ z.1 ∧ (∀ j : Nat, (j : Int) < σ.1 3 12 → σ.2 111 j ≤ z.1) ∧ (σ.1 3 12 = (z.2.1 : Int) → σ.1 2 3 = z.2.2) ∧ ((z.2.1 : Int) < σ.1 3 12 → σ.2 111 z.2.1 = z.2.2)
theorem sp_enter {Q : IS → Prop} {f : Frm} {t : List Frm} {os : List Nat} {en : List Ent} {c i k : Nat} {a1 a2 : Int} (hln : JLn L rm nd) (hZ : JZ L rm nd σ) (hF : JFr σ (f :: t) os) (hE : JEn L σ en ((f :: t).map (fun z => z.2.1))) (hi : i < en.length) (hen : en.length < rm / 14 + 2) (hc : σ.1 3 13 = (c : Int)) (hcr : c ≤ 100000) (hdep : t.length < rm / 14 + 2) (ha1 : a1 = (i : Int)) (ha2 : a2 = els os k)
    (h4 : rm < c + (en.getD i ([], false, [])).2.2.length → Q (flt σ 4)) (h10 : ¬ rm < c + (en.getD i ([], false, [])).2.2.length → (i + 1) ∈ (f :: t).map (fun z => z.2.1) → Q (flt σ 10))
    (hq : ¬ rm < c + (en.getD i ([], false, [])).2.2.length → ¬ (i + 1) ∈ (f :: t).map (fun z => z.2.1) → ∀ σ', JFr σ' (((en.getD i ([], false, [])).2.2, i + 1, k) :: f :: t) os → JEn L σ' en ((i + 1) :: (f :: t).map (fun z => z.2.1)) → σ'.1 3 13 = ((c + (en.getD i ([], false, [])).2.2.length : Nat) : Int) → ag fX rX σ σ' → JZ L rm nd σ' → sgr σ σ' → (∀ z : Int × Nat × Int, VE z σ → (z.2.1 : Int) ≤ σ.1 3 12 → σ.2 107 i + ((en.getD i ([], false, [])).2.2.length : Int) ≤ z.1 → VE z σ') → Q σ') : w_Entities_enter L a1 a2 Q σ := by
  obtain ⟨b1, b2, b3, b4⟩ := hF.get
  obtain ⟨e1, e2, e3, e4⟩ := hE
  obtain ⟨e5, e6, e7⟩ := e2 i hi
  have hL := hln.2.2.2.2.1
  have hrm := hln.2.1
  have h107 := hL 107 (by omega) (by omega)
  have h108 := hL 108 (by omega) (by omega)
  have h109 := hL 109 (by omega) (by omega)
  have h110 := hL 110 (by omega) (by omega)
  have h111 := hL 111 (by omega) (by omega)
  have h112 := hL 112 (by omega) (by omega)
  have h113 := hL 113 (by omega) (by omega)
  have hroom := hZ.2.2.2.1.2.1
  have hjt := hZ.1.jtp_le
  have h9 : L 101 < 1000000 := hln.1.2.2.2.2.2.2.2
  obtain ⟨a, ha, hat, hal⟩ := e5
  generalize htx : (en.getD i ([], false, [])).2.2 = tx at *
  have ht1 : Int.toNat a1 = i := by omega
  have hd1 : Int.toNat (σ.1 3 12) = t.length := by omega
  unfold w_Entities_enter
  rw [ht1, e6, hc]
  refine ⟨⟨by omega, by omega⟩, ⟨by omega, by omega⟩, ?_⟩
  by_cases c1 : rm < c + tx.length
  · rw [if_neg (fun z => z.1 (by omega))]
    exact sp_Reader_fail (h4 c1)
  · rw [if_pos ⟨by omega, by omega⟩]
    refine ⟨⟨by omega, by omega⟩, ?_⟩
    rw [e7]
    by_cases c2 : (i + 1) ∈ (f :: t).map (fun z => z.2.1)
    · rw [if_pos c2, if_neg (by decide)]
      exact sp_Reader_fail (h10 c1 c2)
    · rw [if_neg c2, if_pos rfl, ha, hd1]
      refine ⟨⟨by omega, by omega⟩, ⟨by omega, by omega⟩, ⟨by omega, by omega⟩, ⟨by omega, by omega⟩, ⟨by omega, by omega⟩, ⟨by omega, by omega⟩, ⟨by omega, by omega⟩, ⟨by omega, by omega⟩, ⟨by omega, by omega⟩, ⟨by omega, by omega⟩, ⟨by omega, by omega⟩, ⟨by omega, by omega⟩, ?_⟩
      generalize hσ' : pf (pf (pf (pr (pr (pr (pr (pr (pf σ 3 13 ((c : Int) + (tx.length : Int))) 109 i 1) 110 t.length (σ.1 2 2)) 111 t.length (σ.1 2 3)) 112 t.length a1) 113 t.length a2) 3 12 ((σ.1 3 12) + 1)) 2 2 (a : Int)) 2 3 ((a : Int) + (tx.length : Int)) = σ'
      have hag : ag fX rX σ σ' := by
        rw [← hσ']
        exact (((((((((ag.refl.pf rfl).pr rfl).pr rfl).pr rfl).pr rfl).pr rfl).pf rfl).pf rfl).pf rfl)
      have hrow : ∀ r j, σ'.2 r j = if r = 113 ∧ j = t.length then a2 else if r = 112 ∧ j = t.length then a1 else if r = 111 ∧ j = t.length then σ.1 2 3 else if r = 110 ∧ j = t.length then σ.1 2 2 else if r = 109 ∧ j = i then 1 else σ.2 r j := by
        intro r j
        rw [← hσ', pf_2, pf_2, pf_2, pr_2, pr_2, pr_2, pr_2, pr_2, pf_2]
      have f12 : σ'.1 3 12 = ((t.length + 1 : Nat) : Int) := by rw [← hσ', pf_1, if_neg (by omega), pf_1, if_neg (by omega), pf_eq]; omega
      have f22 : σ'.1 2 2 = (a : Int) := by rw [← hσ', pf_1, if_neg (by omega), pf_eq]
      have f23 : σ'.1 2 3 = (a : Int) + (tx.length : Int) := by rw [← hσ', pf_eq]
      have f13 : σ'.1 3 13 = ((c + tx.length : Nat) : Int) := by
        rw [← hσ', pf_1, if_neg (by omega), pf_1, if_neg (by omega), pf_1, if_neg (by omega), pr_1, pr_1, pr_1, pr_1, pr_1, pf_eq]
        omega
      have hbs := hZ.2.2.2.2.1.1.2.2.2
      have hb' : bsto L σ' := by
        refine ⟨fun z => ?_, fun _ => ?_⟩
        · rw [f12] at z
          omega
        · rw [hrow 111 0, if_neg (by omega), if_neg (by omega)]
          by_cases ej : 0 = t.length
          · rw [if_pos ⟨rfl, ej⟩]
            exact hbs.1 (by omega)
          · rw [if_neg (fun y => ej y.2), if_neg (by omega), if_neg (by omega)]
            exact hbs.2 (by omega)
      have hout := hZ.out0 (σ' := σ') (fun o k hk => hag.1 o k (by simp [fX]; omega)) (fun r hr => hag.2 r (by simp [rX]; omega)) hb'
      refine hq c1 c2 σ' ?_ ?_ f13 hag hout.1 hout.2 (fun z hz1 hz0 hz2 => ⟨by rw [f23]; omega, fun j hj => ?_, fun hd => ?_, fun hd => ?_⟩)
      · refine JFr.mk (by rw [f12, List.length_cons]) (by rw [f22]; exact (show Jt σ (a : Int) tx from ⟨a, rfl, hat, hal⟩).gr hout.2) (by rw [f23, f22]) (fun j hj => ?_)
        rw [List.length_cons] at hj
        by_cases ej : j = t.length
        · subst ej
          rw [lvl_top, show t.length + 1 = (f :: t).length from rfl, lvl_top, hrow 110, hrow 111, hrow 112, hrow 113]
          simp only [if_true, and_true, true_and]
          refine ⟨?_, ?_, ?_, ?_⟩
          · simp; exact b2.gr hout.2
          · simp; omega
          · simp; omega
          · exact ha2
        · have hj' : j < t.length := by omega
          have := b4 j hj'
          rw [lvl_cons hj', lvl_cons (show j + 1 < (f :: t).length by rw [List.length_cons]; omega), hrow 110, hrow 111, hrow 112, hrow 113]
          simp only [ej, and_false, if_false]
          simp
          exact ⟨this.1.gr hout.2, this.2⟩
      · refine ⟨by rw [hag.1 3 5 rfl]; exact e1, fun j hj => ?_, e3.gr hout.2 hout.1.1 hln.1 (hag.2 114 rfl), e4.gr hout.2 hout.1.1 hln.1 (hag.2 115 rfl)⟩
        obtain ⟨d5, d6, d7⟩ := e2 j hj
        rw [hag.2 107 rfl, hag.2 108 rfl, hrow 109]
        refine ⟨d5.gr hout.2, d6, ?_⟩
        by_cases ej : j = i
        · subst ej
          simp
        · rw [if_neg (by omega), if_neg (by omega), if_neg (by omega), if_neg (by omega), if_neg (fun z => ej z.2), d7]
          have : (j + 1 ∈ (i + 1) :: (f :: t).map (fun z => z.2.1)) ↔ (j + 1 ∈ (f :: t).map (fun z => z.2.1)) := by
            rw [List.mem_cons]
            constructor
            · rintro (h1 | h1)
              · omega
              · exact h1
            · exact Or.inr
          simp only [this]
      · rw [hrow 111]
        by_cases ej : j = t.length
        · rw [if_neg (by omega), if_neg (by omega), if_pos ⟨rfl, ej⟩]; exact hz1.1
        · rw [if_neg (by omega), if_neg (by omega), if_neg (fun y => ej y.2), if_neg (by omega), if_neg (by omega)]
          exact hz1.2.1 j (by omega)
      · rw [f12] at hd
        omega
      · rw [hrow 111, if_neg (by omega), if_neg (by omega)]
        by_cases ej : z.2.1 = t.length
        · rw [if_pos ⟨rfl, ej⟩]; exact hz1.2.2.1 (by omega)
        · rw [if_neg (fun y => ej y.2), if_neg (by omega), if_neg (by omega)]
          exact hz1.2.2.2 (by omega)
theorem sp_leave {Q : IS → Prop} {g f : Frm} {t : List Frm} {os : List Nat} {en : List Ent} (hln : JLn L rm nd) (hZ : JZ L rm nd σ) (hF : JFr σ (g :: f :: t) os) (hE : JEn L σ en ((g :: f :: t).map (fun z => z.2.1))) (hg : 0 < g.2.1 ∧ g.2.1 ≤ en.length ∧ ¬ g.2.1 ∈ (f :: t).map (fun z => z.2.1)) (hen : en.length < rm / 14 + 2) (hdep : t.length < rm / 14 + 2)
    (hq : ∀ σ', JFr σ' (f :: t) os → JEn L σ' en ((f :: t).map (fun z => z.2.1)) → σ'.1 3 13 = σ.1 3 13 → ag fX rX σ σ' → JZ L rm nd σ' → sgr σ σ' → (∀ z : Int × Nat × Int, VE z σ → VE z σ') → Q σ') : w_Entities_leave L Q σ := by
  obtain ⟨b1, b2, b3, b4⟩ := hF.get
  obtain ⟨e1, e2, e3, e4⟩ := hE
  have hL := hln.2.2.2.2.1
  have hrm := hln.2.1
  have h109 := hL 109 (by omega) (by omega)
  have h110 := hL 110 (by omega) (by omega)
  have h111 := hL 111 (by omega) (by omega)
  have h112 := hL 112 (by omega) (by omega)
  rw [List.length_cons] at b1
  have hb := b4 t.length (by rw [List.length_cons]; omega)
  rw [lvl_top, show t.length + 1 = (f :: t).length from rfl, lvl_top] at hb
  have hd : σ.1 3 12 - 1 = (t.length : Int) := by omega
  have hd1 : Int.toNat (σ.1 3 12 - 1) = t.length := by omega
  unfold w_Entities_leave
  refine WJ_dir ?_
  dsimp only
  rw [if_pos (by omega), hd1]
  refine ⟨⟨by omega, by omega⟩, ⟨by omega, by omega⟩, ⟨by omega, by omega⟩, ⟨by omega, by omega⟩, ⟨by omega, by omega⟩, ?_⟩
  have ht1 : Int.toNat (σ.2 112 t.length) = g.2.1 - 1 := by omega
  rw [ht1]
  generalize hσ' : pf (pf (pr (pf σ 3 12 ((σ.1 3 12) - 1)) 109 (g.2.1 - 1) 0) 2 2 (σ.2 110 t.length)) 2 3 (σ.2 111 t.length) = σ'
  have hag : ag fX rX σ σ' := by
    rw [← hσ']
    exact ((((ag.refl.pf rfl).pr rfl).pf rfl).pf rfl)
  have hrow : ∀ r j, σ'.2 r j = if r = 109 ∧ j = g.2.1 - 1 then 0 else σ.2 r j := by
    intro r j
    rw [← hσ', pf_2, pf_2, pr_2, pf_2]
  have f12 : σ'.1 3 12 = (t.length : Int) := by rw [← hσ', pf_1, if_neg (by omega), pf_1, if_neg (by omega), pr_1, pf_eq]; omega
  have f22 : σ'.1 2 2 = σ.2 110 t.length := by rw [← hσ', pf_1, if_neg (by omega), pf_eq]
  have f23 : σ'.1 2 3 = σ.2 111 t.length := by rw [← hσ', pf_eq]
  have f13 : σ'.1 3 13 = σ.1 3 13 := by rw [← hσ', pf_1, if_neg (by omega), pf_1, if_neg (by omega), pr_1, pf_1, if_neg (by omega)]
  have hbs := hZ.2.2.2.2.1.1.2.2.2
  have hb' : bsto L σ' := by
    refine ⟨fun z => ?_, fun z => ?_⟩
    · rw [f12] at z
      have z0 : t.length = 0 := by omega
      rw [f23, z0]
      exact hbs.2 (by omega)
    · rw [f12] at z
      rw [hrow 111 0, if_neg (by omega)]
      exact hbs.2 (by omega)
  have hout := hZ.out0 (σ' := σ') (fun o k hk => hag.1 o k (by simp [fX]; omega)) (fun r hr => hag.2 r (by simp [rX]; omega)) hb'
  have hve : ∀ z : Int × Nat × Int, VE z σ → σ'.1 3 12 = (z.2.1 : Int) → σ'.1 2 3 = z.2.2 := by
    intro z hz hd
    rw [f12] at hd
    have hd2 : t.length = z.2.1 := by omega
    rw [f23, hd2]
    exact hz.2.2.2 (by omega)
  refine hq σ' ?_ ?_ f13 hag hout.1 hout.2 (fun z hz => ⟨by rw [f23]; exact hz.2.1 _ (by omega), fun j hj => (by rw [hrow 111, if_neg (by omega)]; exact hz.2.1 j (by omega)), hve z hz, fun hd => (by rw [f12] at hd; rw [hrow 111, if_neg (by omega)]; exact hz.2.2.2 (by omega))⟩)
  · refine JFr.mk f12 (by rw [f22]; exact hb.1.gr hout.2) (by rw [f23, f22]; exact hb.2.1) (fun j hj => ?_)
    have := b4 j (by rw [List.length_cons]; omega)
    rw [lvl_cons hj, lvl_cons (show j + 1 < (f :: t).length by rw [List.length_cons]; omega)] at this
    rw [hrow 110, hrow 111, hrow 112, hrow 113]
    simp
    exact ⟨this.1.gr hout.2, this.2⟩
  · refine ⟨by rw [hag.1 3 5 rfl]; exact e1, fun j hj => ?_, e3.gr hout.2 hout.1.1 hln.1 (hag.2 114 rfl), e4.gr hout.2 hout.1.1 hln.1 (hag.2 115 rfl)⟩
    obtain ⟨d5, d6, d7⟩ := e2 j hj
    rw [hag.2 107 rfl, hag.2 108 rfl, hrow 109]
    refine ⟨d5.gr hout.2, d6, ?_⟩
    by_cases ej : j = g.2.1 - 1
    · rw [if_pos ⟨rfl, ej⟩, if_neg]
      rw [show j + 1 = g.2.1 by omega]
      exact hg.2.2
    · rw [if_neg (fun z => ej z.2), d7, List.map_cons]
      have : (j + 1 ∈ g.2.1 :: (f :: t).map (fun z => z.2.1)) ↔ (j + 1 ∈ (f :: t).map (fun z => z.2.1)) := by
        rw [List.mem_cons]
        constructor
        · rintro (h1 | h1)
          · omega
          · exact h1
        · exact Or.inr
      simp only [this]
end Ent
