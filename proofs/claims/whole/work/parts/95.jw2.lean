/-! ===== items of the class: the tree in a bad state; runs and sections ===== -/
/-- enough for the tree's methods to end -/
def JTs (L : Nat → Nat) (nd n : Nat) (σ : IS) : Prop := (σ.1 6 3 = -1 ∨ 0 ≤ σ.1 6 3 ∧ σ.1 6 3 < (nd : Int)) ∧ (0 ≤ σ.1 6 1 ∧ σ.1 6 1 ≤ (n : Int)) ∧ (0 ≤ σ.1 6 16 ∧ σ.1 6 16 ≤ (n : Int)) ∧ (0 ≤ σ.1 6 15 ∧ σ.1 6 15 ≤ (L 136 : Int))
section JW2
variable {L : Nat → Nat} {rm nd n f : Nat} {pl : Int} {σ τ : IS} {a : AS} {Q : IS → Prop}
theorem JBd.tree (h : JBd L rm nd σ f pl) (hf : ∀ o k, o ≠ 6 ∨ k = 0 → τ.1 o k = σ.1 o k) (hr : ∀ r, r < 129 ∨ (136 < r ∧ r ≠ 146 ∧ r ≠ 161) → τ.2 r = σ.2 r) : JBd L rm nd τ f pl := by
  obtain ⟨h1, h2, h3, h4, h5⟩ := h
  refine ⟨(h1.out (σ' := τ) (fun o k hk => hf o k (by omega)) (fun r hk => hr r (by omega))).1, by rw [hf 2 4 (by omega)]; exact h2, h3, by rw [hf 2 5 (by omega)]; exact h4, fun r hr' w w1 w2 => ?_⟩
  rw [hr r (by omega)]
  refine h5 r hr' w ?_ w2
  unfold jw at w1 ⊢
  rw [hf 1 14 (by omega)] at w1
  exact w1
theorem RJ.ts (hln : JLn L rm nd) (h : RJ L rm nd σ a) (hG : GA rm nd a) : JTs L nd 100000 σ := by
  obtain ⟨-, -, -, ⟨-, -, n3, -⟩, -, -, -, -, ⟨-, e2, -⟩, -, ⟨s1, s2, -⟩, -⟩ := h
  obtain ⟨-, -, ⟨r1, r2, -⟩, ⟨-, -, -, c4, -⟩, ⟨b1, b2⟩, -, ho, -⟩ := hG
  have h136 : L 136 = rm := hln.2.2.2.2.2.2.2.2.2.2.2
  have hnd := hln.2.1
  have hlt := ltr_le (aS a)
  refine ⟨?_, by rw [n3]; omega, by rw [s2]; omega, by rw [s1]; omega⟩
  rw [e2]
  cases hO : aO a with
  | nil => exact Or.inl rfl
  | cons e r =>
    rw [hO] at ho
    have := ho.1
    refine Or.inr ?_
    show 0 ≤ (e : Int) ∧ (e : Int) < (nd : Int)
    omega
theorem sp_note_w {b : Int} (hln : JLn L rm nd) (h : JBd L rm nd σ f pl) (ht : JTs L nd n σ) (hq : ∀ σ', JBd L rm nd σ' f pl → JTs L nd n σ' → σ'.1 = σ.1 → (∀ r, r ≠ 133 → σ'.2 r = σ.2 r) → Q σ') : w_Tree_note L b Q σ := by
  have h133 := hln.2.2.2.2.2.2.2.2.2.2.1.1 133 (by omega) (by omega)
  unfold w_Tree_note
  refine WJ_dir ?_
  dsimp only
  split
  · exact hq _ h ht rfl (fun _ _ => rfl)
  · have h3 := ht.1
    refine ⟨⟨by omega, by omega⟩, ⟨by omega, by omega⟩, hq _ (h.tree (fun _ _ _ => rfl) (fun r hr => funext (fun j => by rw [pr_2, if_neg (by omega)]))) ht rfl (fun r hr => funext (fun j => by rw [pr_2, if_neg (fun z => hr z.1)]))⟩
theorem sp_put_w {c : Int} (hln : JLn L rm nd) (h : JBd L rm nd σ f pl) (ht : JTs L nd n σ) (hq : ∀ σ', JBd L rm nd σ' f pl → JTs L nd n σ' → (∀ o k, ¬ (o = 6 ∧ k = 15) → σ'.1 o k = σ.1 o k) → (∀ r, r ≠ 136 → σ'.2 r = σ.2 r) → Q σ') : w_Tree_put L c Q σ := by
  have h136 : L 136 = rm := hln.2.2.2.2.2.2.2.2.2.2.2
  have hrm := hln.2.1
  unfold w_Tree_put
  refine WJ_dir ?_
  dsimp only
  split
  · have h3 := ht.2.2.2
    refine ⟨⟨by omega, by omega⟩, ⟨by omega, by omega⟩, hq _ (h.tree (fun o k hk => by rw [pf_1, if_neg (by omega)]; rfl) (fun r hr => funext (fun j => by rw [pf_2, pr_2, if_neg (by omega)]))) ⟨?_, ?_, ?_, ?_⟩ (fun o k hk => by rw [pf_1, if_neg hk]; rfl) (fun r hr => funext (fun j => by rw [pf_2, pr_2, if_neg (fun z => hr z.1)]))⟩
    · rw [pf_nk (by decide)]; exact ht.1
    · rw [pf_nk (by decide)]; exact ht.2.1
    · rw [pf_nk (by decide)]; exact ht.2.2.1
    · rw [pf_eq]; omega
  · exact hq _ h ht (fun _ _ _ => rfl) (fun _ _ => rfl)
theorem sp_chr_w {c : Int} (hln : JLn L rm nd) (h : JBd L rm nd σ f pl) (ht : JTs L nd n σ) (hn : n ≤ 1000000) (hq : ∀ σ', JBd L rm nd σ' f pl → JTs L nd (n + 1) σ' → (∀ o k, o ≠ 6 → σ'.1 o k = σ.1 o k) → (∀ r, r ≠ 136 → σ'.2 r = σ.2 r) → Q σ') : w_Tree_addCharacter L c Q σ := by
  unfold w_Tree_addCharacter
  refine sp_put_w hln h ht (fun σ1 h1 t1 f1 r1 => ?_)
  have h3 := t1.2.2.1
  refine ⟨⟨by omega, by omega⟩, hq _ (h1.tree (fun o k hk => by rw [pf_1, if_neg (by omega)]) (fun _ _ => rfl)) ⟨?_, ?_, ?_, ?_⟩ (fun o k hk => by rw [pf_no hk]; exact f1 o k (by omega)) r1⟩
  · rw [pf_nk (by decide)]; exact t1.1
  · rw [pf_nk (by decide)]; have := t1.2.1; omega
  · rw [pf_eq]; omega
  · rw [pf_nk (by decide)]; exact t1.2.2.2
theorem sp_end_w (hln : JLn L rm nd) (h : JBd L rm nd σ f pl) (ht : JTs L nd n σ) (hq : ∀ σ', JBd L rm nd σ' f pl → Q σ') : w_Tree_endElement L Q σ := by
  have h129 := hln.2.2.2.2.2.2.2.2.2.2.1.1 129 (by omega) (by omega)
  unfold w_Tree_endElement
  refine WJ_dir ?_
  dsimp only
  split
  · exact hq _ h
  · rename_i c
    refine sp_put_w hln h ht (fun σ1 h1 t1 f1 _ => ?_)
    have h3 := t1.1
    have h3' : σ1.1 6 3 = σ.1 6 3 := f1 6 3 (by omega)
    rw [h3'] at h3 ⊢
    refine ⟨⟨by omega, by omega⟩, hq _ (h1.tree (fun o k hk => by rw [pf_1, if_neg (by omega)]) (fun _ _ => rfl))⟩
/-! runs -/
def HB (T : Nat → Int) (p i : Nat) : Prop := ∃ j, p ≤ j ∧ j + 3 ≤ i ∧ T j = 93 ∧ T (j + 1) = 93 ∧ T (j + 2) = 62
theorem mt3 {T : Nat → Int} {e j : Nat} : mt T e j [93, 93, 62] = true ↔ j + 3 ≤ e ∧ T j = 93 ∧ T (j + 1) = 93 ∧ T (j + 2) = 62 := by
  show ((lk T e j == 93) && ((lk T e (j + 1) == 93) && ((lk T e (j + 2) == 62) && true))) = true ↔ _
  rw [Bool.and_true, Bool.and_eq_true, Bool.and_eq_true, beq_iff_eq, beq_iff_eq, beq_iff_eq]
  constructor
  · rintro ⟨h1, h2, h3⟩
    have g1 := lk_lt (by decide) h1
    have g2 := lk_lt (by decide) h2
    have g3 := lk_lt (by decide) h3
    exact ⟨by omega, g1.2, g2.2, g3.2⟩
  · rintro ⟨h1, h2, h3, h4⟩
    unfold lk
    rw [if_pos (by omega), if_pos (by omega), if_pos (by omega)]
    exact ⟨h2, h3, h4⟩
theorem sek_iff {T : Nat → Int} {e : Nat} {l : List Int} : ∀ (n i : Nat), e - i = n → ((sek T e l i).isSome = true ↔ ∃ j, i ≤ j ∧ j < e ∧ mt T e j l = true) := by
  intro n
  induction n with
  | zero =>
    intro i hn
    rw [sek_end (by omega)]
    constructor
    · intro h; cases h
    · rintro ⟨j, h1, h2, -⟩; omega
  | succ n ih =>
    intro i hn
    by_cases c : mt T e i l = true
    · rw [sek_hit (by omega) c]
      exact ⟨fun _ => ⟨i, Nat.le_refl _, by omega, c⟩, fun _ => rfl⟩
    · rw [sek_go (by omega) (by simpa using c), ih (i + 1) (by omega)]
      constructor
      · rintro ⟨j, h1, h2, h3⟩
        exact ⟨j, by omega, h2, h3⟩
      · rintro ⟨j, h1, h2, h3⟩
        refine ⟨j, ?_, h2, h3⟩
        by_cases e1 : j = i
        · subst e1; exact absurd h3 c
        · omega
theorem sek_HB {T : Nat → Int} {e p : Nat} : (sek T e [93, 93, 62] p).isSome = true ↔ HB T p e := by
  rw [sek_iff _ p rfl]
  constructor
  · rintro ⟨j, h1, h2, h3⟩
    obtain ⟨g1, g2, g3, g4⟩ := mt3.mp h3
    exact ⟨j, h1, g1, g2, g3, g4⟩
  · rintro ⟨j, h1, g1, g2, g3, g4⟩
    exact ⟨j, h1, by omega, mt3.mpr ⟨g1, g2, g3, g4⟩⟩
theorem HB_succ {T : Nat → Int} {p i : Nat} : HB T p (i + 1) ↔ HB T p i ∨ (p + 2 ≤ i ∧ T i = 62 ∧ T (i - 1) = 93 ∧ T (i - 2) = 93) := by
  constructor
  · rintro ⟨j, h1, h2, h3, h4, h5⟩
    by_cases c : j + 3 ≤ i
    · exact Or.inl ⟨j, h1, c, h3, h4, h5⟩
    · have e : i = j + 2 := by omega
      subst e
      exact Or.inr ⟨by omega, h5, by rw [show j + 2 - 1 = j + 1 by omega]; exact h4, by rw [show j + 2 - 2 = j by omega]; exact h3⟩
  · rintro (⟨j, h1, h2, h3⟩ | ⟨h1, h2, h3, h4⟩)
    · exact ⟨j, h1, by omega, h3⟩
    · exact ⟨i - 2, by omega, by omega, h4, by rw [show i - 2 + 1 = i - 1 by omega]; exact h3, by rw [show i - 2 + 2 = i by omega]; exact h2⟩
theorem sp_Reader_readRun {e p : Nat} (hS : JS L σ e) (hp : p ≤ e) (h2 : σ.1 2 2 = (p : Int)) (h1 : ¬ HB (σ.2 101) p (sk isRn (σ.2 101) e p) → Q (pf σ 2 2 ((sk isRn (σ.2 101) e p : Nat) : Int))) (h0 : HB (σ.2 101) p (sk isRn (σ.2 101) e p) → Q (pf (pf σ 2 2 ((sk isRn (σ.2 101) e p : Nat) : Int)) 2 4 5)) : w_Reader_readRun L Q σ := by
  have he : e < 1000000 := by have := hS.2.1; have := hS.2.2.1; omega
  have hL := hS.2.1
  unfold w_Reader_readRun
  rw [h2]
  refine WL_ind (fun s ρ => ∃ i : Nat, s = (i : Int) ∧ p ≤ i ∧ i ≤ e ∧ sk isRn (σ.2 101) e p = sk isRn (σ.2 101) e i ∧ ((¬ HB (σ.2 101) p i ∧ ρ = pf σ 2 2 (i : Int)) ∨ (HB (σ.2 101) p i ∧ ρ = pf (pf σ 2 2 (i : Int)) 2 4 5))) (fun s _ => (e - s).toNat) ?_ _ σ ⟨p, rfl, Nat.le_refl _, hp, rfl, Or.inl ⟨fun ⟨j, g1, g2, _⟩ => by omega, (pf_self h2).symm⟩⟩
  rintro s ρ ⟨i, rfl, hi1, hi2, hsk, hρ⟩ K hI
  try dsimp only
  have hρr : ρ.2 = σ.2 := by rcases hρ with ⟨-, h⟩ | ⟨-, h⟩ <;> rw [h] <;> rfl
  have hρ3 : ρ.1 2 3 = (e : Int) := by rcases hρ with ⟨-, h⟩ | ⟨-, h⟩ <;> rw [h] <;> simp [pf_1] <;> exact hS.1
  have hρ2 : ρ.1 2 2 = (i : Int) := by rcases hρ with ⟨-, h⟩ | ⟨-, h⟩ <;> rw [h] <;> simp [pf_1]
  rw [hρ3, hρ2, hρr, show Int.toNat (i : Int) = i by omega]
  refine ⟨fun c => ⟨⟨by omega, by omega⟩, fun _ => ⟨by omega, by omega⟩⟩, ?_⟩
  by_cases c : (i : Int) < (e : Int) ∧ ¬ σ.2 101 i = 60 ∧ ¬ σ.2 101 i = 38
  · rw [if_pos c]
    refine ⟨⟨by omega, by omega⟩, ⟨by omega, by omega⟩, ?_⟩
    have hrn : isRn (σ.2 101 i) = true := by simp [isRn, c.2.1, c.2.2]
    have hsk' : sk isRn (σ.2 101) e p = sk isRn (σ.2 101) e (i + 1) := by rw [hsk, sk_go (by omega) hrn]
    refine WJ_dir ?_
    dsimp only
    refine ⟨fun _ => ⟨⟨by omega, by omega⟩, fun c2 => ⟨⟨by omega, by omega⟩, ⟨by omega, by omega⟩, fun _ => ⟨⟨by omega, by omega⟩, ⟨by omega, by omega⟩⟩⟩⟩, ?_⟩
    have hcond : (σ.2 101 i = 62 ∧ ¬ (i : Int) - 2 < (p : Int) ∧ σ.2 101 ((i : Int) - 1).toNat = 93 ∧ σ.2 101 ((i : Int) - 2).toNat = 93) ↔ (p + 2 ≤ i ∧ σ.2 101 i = 62 ∧ σ.2 101 (i - 1) = 93 ∧ σ.2 101 (i - 2) = 93) := by
      rw [show ((i : Int) - 1).toNat = i - 1 by omega, show ((i : Int) - 2).toNat = i - 2 by omega]
      constructor
      · rintro ⟨g1, g2, g3, g4⟩; exact ⟨by omega, g1, g3, g4⟩
      · rintro ⟨g1, g2, g3, g4⟩; exact ⟨g2, by omega, g3, g4⟩
    have hn1 : ¬ HB (σ.2 101) p i → pf ρ 2 2 ((i : Int) + 1) = pf σ 2 2 ((i + 1 : Nat) : Int) := by
      intro g
      rw [show ((i : Int) + 1) = ((i + 1 : Nat) : Int) by omega]
      rcases hρ with ⟨-, h⟩ | ⟨g2, -⟩
      · rw [h, pf_pf]
      · exact absurd g2 g
    have hn2 : HB (σ.2 101) p i → pf ρ 2 2 ((i : Int) + 1) = pf (pf σ 2 2 ((i + 1 : Nat) : Int)) 2 4 5 := by
      intro g
      rw [show ((i : Int) + 1) = ((i + 1 : Nat) : Int) by omega]
      rcases hρ with ⟨g2, -⟩ | ⟨-, h⟩
      · exact absurd g g2
      · rw [h, pf_comm (by omega), pf_pf]
    by_cases c2 : σ.2 101 i = 62 ∧ ¬ (i : Int) - 2 < (p : Int) ∧ σ.2 101 ((i : Int) - 1).toNat = 93 ∧ σ.2 101 ((i : Int) - 2).toNat = 93
    · rw [if_pos c2]
      have hb : HB (σ.2 101) p (i + 1) := HB_succ.mpr (Or.inr (hcond.mp c2))
      refine sp_Reader_fail ⟨⟨by omega, by omega⟩, hI _ _ ⟨i + 1, by omega, by omega, by omega, hsk', Or.inr ⟨hb, ?_⟩⟩ (by omega)⟩
      by_cases g : HB (σ.2 101) p i
      · rw [hn2 g]
        unfold flt
        rw [if_neg (by rw [pf_eq]; decide)]
      · rw [hn1 g]
        unfold flt
        rw [if_pos (by rw [pf_nk (by decide)]; exact hS.2.2.2.1)]
    · rw [if_neg c2]
      refine ⟨⟨by omega, by omega⟩, hI _ _ ⟨i + 1, by omega, by omega, by omega, hsk', ?_⟩ (by omega)⟩
      by_cases g : HB (σ.2 101) p i
      · rw [hn2 g]
        exact Or.inr ⟨HB_succ.mpr (Or.inl g), rfl⟩
      · rw [hn1 g]
        refine Or.inl ⟨fun z => ?_, rfl⟩
        rcases HB_succ.mp z with z | z
        · exact g z
        · exact c2 (hcond.mpr z)
  · rw [if_neg c]
    have hend : sk isRn (σ.2 101) e p = i := by
      rw [hsk]
      by_cases ci : i < e
      · refine sk_stop ?_
        by_cases c60 : σ.2 101 i = 60
        · rw [c60]; decide
        · by_cases c38 : σ.2 101 i = 38
          · rw [c38]; decide
          · exact absurd ⟨by omega, c60, c38⟩ c
      · exact sk_end (by omega)
    rw [hend] at h1 h0
    rcases hρ with ⟨g, h⟩ | ⟨g, h⟩
    · rw [h]; exact h1 g
    · rw [h]; exact h0 g
end JW2
