/-! ===== the validator: all counts ===== -/
/-- what the counts of validity may change -/
def VAx (L : Nat → Nat) (σ τ : IS) : Prop := (∀ o k, ¬ (o = 2 ∧ (k = 2 ∨ k = 3)) → ¬ (o = 1 ∧ (k = 13 ∨ k = 14 ∨ k = 16)) → ¬ (o = 8 ∧ k = 13) → ¬ (o = 9 ∧ (k = 3 ∨ k = 12)) → τ.1 o k = σ.1 o k) ∧ (∀ r, ¬ (102 ≤ r ∧ r ≤ 106) → ¬ (137 ≤ r ∧ r ≤ 145) → ¬ (149 ≤ r ∧ r ≤ 155) → τ.2 r = σ.2 r) ∧ sgr σ τ ∧ SI L τ
/-- how long the validator's rows are -/
def JLv (L : Nat → Nat) (rm nd : Nat) : Prop := MLn L ∧ L 149 = 23 ∧ (L 150 = nd ∧ L 151 = nd ∧ L 152 = nd) ∧ L 153 = rm / 16 + 2 ∧ L 154 = rm / 8 + 2
/-- the first counts -/
def cn0 (a : AS) (s : Str) (k : Nat) : Nat := if k = 22 then aN a 1 else if k = 20 then ndu (aT a) else if k = 1 then (if ((aL a).getD 0 elD).1 = s then 0 else 1) else 0
/-- identities -/
def idA (a : AS) : IDs := ids (aA a) (aB a) (segs (aL a))
/-- the violations of validity -/
def cnV (a : AS) (k : Nat) : Nat := match aR a with
  | none => if k = 0 then 1 else 0
  | some s => ((((cn0 a s k + (if k = 5 then nnk (kdc (aD a) (aL a)) (aL a).length 0 else 0)) + sn (ctE (aD a) (aL a) k) (aD a).length) + cnT (aA a) (aB a) (aL a) k) + (if k = 11 then (idA a).2.1 else 0)) + cnR (aA a) (aB a) (idA a).1 k + cnA (aD a) (aA a) (aT a) k
section Vax
variable {L : Nat → Nat} {σ τ υ : IS}
theorem VAx.trans (h1 : VAx L σ τ) (h2 : VAx L τ υ) : VAx L σ υ := ⟨fun o k a b c d => (h2.1 o k a b c d).trans (h1.1 o k a b c d), fun r a b c => (h2.2.1 r a b c).trans (h1.2.1 r a b c), h1.2.2.1.trans h2.2.2.1, h2.2.2.2⟩
theorem VAx.mk' (hS : SI L σ) (hf : ∀ o k, ¬ (o = 1 ∧ (k = 13 ∨ k = 16)) → ¬ (o = 8 ∧ k = 13) → τ.1 o k = σ.1 o k) (hr : ∀ r, ¬ (149 ≤ r ∧ r ≤ 155) → τ.2 r = σ.2 r) : VAx L σ τ := by
  have h2 := SI_of hS (σ' := τ) (hf 1 14 (by omega) (by omega)) (by rw [hf 1 3 (by omega) (by omega)]; have := hS.1; omega) (fun r y1 y2 => hr r (by omega)) (fun i _ => by rw [hr 101 (by omega)])
  exact ⟨fun o k a b c d => hf o k (by omega) c, fun r a b c => hr r c, h2.2, h2.1⟩
theorem EVx.vax (h : EVx L σ τ) : VAx L σ τ := ⟨fun o k a b _ d => h.1 o k a b d, fun r a b c => h.2.1 r a b (by omega) (by omega), h.2.2.1, h.2.2.2⟩
theorem VC.vax (h : VC σ τ) (hS : SI L σ) : VAx L σ τ := VAx.mk' hS (fun o k a _ => h.1 o k (by omega)) (fun r a => h.2.1 r (by omega) (by omega))
theorem VW.vax (h : VW σ τ) (hS : SI L σ) : VAx L σ τ := VAx.mk' hS (fun o k a b => h.1 o k (by omega) b) (fun r a => h.2.1 r a)
theorem VY.vax {g : Nat → Nat} (h : VY σ τ g) (hS : SI L σ) : VAx L σ τ := VAx.mk' hS (fun o k a b => h.1 o k (by omega)) (fun r a => h.2.1 r (by omega))
theorem VLk.vax (h : VLk σ τ) (hS : SI L σ) : VAx L σ τ := VAx.mk' hS (fun o k _ _ => h.1 o k) (fun r a => h.2 r (by omega))
theorem VAx.ed {ed : List EDc} (h : VAx L σ τ) (hl : SL L) (hp : JEd L σ ed) : JEd L τ ed := hp.dep h.2.2.1 h.2.2.2 hl ⟨fun o k q => h.1 o k (by simp [fEd] at q; omega) (by simp [fEd] at q; omega) (by simp [fEd] at q; omega) (by simp [fEd] at q; omega), fun r q => h.2.1 r (by simp [rEd] at q; omega) (by simp [rEd] at q; omega) (by simp [rEd] at q; omega)⟩
theorem VAx.ad {ad : List ADc} (h : VAx L σ τ) (hl : SL L) (hp : JAd L σ ad) : JAd L τ ad := hp.dep h.2.2.1 h.2.2.2 hl ⟨fun o k q => h.1 o k (by simp [fAd] at q; omega) (by simp [fAd] at q; omega) (by simp [fAd] at q; omega) (by simp [fAd] at q; omega), fun r q => h.2.1 r (by simp [rAd] at q; omega) (by simp [rAd] at q; omega) (by simp [rAd] at q; omega)⟩
theorem VAx.nt {nt : List Str} (h : VAx L σ τ) (hl : SL L) (hp : JNt L σ nt) : JNt L τ nt := hp.dep h.2.2.1 h.2.2.2 hl ⟨fun o k q => h.1 o k (by simp [fNt] at q; omega) (by simp [fNt] at q; omega) (by simp [fNt] at q; omega) (by simp [fNt] at q; omega), fun r q => h.2.1 r (by simp [rNt] at q; omega) (by simp [rNt] at q; omega) (by simp [rNt] at q; omega)⟩
theorem VAx.el {el : List Elm} {os : List Nat} (h : VAx L σ τ) (hp : JEl σ el os) : JEl τ el os := hp.dep h.2.2.1 ⟨fun o k q => h.1 o k (by simp [fEl] at q; omega) (by simp [fEl] at q; omega) (by simp [fEl] at q; omega) (by simp [fEl] at q; omega), fun r q => h.2.1 r (by simp [rEl] at q; omega) (by simp [rEl] at q; omega) (by simp [rEl] at q; omega)⟩
theorem VAx.at' {at_ : List Att} (h : VAx L σ τ) (hp : JAt σ at_) : JAt τ at_ := hp.dep h.2.2.1 ⟨fun o k q => h.1 o k (by simp [fAt] at q; omega) (by simp [fAt] at q; omega) (by simp [fAt] at q; omega) (by simp [fAt] at q; omega), fun r q => h.2.1 r (by simp [rAt] at q; omega) (by simp [rAt] at q; omega) (by simp [rAt] at q; omega)⟩
theorem VAx.st {st : List Evt} (h : VAx L σ τ) (hp : JSt σ st) : JSt τ st := hp.dep h.2.2.1 ⟨fun o k q => h.1 o k (by simp [fSt] at q; omega) (by simp [fSt] at q; omega) (by simp [fSt] at q; omega) (by simp [fSt] at q; omega), fun r q => h.2.1 r (by simp [rSt] at q; omega) (by simp [rSt] at q; omega) (by simp [rSt] at q; omega)⟩
theorem gsm_0 {f : Nat → Nat} (h : ∀ a, f a = 0) : ∀ l, gsm f l = 0 := by
  intro l
  induction l with
  | nil => rfl
  | cons z l ih => rw [gsm_c, ih, h]; split <;> rfl
theorem sn_0 {f : Nat → Nat} (h : ∀ a, f a = 0) : ∀ n, sn f n = 0 := by
  intro n
  induction n with
  | zero => rfl
  | succ n ih => rw [sn_s, ih, h]
theorem ctE_0 {ed : List EDc} {el : List Elm} {k : Nat} (h : k ≠ 2 ∧ k ≠ 3 ∧ k ≠ 4 ∧ k ≠ 6) (i : Nat) : ctE ed el k i = 0 := by unfold ctE; rw [if_neg h.1, if_neg h.2.1, if_neg h.2.2.1, if_neg h.2.2.2]
theorem cnT_0 {ad : List ADc} {at_ : List Att} {el : List Elm} {k : Nat} (h : ¬ (7 ≤ k ∧ k ≤ 10)) : cnT ad at_ el k = 0 := by
  unfold cnT
  rw [gsm_0 (fun a => ?_), if_neg (by omega)]
  unfold tga
  split
  · rw [if_neg (by omega)]
  · rw [if_neg (by omega), if_neg (by omega)]
theorem cnR_0 {ad : List ADc} {at_ : List Att} {seen : List Str} {k : Nat} (h : k ≠ 12 ∧ k ≠ 21) : cnR ad at_ seen k = 0 := by
  unfold cnR
  refine sn_0 (fun a => ?_) _
  unfold wrd
  split
  · rfl
  · unfold wrt
    rw [if_neg]
    rintro ⟨-, z⟩
    unfold kw at z
    split at z <;> omega
theorem ids_seen {ad : List ADc} {at_ : List Att} : ∀ (l : List (Nat × Bool)) (q : IDs), ∀ s ∈ (l.foldl (idt ad at_) q).1, s ∈ q.1 ∨ ∃ z ∈ l, s = (at_.getD z.1 atD).2.1 := by
  intro l
  induction l with
  | nil => intro q s hs; exact Or.inl hs
  | cons z l ih =>
    intro q s hs
    rw [List.foldl_cons] at hs
    rcases ih _ s hs with h | ⟨z', h1, h2⟩
    · unfold idt at h
      split at h
      · exact Or.inl h
      · dsimp only at h
        split at h
        · rcases List.mem_cons.mp h with y | y
          · exact Or.inr ⟨z, List.mem_cons_self, y⟩
          · exact Or.inl y
        · exact Or.inl h
    · exact Or.inr ⟨z', List.mem_cons_of_mem _ h1, h2⟩
theorem ids_app {ad : List ADc} {at_ : List Att} {d : Nat} : ∀ (l : List (Nat × Bool)) (q : IDs), 0 < (l.foldl (idt ad at_) q).2.2 d → 0 < q.2.2 d ∨ ∃ z ∈ l, z.2 = true ∧ (at_.getD z.1 atD).2.2 = some d := by
  intro l
  induction l with
  | nil => intro q h; exact Or.inl h
  | cons z l ih =>
    intro q h
    rw [List.foldl_cons] at h
    rcases ih _ h with h | ⟨z', h1, h2⟩
    · unfold idt at h
      split at h
      · exact Or.inl h
      · rename_i d' hd'
        dsimp only at h
        split at h
        · rename_i hc
          exact Or.inr ⟨z, List.mem_cons_self, hc.1, by rw [hc.2]; exact hd'⟩
        · exact Or.inl h
    · exact Or.inr ⟨z', List.mem_cons_of_mem _ h1, h2⟩
theorem sn_lnE {ed : List EDc} : sn (lnE ed) ed.length = cnl ed := by
  have h : ∀ n, n ≤ ed.length → sn (lnE ed) n = cnl (ed.take n) := by
    intro n
    induction n with
    | zero => intro _; rfl
    | succ n ih =>
      intro hn
      rw [sn_s, ih (by omega), List.take_succ, List.getElem?_eq_getElem (show n < ed.length by omega)]
      show _ = cnl (ed.take n ++ [ed[n]])
      rw [cnl_app]
      congr 1
      unfold lnE
      rw [List.getD_eq_getElem?_getD, List.getElem?_eq_getElem (show n < ed.length by omega)]
      rfl
  have := h ed.length (Nat.le_refl _)
  rw [List.take_length] at this
  exact this
theorem sn_ge {f : Nat → Nat} {n i : Nat} (h : i < n) : f i ≤ sn f n := by
  have := sn_mono (f := f) (show i + 1 ≤ n by omega)
  rw [sn_s] at this
  omega
theorem ndu_le : ∀ l : List Str, ndu l ≤ l.length := by
  intro l
  induction l with
  | nil => exact Nat.le_refl _
  | cons s l ih =>
    have : ndu (s :: l) = ndu l + (if s ∈ l then 1 else 0) := rfl
    rw [this, List.length_cons]
    split <;> omega
end Vax
