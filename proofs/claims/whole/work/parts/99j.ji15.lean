/-! ===== items of the class: declared attributes are found, and kept ===== -/
section JI15
variable {L : Nat → Nat} {rm nd : Nat} {σ τ : IS} {a : AS}
abbrev adD : ADc := ([], [], 0, 0, [], [])
/-- the first one of an element's from j on -/
def fnd (ad : List ADc) (s : Str) (j : Nat) : Option Nat := ((ad.drop j).findIdx? (fun x => x.1 == s)).map (fun k => j + k)
theorem fnd_none {ad : List ADc} {s : Str} {j : Nat} (h : fnd ad s j = none) : ∀ k, j ≤ k → k < ad.length → (ad.getD k adD).1 ≠ s := by
  intro k h1 h2 h3
  have h' : (ad.drop j).findIdx? (fun x => x.1 == s) = none := by
    unfold fnd at h
    cases hf : (ad.drop j).findIdx? (fun x => x.1 == s) with
    | none => rfl
    | some y => rw [hf] at h; cases h
  rw [List.findIdx?_eq_none_iff] at h'
  have hm : ad.getD k adD ∈ ad.drop j := by
    rw [List.getD_eq_getElem?_getD, List.getElem?_eq_getElem h2]
    rw [List.mem_iff_getElem]
    exact ⟨k - j, by rw [List.length_drop]; omega, by rw [List.getElem_drop]; show _ = ad[k]; congr 1; omega⟩
  have := h' _ hm
  rw [h3] at this
  simp at this
theorem fnd_some {ad : List ADc} {s : Str} {j i : Nat} (h : fnd ad s j = some i) : j ≤ i ∧ i < ad.length ∧ (ad.getD i adD).1 = s ∧ ∀ k, j ≤ k → k < i → (ad.getD k adD).1 ≠ s := by
  unfold fnd at h
  cases hf : (ad.drop j).findIdx? (fun x => x.1 == s) with
  | none => rw [hf] at h; cases h
  | some y =>
    rw [hf] at h
    have hy : j + y = i := Option.some.inj h
    rw [List.findIdx?_eq_some_iff_getElem] at hf
    obtain ⟨h1, h2, h3⟩ := hf
    rw [List.length_drop] at h1
    have hg : ∀ k, j ≤ k → (hk : k < ad.length) → ad.getD k adD = (ad.drop j)[k - j]'(by rw [List.length_drop]; omega) := by
      intro k z1 z2
      rw [List.getD_eq_getElem?_getD, List.getElem?_eq_getElem z2, List.getElem_drop]
      show ad[k] = _
      congr 1
      omega
    refine ⟨by omega, by omega, ?_, fun k z1 z2 z3 => ?_⟩
    · rw [hg i (by omega) (by omega)]
      have : i - j = y := by omega
      simp only [this]
      simpa using h2
    · have := h3 (k - j) (by omega)
      rw [← hg k z1 (by omega), z3] at this
      simp at this
theorem fnd_mk {ad : List ADc} {s : Str} {j i : Nat} (h1 : j ≤ i) (h2 : i < ad.length) (h3 : (ad.getD i adD).1 = s) (h4 : ∀ k, j ≤ k → k < i → (ad.getD k adD).1 ≠ s) : fnd ad s j = some i := by
  cases h : fnd ad s j with
  | none => exact absurd h3 (fnd_none h i h1 h2)
  | some y =>
    obtain ⟨g1, g2, g3, g4⟩ := fnd_some h
    have : y = i := by
      rcases Nat.lt_trichotomy y i with z | z | z
      · exact absurd g3 (h4 y g1 z)
      · exact z
      · exact absurd h3 (g4 i h1 z)
    rw [this]
theorem fnd_mk0 {ad : List ADc} {s : Str} {j : Nat} (h : ∀ k, j ≤ k → k < ad.length → (ad.getD k adD).1 ≠ s) : fnd ad s j = none := by
  cases hf : fnd ad s j with
  | none => rfl
  | some y =>
    obtain ⟨g1, g2, g3, g4⟩ := fnd_some hf
    exact absurd g3 (h y g1 g2)
theorem adE_fnd {ad : List ADc} {s : Str} : adE ad s = fnd ad s 0 := by
  unfold adE fnd
  rw [List.drop_zero]
  cases ad.findIdx? (fun x => x.1 == s) with
  | none => rfl
  | some y => show some y = some (0 + y); rw [Nat.zero_add]
theorem adX_fnd {ad : List ADc} {i : Nat} : adX ad i = fnd ad (ad.getD i adD).1 (i + 1) := rfl
theorem adf_mk {ad : List ADc} {el nm : Str} {i : Nat} (h2 : i < ad.length) (h3 : (ad.getD i adD).1 = el ∧ (ad.getD i adD).2.1 = nm) (h4 : ∀ k, k < i → ¬ ((ad.getD k adD).1 = el ∧ (ad.getD k adD).2.1 = nm)) : adf ad el nm = some i := by
  unfold adf
  rw [List.findIdx?_eq_some_iff_getElem]
  have hg : ∀ k, (hk : k < ad.length) → ad.getD k adD = ad[k] := fun k hk => by rw [List.getD_eq_getElem?_getD, List.getElem?_eq_getElem hk]; rfl
  refine ⟨h2, ?_, fun k hk => ?_⟩
  · rw [← hg i h2, h3.1, h3.2]; simp
  · have := h4 k hk
    rw [hg k (by omega)] at this
    simpa using this
theorem adf_mk0 {ad : List ADc} {el nm : Str} (h4 : ∀ k, k < ad.length → ¬ ((ad.getD k adD).1 = el ∧ (ad.getD k adD).2.1 = nm)) : adf ad el nm = none := by
  unfold adf
  rw [List.findIdx?_eq_none_iff]
  intro x hx
  obtain ⟨k, hk, rfl⟩ := List.mem_iff_getElem.mp hx
  have := h4 k hk
  rw [List.getD_eq_getElem?_getD, List.getElem?_eq_getElem hk] at this
  simpa using this
/-- the last one of an element's -/
def LST (ad : List ADc) (el : Str) (l : Option Nat) : Prop := (∀ i, l = some i → i < ad.length ∧ (ad.getD i adD).1 = el ∧ ∀ k, i < k → k < ad.length → (ad.getD k adD).1 ≠ el) ∧ (l = none → ∀ k, k < ad.length → (ad.getD k adD).1 ≠ el)
theorem RJ.f414 {x : Int} (hln : JLn L rm nd) (h : RJ L rm nd σ a) : RJ L rm nd (pf σ 4 14 x) a ∧ sgr σ (pf σ 4 14 x) := by
  obtain ⟨hZ, hg⟩ := h.1.out (σ' := pf σ 4 14 x) (fun o k hk => by rw [pf_1, if_neg (by omega)]) (fun _ _ => rfl)
  have hA : ∀ (F : Nat → Nat → Bool) (R : Nat → Bool), F 4 14 = false → ag F R σ (pf σ 4 14 x) := fun F R h1 => ag.refl.pf h1
  exact ⟨h.mk' hln hZ hg (Or.inl ⟨hA _ _ rfl, rfl, rfl⟩) (Or.inl ⟨hA _ _ rfl, rfl, rfl⟩) (Or.inl ⟨hA _ _ rfl, rfl⟩) (Or.inl ⟨hA _ _ rfl, rfl⟩) (Or.inl ⟨hA _ _ rfl, rfl⟩) (Or.inl ⟨hA _ _ rfl, rfl⟩) (Or.inl ⟨hA _ _ rfl, rfl⟩) (Or.inl ⟨hA _ _ rfl, rfl, rfl⟩) (Or.inl ⟨hA _ _ rfl, rfl⟩) (Or.inl ⟨hA _ _ rfl, rfl⟩) ⟨by rw [pf_no (by decide)]; exact h.2.2.2.2.2.2.2.2.2.2.2.1, by rw [pf_no (by decide)]; exact h.2.2.2.2.2.2.2.2.2.2.2.2⟩, hg⟩
set_option maxHeartbeats 1000000 in
theorem sp_fnd {Q : Int → IS → Prop} {x y : Int} {el nm : Str} (hln : JLn L rm nd) (hZ : JZ L rm nd σ) (hAd : JAd L σ (aA a)) (hn : (aA a).length ≤ rm / 8) (hx : Jn σ x el) (hy : Jn σ y nm) (hq1 : ∀ i z, adf (aA a) el nm = some i → Q (i : Int) (pf σ 4 14 z)) (hq0 : adf (aA a) el nm = none → ∀ l, LST (aA a) el l → Q (-1) (pf σ 4 14 (en1 l - 1))) : w_Declared_find L x y Q σ := by
  have hrm := hln.2.1
  have hxr := hx.rng hZ.1
  have hyr := hy.rng hZ.1
  have hL126 : L 126 = L 102 := hln.2.2.2.2.2.1.2.2.2.1
  have hL148 : L 148 = rm / 8 + 2 := hln.2.2.2.2.2.2.2.1.2
  have hL123 : L 123 = rm / 8 + 2 := hln.2.2.2.2.2.2.2.1.1 123 (by omega) (by omega)
  obtain ⟨a1, a2, a3, a4⟩ := hAd
  have h126 : σ.2 126 x.toNat = en1 (fnd (aA a) el 0) := by rw [a3.1 _ hxr.2.2.2.1, hxr.2.2.2.2]; show en1 (adE (aA a) el) = _; rw [adE_fnd]
  have hen : ∀ (s : Str) (j : Nat), 0 ≤ en1 (fnd (aA a) s j) ∧ en1 (fnd (aA a) s j) ≤ ((aA a).length : Int) := by
    intro s j
    cases h : fnd (aA a) s j with
    | none => show (0 : Int) ≤ 0 ∧ (0 : Int) ≤ _; omega
    | some i => have := (fnd_some h).2.1; show (0 : Int) ≤ (i : Int) + 1 ∧ (i : Int) + 1 ≤ _; omega
  unfold w_Declared_find
  rw [h126]
  have h0 := hen el 0
  refine ⟨⟨by omega, by omega⟩, ⟨by omega, by omega⟩, ?_⟩
  refine WL_ind (fun (s : Int × Int) (ρ : IS) => ∃ (j : Nat) (l : Option Nat), j ≤ (aA a).length ∧ s.1 = en1 (fnd (aA a) el j) - 1 ∧ 0 ≤ s.2 ∧ s.2 ≤ (j : Int) ∧ ρ = pf σ 4 14 (en1 l - 1) ∧ (∀ k, k < j → ¬ (((aA a).getD k adD).1 = el ∧ ((aA a).getD k adD).2.1 = nm)) ∧ (∀ i, l = some i → i + 1 = j ∧ ((aA a).getD i adD).1 = el) ∧ (l = none → j = 0)) (fun s _ => (aA a).length + 1 - s.2.toNat) ?_ _ _ ⟨0, none, Nat.zero_le _, rfl, Int.le_refl _, Int.le_refl _, rfl, (fun k hk => by omega), (fun i hi => by cases hi), fun _ => rfl⟩
  rintro ⟨s1, s2⟩ ρ ⟨j, l, hj, hs1, hs2, hs2', rfl, hno, hl1, hl0⟩ K hK
  dsimp only at hs1 hs2 hs2' hK ⊢
  have e12 : (pf σ 4 14 (en1 l - 1)).1 4 12 = ((aA a).length : Int) := by rw [pf_nk (by decide)]; exact a1
  rw [e12]
  cases hf : fnd (aA a) el j with
  | none =>
    have e1 : s1 = -1 := by rw [hs1, hf]; rfl
    rw [if_neg (fun z => z.2 e1)]
    have hnn := fnd_none hf
    refine hq0 (adf_mk0 (fun k hk => ?_)) l ⟨fun i hi => ?_, fun z k hk => ?_⟩
    · by_cases c : k < j
      · exact hno k c
      · exact fun z => hnn k (by omega) hk z.1
    · have := hl1 i hi
      exact ⟨by omega, this.2, fun k k1 k2 => hnn k (by omega) k2⟩
    · have := hl0 z
      exact hnn k (by omega) hk
  | some i =>
    obtain ⟨f1, f2, f3, f4⟩ := fnd_some hf
    have e1 : s1 = (i : Int) := by rw [hs1, hf]; show (i : Int) + 1 - 1 = _; omega
    rw [if_pos ⟨by omega, by omega⟩, e1, show Int.toNat (i : Int) = i by omega, pf_2]
    obtain ⟨b1, b2, b3, b4, b5, b6, b7⟩ := a2 i f2
    refine ⟨⟨by omega, by omega⟩, ?_⟩
    by_cases c : σ.2 148 i = y
    · rw [if_pos c]
      rw [c] at b1
      have hnm := hy.fun b1
      refine hq1 i _ (adf_mk f2 ⟨f3, hnm.symm⟩ (fun k hk => ?_))
      by_cases c2 : k < j
      · exact hno k c2
      · exact fun z => f4 k (by omega) hk z.1
    · rw [if_neg c]
      have hnm : ((aA a).getD i adD).2.1 ≠ nm := by
        intro z
        rw [z] at b1
        exact c (b1.inj hZ.1 hy)
      refine ⟨⟨by omega, by omega⟩, ⟨by omega, by omega⟩, hK _ _ ⟨i + 1, some i, by omega, ?_, by dsimp only; omega, by dsimp only; omega, ?_, fun k hk => ?_, fun i' hi' => ?_, fun z => by cases z⟩ (by dsimp only; omega)⟩
      · dsimp only
        rw [adX_fnd, f3] at b7
        omega
      · rw [pf_pf]
        show pf σ 4 14 (i : Int) = pf σ 4 14 ((i : Int) + 1 - 1)
        rw [show (i : Int) + 1 - 1 = (i : Int) by omega]
      · by_cases c2 : k < j
        · exact hno k c2
        · by_cases c3 : k = i
          · rw [c3]; exact fun z => hnm z.2
          · exact fun z => f4 k (by omega) (by omega) z.1
      · cases hi'
        exact ⟨rfl, f3⟩
end JI15
