/-! ===== the reference's book of strings ===== -/
def sl (f : Nat → Int) (i n : Nat) : List Int := (List.range n).map (fun j => f (i + j))
theorem sl_ln {f : Nat → Int} {i n : Nat} : (sl f i n).length = n := by simp [sl]
theorem sl_get {f : Nat → Int} {i n j : Nat} (h : j < n) : (sl f i n)[j]? = some (f (i + j)) := by simp [sl, h]
theorem sl_succ {f : Nat → Int} {i n : Nat} : sl f i (n + 1) = sl f i n ++ [f (i + n)] := by simp [sl, List.range_succ]
theorem sl_zero {f : Nat → Int} {i : Nat} : sl f i 0 = [] := rfl
theorem sl_ext {f g : Nat → Int} {i k n : Nat} (h : ∀ j, j < n → f (i + j) = g (k + j)) : sl f i n = sl g k n := by
  unfold sl
  apply List.map_congr_left
  intro j hj
  exact h j (List.mem_range.mp hj)
theorem sl_inj {f g : Nat → Int} {i k n m : Nat} (h : sl f i n = sl g k m) : n = m ∧ ∀ j, j < n → f (i + j) = g (k + j) := by
  have hl : n = m := by
    have := congrArg List.length h
    rwa [sl_ln, sl_ln] at this
  subst hl
  refine ⟨rfl, fun j hj => ?_⟩
  have h2 := congrArg (fun z => z[j]?) h
  simp only [sl_get hj] at h2
  exact Option.some.inj h2
def hst (n : Int) (l : List Int) : Int := l.foldl (fun h c => wr (wr (31 * h) + c)) n
def hK (l : List Int) : Int := ia (ix (hst l.length l) (iur (hst l.length l) 13)) 8191
theorem ia_in {x m : Int} (hm : 0 ≤ m ∧ m ≤ 2147483647) : 0 ≤ ia x m ∧ ia x m ≤ m := by
  unfold ia
  have hb : (Int32.ofInt m).toBitVec.toNat = m.toNat := by
    have h1 : (Int32.ofInt m).toBitVec = BitVec.ofInt 32 m := rfl
    rw [h1, BitVec.toNat_ofInt]
    have h2 := hm.1
    have h3 := hm.2
    omega
  have hle : ((Int32.ofInt x).toBitVec &&& (Int32.ofInt m).toBitVec).toNat ≤ m.toNat := by
    rw [BitVec.toNat_and, hb]
    exact Nat.and_le_right
  have e : (Int32.ofInt x &&& Int32.ofInt m).toInt = (((Int32.ofInt x).toBitVec &&& (Int32.ofInt m).toBitVec).toNat : Int) := by
    show ((Int32.ofInt x).toBitVec &&& (Int32.ofInt m).toBitVec).toInt = _
    apply BitVec.toInt_eq_toNat_of_lt
    omega
  rw [e]
  omega
theorem hK_in (l : List Int) : 0 ≤ hK l ∧ hK l < 8192 := by
  have h := ia_in (x := ix (hst l.length l) (iur (hst l.length l) 13)) (m := 8191) (by decide)
  unfold hK
  omega
theorem sp_KBook_bucket {L : Nat → Nat} {a0 : Nat} {a1 a2 : Int} {Q : Int → IS → Prop} {σ : IS} (h1 : 0 ≤ a1) (h2 : 0 ≤ a2) (h3 : a1 + a2 ≤ (L a0 : Int)) (hL : L a0 < 2147483648) (hq : Q (hK (sl (σ.2 a0) a1.toNat a2.toNat)) σ) : w_KBook_bucket L a0 a1 a2 Q σ := by
  unfold w_KBook_bucket
  refine WL_ind (fun s τ => τ = σ ∧ 0 ≤ s.2 ∧ s.2 ≤ a2 ∧ s.1 = hst a2 (sl (σ.2 a0) a1.toNat s.2.toNat)) (fun s _ => (a2 - s.2).toNat) ?_ (a2, 0) σ ⟨rfl, by simp, by simpa using h2, by simp [sl, hst]⟩
  rintro ⟨h, k⟩ τ ⟨rfl, k0, k1, hh⟩ K hI
  dsimp only at k0 k1 hh hI ⊢
  by_cases c : k < a2
  · rw [if_pos c]
    refine ⟨⟨by omega, by omega⟩, ⟨by omega, by omega⟩, ⟨by omega, by omega⟩, hI _ _ ⟨rfl, by dsimp only; omega, by dsimp only; omega, ?_⟩ (by dsimp only; omega)⟩
    try dsimp only
    rw [show (k + 1).toNat = k.toNat + 1 by omega, sl_succ, show (a1 + k).toNat = a1.toNat + k.toNat by omega, hh]
    simp [hst, List.foldl_append]
  · rw [if_neg c]
    have e : k = a2 := by omega
    subst e
    have e2 : hK (sl (τ.2 a0) a1.toNat k.toNat) = ia (ix h (iur h 13)) 8191 := by
      unfold hK
      rw [sl_ln, show ((k.toNat : Nat) : Int) = k by omega, ← hh]
    rw [← e2]
    exact hq
def bst (σ : IS) (s : Nat) : Nat := (σ.2 213 s).toNat
def bln (σ : IS) (s : Nat) : Nat := (σ.2 214 s).toNat
def bstr (σ : IS) (s : Nat) : List Int := sl (σ.2 212) (bst σ s) (bln σ s)
def onC (nx : Nat → Int) (s : Nat) : Nat → Int → Prop
  | 0, _ => False
  | n + 1, x => 0 ≤ x ∧ (x.toNat = s ∨ onC nx s n (nx x.toNat))
def BL (L : Nat → Nat) : Prop := L 211 = 8192 ∧ L 212 = 170000 ∧ L 213 = 50000 ∧ L 214 = 50000 ∧ L 215 = 50000
def BK (σ : IS) : Prop :=
  (0 ≤ σ.1 13 6 ∧ σ.1 13 6 ≤ 50000 ∧ 0 ≤ σ.1 13 1 ∧ σ.1 13 1 ≤ 170000) ∧
  (∀ s : Nat, (s : Int) < σ.1 13 6 → 0 ≤ σ.2 213 s ∧ 0 ≤ σ.2 214 s ∧ σ.2 213 s + σ.2 214 s ≤ σ.1 13 1 ∧ -1 ≤ σ.2 215 s ∧ σ.2 215 s < s) ∧
  (∀ b : Nat, b < 8192 → -1 ≤ σ.2 211 b ∧ σ.2 211 b < σ.1 13 6) ∧
  (∀ s t : Nat, (s : Int) < σ.1 13 6 → (t : Int) < σ.1 13 6 → bstr σ s = bstr σ t → s = t) ∧
  (∀ s : Nat, (s : Int) < σ.1 13 6 → ∃ n, onC (σ.2 215) s n (σ.2 211 (hK (bstr σ s)).toNat))
/-- a piece of a row -/
def pc_ (L : Nat → Nat) (r : Nat) (a n : Int) : Prop := 0 ≤ a ∧ 0 ≤ n ∧ a + n ≤ (L r : Int) ∧ L r < 2147483648
theorem sp_KBook_is {L : Nat → Nat} {s : Int} {a2 : Nat} {a3 a4 : Int} {Q : Int → IS → Prop} {σ : IS} (hB : BK σ) (hl : BL L) (hs : 0 ≤ s ∧ s < σ.1 13 6) (hp : pc_ L a2 a3 a4) (h1 : bstr σ s.toNat = sl (σ.2 a2) a3.toNat a4.toNat → Q 1 σ) (h0 : bstr σ s.toNat ≠ sl (σ.2 a2) a3.toNat a4.toNat → Q 0 σ) : w_KBook_is L s a2 a3 a4 Q σ := by
  obtain ⟨hb1, hb2, -, -, -⟩ := hB
  obtain ⟨l1, l2, l3, l4, l5⟩ := hl
  obtain ⟨p1, p2, p3, p4⟩ := hp
  have hS := hb2 s.toNat (by omega)
  unfold w_KBook_is
  refine ⟨⟨by omega, by omega⟩, ?_⟩
  by_cases c : σ.2 214 (Int.toNat s) = a4
  · rw [if_pos c]
    have e4 : bln σ s.toNat = a4.toNat := by unfold bln; omega
    refine WL_ind (fun k τ => τ = σ ∧ 0 ≤ k ∧ k ≤ a4 ∧ ∀ j : Nat, (j : Int) < k → σ.2 212 (bst σ s.toNat + j) = σ.2 a2 (a3.toNat + j)) (fun k _ => (a4 - k).toNat) ?_ 0 σ ⟨rfl, by omega, by omega, fun j hj => by omega⟩
    rintro k τ ⟨rfl, k0, k1, hk⟩ K hI
    try dsimp only
    have e1 : (τ.2 213 s.toNat + k).toNat = bst τ s.toNat + k.toNat := by unfold bst; omega
    have e2 : (a3 + k).toNat = a3.toNat + k.toNat := by omega
    refine ⟨fun c2 => ⟨⟨by omega, by omega⟩, ⟨by omega, by omega⟩, ⟨by omega, by omega⟩, ⟨by omega, by omega⟩, ⟨by omega, by omega⟩⟩, ?_⟩
    rw [e1, e2]
    by_cases c2 : k < a4 ∧ τ.2 212 (bst τ s.toNat + k.toNat) = τ.2 a2 (a3.toNat + k.toNat)
    · rw [if_pos c2]
      refine ⟨⟨by omega, by omega⟩, hI _ _ ⟨rfl, by omega, by omega, fun j hj => ?_⟩ (by omega)⟩
      by_cases ej : (j : Int) < k
      · exact hk j ej
      · rw [show j = k.toNat by omega]
        exact c2.2
    · rw [if_neg c2]
      by_cases c3 : k = a4
      · rw [if_pos c3]
        apply h1
        unfold bstr
        rw [e4]
        exact sl_ext (fun j hj => hk j (by omega))
      · rw [if_neg c3]
        apply h0
        intro e
        obtain ⟨-, e5⟩ := sl_inj e
        exact c2 ⟨by omega, e5 k.toNat (by omega)⟩
  · rw [if_neg c]
    apply h0
    intro e
    obtain ⟨e5, -⟩ := sl_inj e
    unfold bln at e5
    exact c (by omega)
theorem sp_KBook_find {L : Nat → Nat} {a1 : Nat} {a2 a3 : Int} {Q : Int → IS → Prop} {σ : IS} (hB : BK σ) (hl : BL L) (hp : pc_ L a1 a2 a3) (h1 : ∀ s : Nat, (s : Int) < σ.1 13 6 → bstr σ s = sl (σ.2 a1) a2.toNat a3.toNat → Q s σ) (h0 : (∀ s : Nat, (s : Int) < σ.1 13 6 → bstr σ s ≠ sl (σ.2 a1) a2.toNat a3.toNat) → Q (-1) σ) : w_KBook_find L a1 a2 a3 Q σ := by
  have hB' := hB
  obtain ⟨hb1, hb2, hb3, hb4, hb5⟩ := hB'
  have hl' := hl
  obtain ⟨l1, l2, l3, l4, l5⟩ := hl'
  unfold w_KBook_find
  have hh := hK_in (sl (σ.2 a1) a2.toNat a3.toNat)
  refine sp_KBook_bucket hp.1 hp.2.1 hp.2.2.1 hp.2.2.2 ⟨⟨by omega, by omega⟩, ?_⟩
  have hH := hb3 (hK (sl (σ.2 a1) a2.toNat a3.toNat)).toNat (by omega)
  refine WL_ind (fun x τ => τ = σ ∧ -1 ≤ x ∧ x < σ.1 13 6 ∧ ∀ s : Nat, (s : Int) < σ.1 13 6 → bstr σ s = sl (σ.2 a1) a2.toNat a3.toNat → ∃ n, onC (σ.2 215) s n x) (fun x _ => (x + 1).toNat) ?_ _ σ ⟨rfl, hH.1, hH.2, fun s hs e => by rw [← e]; exact hb5 s hs⟩
  rintro x τ ⟨rfl, x0, x1, hx⟩ K hI
  try dsimp only
  unfold WJ
  try dsimp only
  by_cases c : x < 0
  · rw [if_pos c]
    have e : x = -1 := by omega
    subst e
    refine h0 (fun s hs e => ?_)
    obtain ⟨n, hn⟩ := hx s hs e
    cases n with
    | zero => exact hn
    | succ n => exact absurd hn.1 (by decide)
  · rw [if_neg c]
    have hX := hb2 x.toNat (by omega)
    refine sp_KBook_is hB hl ⟨by omega, x1⟩ hp (fun e => ?_) (fun e => ?_)
    · rw [if_neg (by decide)]
      have h2 := h1 x.toNat (by omega) e
      rwa [show ((x.toNat : Nat) : Int) = x by omega] at h2
    · rw [if_pos rfl]
      refine ⟨⟨by omega, by omega⟩, hI _ _ ⟨rfl, by omega, by omega, fun s hs e2 => ?_⟩ (by omega)⟩
      obtain ⟨n, hn⟩ := hx s hs e2
      cases n with
      | zero => exact False.elim hn
      | succ n =>
        rcases hn.2 with e3 | e3
        · rw [e3] at e
          exact absurd e2 e
        · exact ⟨n, e3⟩
def frB (σ σ' : IS) : Prop := (∀ o k : Nat, ¬ (o = 13 ∧ (k = 1 ∨ k = 6)) → σ'.1 o k = σ.1 o k) ∧ (∀ r i : Nat, r < 211 ∨ 215 < r → σ'.2 r i = σ.2 r i)
/-- what keep leaves: the string's number, the strings before it as they were -/
def kept (σ σ' : IS) (l : List Int) (x : Int) : Prop :=
  BK σ' ∧ (∃ s : Nat, x = (s : Int) ∧ (s : Int) < σ'.1 13 6 ∧ bstr σ' s = l) ∧ (∀ s : Nat, (s : Int) < σ.1 13 6 → bstr σ' s = bstr σ s) ∧ frB σ σ' ∧
  (((∃ s : Nat, (s : Int) < σ.1 13 6 ∧ bstr σ s = l) ∧ σ' = σ) ∨ ((∀ s : Nat, (s : Int) < σ.1 13 6 → bstr σ s ≠ l) ∧ σ'.1 13 6 = σ.1 13 6 + 1 ∧ σ'.1 13 1 = σ.1 13 1 + (l.length : Int) ∧ x = σ.1 13 6))
theorem onC_mono {nx nx' : Nat → Int} {s n : Nat} (h1 : ∀ y, y < n → nx' y = nx y) (h2 : ∀ y, y < n → nx y < (n : Int)) : ∀ (m : Nat) (x : Int), x < (n : Int) → onC nx s m x → onC nx' s m x := by
  intro m
  induction m with
  | zero => intro x _ h; exact h
  | succ m ih =>
    intro x hx h
    refine ⟨h.1, ?_⟩
    have h0 := h.1
    rcases h.2 with e | e
    · exact Or.inl e
    · refine Or.inr ?_
      rw [h1 x.toNat (by omega)]
      exact ih _ (h2 x.toNat (by omega)) e
theorem kept_new {σ τ : IS} {l : List Int} {n u : Nat} {b : Nat} (hB : BK σ) (hn : σ.1 13 6 = (n : Int)) (hu : σ.1 13 1 = (u : Int)) (hnew : ∀ s : Nat, (s : Int) < σ.1 13 6 → bstr σ s ≠ l) (hb : b = (hK l).toNat) (hc1 : n < 50000) (hc2 : u + l.length ≤ 170000)
    (f6 : τ.1 13 6 = (n : Int) + 1) (f1 : τ.1 13 1 = (u : Int) + (l.length : Int)) (ff : ∀ o k : Nat, ¬ (o = 13 ∧ (k = 1 ∨ k = 6)) → τ.1 o k = σ.1 o k)
    (g1 : ∀ i : Nat, i ≠ n → τ.2 213 i = σ.2 213 i) (g1n : τ.2 213 n = (u : Int)) (g2 : ∀ i : Nat, i ≠ n → τ.2 214 i = σ.2 214 i) (g2n : τ.2 214 n = (l.length : Int))
    (g3 : ∀ i : Nat, i < u → τ.2 212 i = σ.2 212 i) (g3n : sl (τ.2 212) u l.length = l) (g4 : ∀ i : Nat, i ≠ n → τ.2 215 i = σ.2 215 i) (g4n : τ.2 215 n = σ.2 211 b) (g5 : ∀ i : Nat, i ≠ b → τ.2 211 i = σ.2 211 i) (g5n : τ.2 211 b = (n : Int))
    (gr : ∀ r i : Nat, r < 211 ∨ 215 < r → τ.2 r i = σ.2 r i) : kept σ τ l (n : Int) := by
  obtain ⟨hb1, hb2, hb3, hb4, hb5⟩ := hB
  rw [hn] at hb1 hb2 hb3 hb4 hb5 hnew
  rw [hu] at hb1 hb2
  have hk := hK_in l
  have hold : ∀ s : Nat, s < n → bstr τ s = bstr σ s := by
    intro s hs
    have h := hb2 s (by omega)
    unfold bstr bst bln
    rw [g1 s (by omega), g2 s (by omega)]
    exact sl_ext (fun j hj => g3 _ (by omega))
  have hnn : bstr τ n = l := by
    unfold bstr bst bln
    rw [g1n, g2n]
    exact g3n
  have hnx : ∀ y, y < n → τ.2 215 y = σ.2 215 y := fun y hy => g4 y (by omega)
  have hnl : ∀ y, y < n → σ.2 215 y < (n : Int) := fun y hy => by have := hb2 y (by omega); omega
  refine ⟨⟨by rw [f6, f1]; omega, ?_, ?_, ?_, ?_⟩, ⟨n, rfl, by rw [f6]; omega, hnn⟩, fun s hs => hold s (by rw [hn] at hs; omega), ⟨ff, gr⟩, Or.inr ⟨by rw [hn]; exact hnew, by rw [f6, hn], by rw [f1, hu], hn.symm⟩⟩
  · intro s hs
    rw [f6] at hs
    rw [f1]
    by_cases e : s = n
    · subst e
      rw [g1n, g2n, g4n]
      have := hb3 b (by omega)
      omega
    · rw [g1 s e, g2 s e, g4 s e]
      have := hb2 s (by omega)
      omega
  · intro i hi
    rw [f6]
    by_cases e : i = b
    · subst e
      rw [g5n]
      omega
    · rw [g5 i e]
      have := hb3 i hi
      omega
  · intro s t hs ht e
    rw [f6] at hs ht
    by_cases es : s = n
    · by_cases et : t = n
      · rw [es, et]
      · subst es
        rw [hnn, hold t (by omega)] at e
        exact absurd e.symm (hnew t (by omega))
    · by_cases et : t = n
      · subst et
        rw [hnn, hold s (by omega)] at e
        exact absurd e (hnew s (by omega))
      · rw [hold s (by omega), hold t (by omega)] at e
        exact hb4 s t (by omega) (by omega) e
  · intro s hs
    rw [f6] at hs
    by_cases es : s = n
    · subst es
      rw [hnn, ← hb, g5n]
      exact ⟨1, by omega, Or.inl (by omega)⟩
    · rw [hold s (by omega)]
      obtain ⟨m, hm⟩ := hb5 s (by omega)
      by_cases eb : (hK (bstr σ s)).toNat = b
      · rw [eb, g5n]
        rw [eb] at hm
        refine ⟨m + 1, by omega, Or.inr ?_⟩
        rw [show ((n : Int)).toNat = n by omega, g4n]
        have := hb3 b (by omega)
        exact onC_mono hnx hnl m _ (by omega) hm
      · rw [g5 _ eb]
        have h3 := hK_in (bstr σ s)
        have := hb3 (hK (bstr σ s)).toNat (by omega)
        exact ⟨m, onC_mono hnx hnl m _ (by omega) hm⟩
theorem pf_1 {σ : IS} {o k p j : Nat} {x : Int} : (pf σ o k x).1 p j = if p = o ∧ j = k then x else σ.1 p j := uf_at
theorem pf_2 {σ : IS} {o k : Nat} {x : Int} : (pf σ o k x).2 = σ.2 := rfl
theorem pr_1 {σ : IS} {o k : Nat} {x : Int} : (pr σ o k x).1 = σ.1 := rfl
theorem pr_2 {σ : IS} {o k p j : Nat} {x : Int} : (pr σ o k x).2 p j = if p = o ∧ j = k then x else σ.2 p j := uf_at
theorem uf_e {f : Nat → Nat → Int} {o k : Nat} {x : Int} : uf f o k x o k = x := by rw [uf_at, if_pos ⟨rfl, rfl⟩]
theorem uf_n {f : Nat → Nat → Int} {o k p j : Nat} {x : Int} (h : ¬ (p = o ∧ j = k)) : uf f o k x p j = f p j := by rw [uf_at, if_neg h]
theorem sp_KBook_keep {L : Nat → Nat} {a1 : Nat} {a2 a3 : Int} {Q : Int → IS → Prop} {σ : IS} (hB : BK σ) (hl : BL L) (hp : pc_ L a1 a2 a3) (hr : a1 < 211 ∨ a1 = 212 ∨ 215 < a1) (hpool : a1 = 212 → a2 + a3 ≤ σ.1 13 1)
    (hcap : (∀ s : Nat, (s : Int) < σ.1 13 6 → bstr σ s ≠ sl (σ.2 a1) a2.toNat a3.toNat) → σ.1 13 6 < 50000 ∧ σ.1 13 1 + a3 ≤ 170000) (h : ∀ x σ', kept σ σ' (sl (σ.2 a1) a2.toNat a3.toNat) x → Q x σ') : w_KBook_keep L a1 a2 a3 Q σ := by
  have hb1 := hB.1
  have hl' := hl
  obtain ⟨l1, l2, l3, l4, l5⟩ := hl'
  have hp' := hp
  obtain ⟨p1, p2, p3, p4⟩ := hp'
  obtain ⟨n, hn⟩ : ∃ n : Nat, σ.1 13 6 = (n : Int) := ⟨(σ.1 13 6).toNat, by omega⟩
  obtain ⟨u, hu⟩ : ∃ u : Nat, σ.1 13 1 = (u : Int) := ⟨(σ.1 13 1).toNat, by omega⟩
  unfold w_KBook_keep
  refine sp_KBook_find hB hl hp (fun s hs e => ?_) (fun hnew => ?_)
  · unfold WJ
    try dsimp only
    rw [if_neg (by omega)]
    exact h _ _ ⟨hB, ⟨s, rfl, hs, e⟩, fun _ _ => rfl, ⟨fun _ _ _ => rfl, fun _ _ _ => rfl⟩, Or.inl ⟨⟨s, hs, e⟩, rfl⟩⟩
  · have hc := hcap hnew
    rw [hn, hu] at hc
    rw [hu] at hpool
    unfold WJ
    try dsimp only
    rw [if_pos (by decide), hn, hu]
    refine ⟨⟨by omega, by omega⟩, ⟨by omega, by omega⟩, ⟨by omega, by omega⟩, ?_⟩
    have en : ((n : Int)).toNat = n := by omega
    rw [en]
    -- the loop that copies
    refine WL_ind (fun k τ => 0 ≤ k ∧ k ≤ a3 ∧ τ.1 13 6 = (n : Int) + 1 ∧ τ.1 13 1 = (u : Int) + k ∧ (∀ o j : Nat, ¬ (o = 13 ∧ (j = 1 ∨ j = 6)) → τ.1 o j = σ.1 o j) ∧ (∀ i : Nat, i ≠ n → τ.2 213 i = σ.2 213 i) ∧ τ.2 213 n = (u : Int) ∧ (∀ i : Nat, i ≠ n → τ.2 214 i = σ.2 214 i) ∧ τ.2 214 n = a3 ∧ (∀ i : Nat, i < u → τ.2 212 i = σ.2 212 i) ∧ (∀ j : Nat, (j : Int) < k → τ.2 212 (u + j) = σ.2 a1 (a2.toNat + j)) ∧ (∀ r i : Nat, r ≠ 212 → r ≠ 213 → r ≠ 214 → τ.2 r i = σ.2 r i)) (fun k _ => (a3 - k).toNat) ?_ 0 _ ?_
    · rintro k τ ⟨k0, k1, t6, t1, tf, q1, q1n, q2, q2n, q3, q3n, qr⟩ K hI
      try dsimp only
      have hsrc : ∀ j : Nat, (j : Int) < a3 → τ.2 a1 (a2.toNat + j) = σ.2 a1 (a2.toNat + j) := by
        intro j hj
        rcases hr with e | e | e
        · exact qr _ _ (by omega) (by omega) (by omega)
        · subst e
          have := hpool rfl
          exact q3 _ (by omega)
        · exact qr _ _ (by omega) (by omega) (by omega)
      by_cases c : k < a3
      · rw [if_pos c, t1]
        refine ⟨⟨by omega, by omega⟩, ⟨by omega, by omega⟩, ⟨by omega, by omega⟩, ⟨by omega, by omega⟩, ⟨by omega, by omega⟩, hI _ _ ⟨by omega, by omega, ?_, ?_, ?_, ?_, ?_, ?_, ?_, ?_, ?_, ?_⟩ (by omega)⟩
        · exact (pf_nk (by decide)).trans t6
        · rw [pf_eq]; omega
        · intro o j ho
          rw [pf_1, if_neg (fun z => ho ⟨z.1, Or.inl z.2⟩)]
          exact tf o j ho
        · intro i hi
          rw [pf_2, pr_2, if_neg (by omega)]
          exact q1 i hi
        · rw [pf_2, pr_2, if_neg (by omega)]
          exact q1n
        · intro i hi
          rw [pf_2, pr_2, if_neg (by omega)]
          exact q2 i hi
        · rw [pf_2, pr_2, if_neg (by omega)]
          exact q2n
        · intro i hi
          rw [pf_2, pr_2, if_neg (by omega)]
          exact q3 i hi
        · intro j hj
          rw [pf_2, pr_2]
          by_cases ej : (j : Int) < k
          · rw [if_neg (by omega)]
            exact q3n j ej
          · rw [if_pos ⟨rfl, by omega⟩, show Int.toNat (a2 + k) = a2.toNat + j by omega]
            exact hsrc j (by omega)
        · intro r i r1 r2 r3
          rw [pf_2, pr_2, if_neg (by omega)]
          exact qr r i r1 r2 r3
      · rw [if_neg c]
        have ek : k = a3 := by omega
        subst ek
        have hsl : sl (τ.2 a1) a2.toNat k.toNat = sl (σ.2 a1) a2.toNat k.toNat := sl_ext (fun j hj => hsrc j (by omega))
        refine sp_KBook_bucket p1 p2 p3 p4 ?_
        rw [hsl]
        have hk := hK_in (sl (σ.2 a1) a2.toNat k.toNat)
        refine ⟨⟨by omega, by omega⟩, ⟨by omega, by omega⟩, ⟨by omega, by omega⟩, ?_⟩
        have el : ((sl (σ.2 a1) a2.toNat k.toNat).length : Int) = k := by rw [sl_ln]; omega
        refine h _ _ (kept_new (u := u) (b := (hK (sl (σ.2 a1) a2.toNat k.toNat)).toNat) hB hn hu hnew rfl (by omega) (by rw [sl_ln]; omega) t6 (by rw [el]; exact t1) tf ?_ ?_ ?_ ?_ ?_ ?_ ?_ ?_ ?_ ?_ ?_)
        · intro i hi
          rw [pr_2, if_neg (by omega), pr_2, if_neg (by omega)]
          exact q1 i hi
        · rw [pr_2, if_neg (by omega), pr_2, if_neg (by omega)]
          exact q1n
        · intro i hi
          rw [pr_2, if_neg (by omega), pr_2, if_neg (by omega)]
          exact q2 i hi
        · rw [pr_2, if_neg (by omega), pr_2, if_neg (by omega), el]
          exact q2n
        · intro i hi
          rw [pr_2, if_neg (by omega), pr_2, if_neg (by omega)]
          exact q3 i hi
        · rw [sl_ln]
          apply sl_ext
          intro j hj
          rw [pr_2, if_neg (by omega), pr_2, if_neg (by omega)]
          exact q3n j (by omega)
        · intro i hi
          rw [pr_2, if_neg (by omega), pr_2, if_neg (by omega)]
          exact qr _ _ (by omega) (by omega) (by omega)
        · rw [pr_2, if_neg (by omega), pr_2, if_pos ⟨rfl, rfl⟩]
          exact qr _ _ (by omega) (by omega) (by omega)
        · intro i hi
          rw [pr_2, if_neg (fun z => hi z.2), pr_2, if_neg (by omega)]
          exact qr _ _ (by omega) (by omega) (by omega)
        · rw [pr_2, if_pos ⟨rfl, rfl⟩]
        · intro r i hri
          rw [pr_2, if_neg (by omega), pr_2, if_neg (by omega)]
          exact qr _ _ (by omega) (by omega) (by omega)
    · refine ⟨by omega, by omega, ?_, ?_, ?_, ?_, ?_, ?_, ?_, ?_, fun j hj => by omega, ?_⟩
      · rw [pr_1, pr_1, pf_1, if_pos ⟨rfl, rfl⟩]
      · rw [pr_1, pr_1, pf_1, if_neg (by omega), hu]
        omega
      · intro o j ho
        rw [pr_1, pr_1, pf_1, if_neg (fun z => ho ⟨z.1, Or.inr z.2⟩)]
      · intro i hi
        rw [pr_2, if_neg (by omega), pr_2, if_neg (fun z => hi z.2), pf_2]
      · rw [pr_2, if_neg (by omega), pr_2, if_pos ⟨rfl, rfl⟩]
      · intro i hi
        rw [pr_2, if_neg (fun z => hi z.2), pr_2, if_neg (by omega), pf_2]
      · rw [pr_2, if_pos ⟨rfl, rfl⟩]
      · intro i hi
        rw [pr_2, if_neg (by omega), pr_2, if_neg (by omega), pf_2]
      · intro r i r1 r2 r3
        rw [pr_2, if_neg (fun z => r3 z.1), pr_2, if_neg (fun z => r2 z.1), pf_2]
