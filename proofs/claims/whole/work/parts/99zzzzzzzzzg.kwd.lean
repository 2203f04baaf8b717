/-! ===== the reference's writer: comparisons ===== -/
def lgt (s : Str) (k : Nat) : Int := if k < s.length then s.getD k 0 else -1
section Kwd
variable {L : Nat → Nat} {o : Nat} {σ τ : IS} {bk : List Str} {pl : List Int} {ad : List ADc} {el : List Elm} {at_ : List Att} {s t : Str} {R : Int → IS → Prop} {x y : Int}
theorem gD_mem {s : Str} {k : Nat} (h : k < s.length) : s.getD k 0 ∈ s := by rw [List.getD_eq_getElem?_getD, List.getElem?_eq_getElem h]; exact List.getElem_mem h
theorem cmp_lg {k : Nat} (hs : ∀ c ∈ s, 0 ≤ c) (ht : ∀ c ∈ t, 0 ≤ c) (he : s.take k = t.take k) (hd : ¬ (lgt s k = lgt t k ∧ 0 ≤ lgt s k)) (hk : k ≤ s.length ∧ k ≤ t.length) : (lgt s k - lgt t k < 0 ↔ sbf s t = true) ∧ (lgt s k - lgt t k = 0 ↔ s = t) := by
  have ea : s = s.take k ++ s.drop k := (List.take_append_drop k s).symm
  have eb : t = s.take k ++ t.drop k := by rw [he]; exact (List.take_append_drop k t).symm
  have es : sbf s t = sbf (s.drop k) (t.drop k) := by
    conv => lhs; rw [ea, eb]
    exact sbf_pre
  have eq : s = t ↔ s.drop k = t.drop k := by
    constructor
    · intro h; rw [h]
    · intro h; rw [ea, eb, h]
  unfold lgt at *
  rw [es, eq]
  by_cases c1 : k < s.length
  · have p1 := hs _ (gD_mem c1)
    rw [if_pos c1] at *
    by_cases c2 : k < t.length
    · rw [if_pos c2] at *
      rw [drop_getD c1, drop_getD c2, sbf_cc]
      have hne : s.getD k 0 ≠ t.getD k 0 := fun z => hd ⟨z, p1⟩
      refine ⟨⟨fun z => Or.inl (by omega), fun z => ?_⟩, ⟨fun z => absurd (by omega) hne, fun z => absurd (List.cons.inj z).1 hne⟩⟩
      rcases z with z | ⟨z, -⟩
      · omega
      · exact absurd z hne
    · rw [if_neg c2] at *
      rw [List.drop_eq_nil_of_le (as := t) (by omega), drop_getD c1]
      exact ⟨⟨fun z => by omega, fun z => by cases z⟩, ⟨fun z => by omega, fun z => by cases z⟩⟩
  · rw [if_neg c1] at *
    rw [List.drop_eq_nil_of_le (as := s) (by omega)]
    by_cases c2 : k < t.length
    · have p2 := ht _ (gD_mem c2)
      rw [if_pos c2] at *
      rw [drop_getD c2]
      exact ⟨⟨fun _ => rfl, fun _ => by omega⟩, ⟨fun z => by omega, fun z => by cases z⟩⟩
    · rw [if_neg c2] at *
      rw [List.drop_eq_nil_of_le (as := t) (by omega)]
      exact ⟨⟨fun z => by omega, fun z => by cases z⟩, ⟨fun _ => rfl, fun _ => by omega⟩⟩
theorem lgt_tk {k : Nat} (he : s.take k = t.take k) (h : lgt s k = lgt t k) (h0 : 0 ≤ lgt s k) : s.take (k + 1) = t.take (k + 1) ∧ k + 1 ≤ s.length ∧ k + 1 ≤ t.length := by
  unfold lgt at h h0
  by_cases c1 : k < s.length
  · rw [if_pos c1] at h h0
    by_cases c2 : k < t.length
    · rw [if_pos c2] at h
      refine ⟨?_, by omega, by omega⟩
      rw [List.take_add_one, List.take_add_one, he, List.getElem?_eq_getElem c1, List.getElem?_eq_getElem c2]
      rw [List.getD_eq_getElem?_getD, List.getElem?_eq_getElem c1, List.getD_eq_getElem?_getD, List.getElem?_eq_getElem c2] at h
      dsimp only [Option.getD] at h
      rw [h]
    · rw [if_neg c2] at h; omega
  · rw [if_neg c1] at h0; omega
/-- a meaning, by number -/
def MNg (at_ : List Att) (a : Int) (s : Str) : Prop := (a = -2 ∧ s = sXM) ∨ (a = -1 ∧ s = []) ∨ ∃ i : Nat, a = (i : Int) ∧ i < at_.length ∧ s = (at_.getD i atD).2.1
theorem sp_K_meant {a : Int} {k : Nat} (h17 : σ.1 17 1 = (o : Int)) (hD : KD4 L o σ bk pl ad el at_) (ha : MNg at_ a s) (hx : x = (k : Int)) (hq : R (lgt s k) σ) : w_KWriter_meant L a x R σ := by
  subst hx
  obtain ⟨hLn, hb, hE, hA, hp, hd, hal, hel, hpl, hpool⟩ := hD
  obtain ⟨l8, l8', l8''⟩ : (∀ k, 8 ≤ k → k ≤ 13 → L (rfo o k) = L (rfo o 8)) ∧ 16500 ≤ L (rfo o 8) ∧ L (rfo o 8) ≤ 32768 := by obtain ⟨-, -, -, -, -, -, -, -, -, -, -, -, -, -, -, -, -, x, -⟩ := hLn; exact x
  obtain ⟨lp1, lp2⟩ : 0 ≤ L (rfo o 1) ∧ L (rfo o 1) ≤ 262144 := by obtain ⟨-, -, -, -, -, -, -, -, -, -, -, -, -, -, -, -, x, -⟩ := hLn; exact x
  have ho := hLn.oo
  have hdy : dyD (o : Int) := by unfold dyD; rcases ho with y | y <;> rw [y] <;> decide
  have e68 : ti 1168 = sXM := by unfold sXM; rw [ti_1168, ti_1072]
  unfold w_KWriter_meant
  rcases ha with ⟨rfl, rfl⟩ | ⟨rfl, rfl⟩ | ⟨i, rfl, hi, rfl⟩
  · rw [if_pos rfl, tN_i, e68]
    refine ⟨fun c => ⟨by omega, by omega⟩, ?_⟩
    unfold lgt at hq
    by_cases c : k < sXM.length
    · rw [if_pos (by omega), tC_g (by rw [e68]; exact c), e68]
      rw [if_pos c] at hq
      exact hq
    · rw [if_neg (by omega)]
      rw [if_neg c] at hq
      exact hq
  · rw [if_neg (by decide), if_pos (by decide)]
    exact ⟨fun z => absurd (by decide) z, hq⟩
  · rw [if_neg (by omega), h17, if_neg (by omega), show Int.toNat (o : Int) = o from rfl, show Int.toNat (i : Int) = i from rfl]
    obtain ⟨-, m2, m3, -⟩ := hA.2 i hi
    generalize hval : (at_.getD i atD).2.1 = val at *
    obtain ⟨p, p1, p2, p3⟩ := m2.at_
    rw [m3, p1]
    refine ⟨fun _ => ⟨hdy, ⟨by omega, by rw [l8 10 (by omega) (by omega)]; omega⟩, fun c => ⟨⟨by omega, by rw [l8 9 (by omega) (by omega)]; omega⟩, ⟨by omega, by omega⟩, ⟨by omega, by omega⟩⟩⟩, ?_⟩
    unfold lgt at hq
    by_cases c : k < val.length
    · rw [if_pos (by omega), show (p : Int) + (k : Int) = ((p + k : Nat) : Int) by omega, show Int.toNat ((p + k : Nat) : Int) = p + k from rfl, hpool (p + k) (by omega), p3 k c]
      rw [if_pos c] at hq
      exact hq
    · rw [if_neg (by omega)]
      rw [if_neg c] at hq
      exact hq
/-- letters of values are characters -/
def VCh (at_ : List Att) : Prop := ∀ i, i < at_.length → ∀ c ∈ (at_.getD i atD).2.1, 0 ≤ c ∧ c ≤ 1114111
theorem MNg.ch (h : MNg at_ x s) (hv : VCh at_) : ∀ c ∈ s, 0 ≤ c ∧ c ≤ 1114111 := by
  rcases h with ⟨-, rfl⟩ | ⟨-, rfl⟩ | ⟨i, -, hi, rfl⟩
  · intro c hc
    have := ti_pos 1072 c hc
    omega
  · intro c hc; cases hc
  · exact hv i hi
theorem MNg.len (h : MNg at_ x s) (hD : KD4 L o σ bk pl ad el at_) : s.length ≤ 262144 := by
  rcases h with ⟨-, rfl⟩ | ⟨-, rfl⟩ | ⟨i, -, hi, rfl⟩
  · have := ti_len 1072
    unfold sXM
    omega
  · exact Nat.zero_le _
  · obtain ⟨hLn, hb, hE, hA, hp, hd, hal, hel, hpl, hpool⟩ := hD
    obtain ⟨lp1, lp2⟩ : 0 ≤ L (rfo o 1) ∧ L (rfo o 1) ≤ 262144 := by obtain ⟨-, -, -, -, -, -, -, -, -, -, -, -, -, -, -, -, x, -⟩ := hLn; exact x
    obtain ⟨p, p1, p2, p3⟩ := (hA.2 i hi).2.1.at_
    omega
theorem lgt_rg {k : Nat} (h : ∀ c ∈ s, 0 ≤ c ∧ c ≤ 1114111) : -1 ≤ lgt s k ∧ lgt s k ≤ 1114111 := by
  unfold lgt
  by_cases c : k < s.length
  · rw [if_pos c]; have := h _ (gD_mem c); omega
  · rw [if_neg c]; omega
theorem sp_K_cmpM (h17 : σ.1 17 1 = (o : Int)) (hD : KD4 L o σ bk pl ad el at_) (hV : VCh at_) (ha : MNg at_ x s) (hb : MNg at_ y t) (hq : ∀ v : Int, (v < 0 ↔ sbf s t = true) → (v = 0 ↔ s = t) → R v σ) : w_KWriter_compareMeanings L x y R σ := by
  have hs := ha.ch hV
  have ht := hb.ch hV
  have hls := ha.len hD
  unfold w_KWriter_compareMeanings
  by_cases c : x = y
  · rw [if_pos c]
    have e : s = t := by
      subst c
      rcases ha with ⟨a1, rfl⟩ | ⟨a1, rfl⟩ | ⟨i, a1, hi, rfl⟩ <;> rcases hb with ⟨b1, rfl⟩ | ⟨b1, rfl⟩ | ⟨j, b1, hj, rfl⟩ <;> first | rfl | (exfalso; omega) | exact congrArg (fun z => (at_.getD z atD).2.1) (by omega)
    subst e
    exact hq 0 ⟨fun z => absurd z (by decide), fun z => by rw [sbf_irr] at z; cases z⟩ ⟨fun _ => rfl, fun _ => rfl⟩
  · rw [if_neg c]
    refine WL_ind (fun k ρ => ρ = σ ∧ ∃ n : Nat, k = (n : Int) ∧ n ≤ s.length ∧ n ≤ t.length ∧ s.take n = t.take n) (fun k _ => ((s.length : Int) + 1 - k).toNat) ?_ 0 σ ⟨rfl, 0, rfl, Nat.zero_le _, Nat.zero_le _, rfl⟩
    rintro k ρ ⟨rfl, n, rfl, n1, n2, n3⟩ K hK
    try dsimp only
    refine sp_K_meant h17 hD ha rfl (sp_K_meant h17 hD hb rfl (WJ_dir ?_))
    try dsimp only
    have r1 := lgt_rg (k := n) hs
    have r2 := lgt_rg (k := n) ht
    have fin : ¬ (lgt s n = lgt t n ∧ 0 ≤ lgt s n) → w_KWriter_meant L x (n : Int) (fun v15 σ14 => w_KWriter_meant L y (n : Int) (fun v17 σ16 => inR (v15 - v17) ∧ R (v15 - v17) σ16) σ14) ρ := fun hd => by
      obtain ⟨q1, q2⟩ := cmp_lg (fun c hc => (hs c hc).1) (fun c hc => (ht c hc).1) n3 hd ⟨n1, n2⟩
      exact sp_K_meant h17 hD ha rfl (sp_K_meant h17 hD hb rfl ⟨⟨by omega, by omega⟩, hq _ q1 q2⟩)
    by_cases c1 : lgt s n = lgt t n
    · rw [if_pos c1]
      refine sp_K_meant h17 hD ha rfl ?_
      try dsimp only
      by_cases c2 : lgt s n < 0
      · rw [if_pos c2]
        exact fin (fun z => by omega)
      · rw [if_neg c2]
        obtain ⟨k1, k2, k3⟩ := lgt_tk n3 c1 (by omega)
        exact ⟨⟨by omega, by omega⟩, hK _ _ ⟨rfl, n + 1, by omega, k2, k3, k1⟩ (by omega)⟩
    · rw [if_neg c1]
      exact fin (fun z => c1 z.1)
theorem sp_kblen {n : Nat} (hBL : BL L) (hb : KBk σ bk) (hv : Kn bk x s) (hq : R (s.length : Int) σ) : w_KBook_length L x R σ := by
  obtain ⟨i, b, rfl, i1, i2, i3, i4, i5, -⟩ := hb.st hv
  obtain ⟨-, l2, l3, l4, -⟩ := hBL
  unfold w_KBook_length
  rw [show Int.toNat (i : Int) = i from rfl, i3]
  exact ⟨⟨by omega, by omega⟩, hq⟩
theorem sp_kbat {n : Nat} (hBL : BL L) (hb : KBk σ bk) (hv : Kn bk x s) (hn : n < s.length) (hy : y = (n : Int)) (hq : R (s.getD n 0) σ) : w_KBook_at L x y R σ := by
  subst hy
  obtain ⟨i, b, rfl, i1, i2, i3, i4, i5, -⟩ := hb.st hv
  obtain ⟨-, l2, l3, l4, -⟩ := hBL
  unfold w_KBook_at
  rw [show Int.toNat (i : Int) = i from rfl, i2, show (b : Int) + (n : Int) = ((b + n : Nat) : Int) by omega, show Int.toNat ((b + n : Nat) : Int) = b + n from rfl, i5 n hn]
  exact ⟨⟨by omega, by omega⟩, ⟨by omega, by omega⟩, ⟨by omega, by omega⟩, hq⟩
theorem sp_K_cmpN (h17 : dyD (σ.1 17 1)) (hBL : BL L) (hb : KBk σ bk) (hx : Kn bk x s) (hy : Kn bk y t) (hs : ∀ c ∈ s, 0 ≤ c ∧ c ≤ 1114111) (ht : ∀ c ∈ t, 0 ≤ c ∧ c ≤ 1114111) (hq : ∀ v : Int, (v < 0 ↔ sbf s t = true) → (v = 0 ↔ s = t) → R v σ) : w_KWriter_compareNames L x y R σ := by
  have l1 : s.length ≤ 170000 := by obtain ⟨i, b, -, -, -, -, i4, -⟩ := hb.st hx; omega
  have l2 : t.length ≤ 170000 := by obtain ⟨i, b, -, -, -, -, i4, -⟩ := hb.st hy; omega
  unfold w_KWriter_compareNames
  refine ⟨h17, sp_kblen (n := 0) hBL hb hx ⟨h17, sp_kblen (n := 0) hBL hb hy ?_⟩⟩
  refine WL_ind (fun k ρ => ρ = σ ∧ ∃ n : Nat, k = (n : Int) ∧ n ≤ s.length ∧ n ≤ t.length ∧ s.take n = t.take n) (fun k _ => ((s.length : Int) + 1 - k).toNat) ?_ 0 σ ⟨rfl, 0, rfl, Nat.zero_le _, Nat.zero_le _, rfl⟩
  rintro k ρ ⟨rfl, n, rfl, n1, n2, n3⟩ K hK
  try dsimp only
  by_cases c : n < s.length ∧ n < t.length
  · rw [if_pos ⟨by omega, by omega⟩]
    refine ⟨h17, sp_kbat hBL hb hx c.1 rfl ⟨h17, sp_kbat hBL hb hy c.2 rfl ?_⟩⟩
    try dsimp only
    have e1 : lgt s n = s.getD n 0 := by unfold lgt; rw [if_pos c.1]
    have e2 : lgt t n = t.getD n 0 := by unfold lgt; rw [if_pos c.2]
    have p1 := hs _ (gD_mem c.1)
    have p2 := ht _ (gD_mem c.2)
    by_cases ce : s.getD n 0 = t.getD n 0
    · rw [if_pos ce]
      obtain ⟨k1, k2, k3⟩ := lgt_tk n3 (by rw [e1, e2, ce]) (by omega)
      exact ⟨⟨by omega, by omega⟩, hK _ _ ⟨rfl, n + 1, by omega, k2, k3, k1⟩ (by omega)⟩
    · rw [if_neg ce]
      obtain ⟨q1, q2⟩ := cmp_lg (fun c hc => (hs c hc).1) (fun c hc => (ht c hc).1) n3 (fun z => ce (by rw [← e1, ← e2]; exact z.1)) ⟨n1, n2⟩
      rw [e1, e2] at q1 q2
      exact ⟨h17, sp_kbat hBL hb hx c.1 rfl ⟨h17, sp_kbat hBL hb hy c.2 rfl ⟨⟨by omega, by omega⟩, hq _ q1 q2⟩⟩⟩
  · rw [if_neg (fun z => c ⟨by omega, by omega⟩)]
    have hd : ¬ (lgt s n = lgt t n ∧ 0 ≤ lgt s n) := fun ⟨z1, z2⟩ => by
      obtain ⟨-, k2, k3⟩ := lgt_tk n3 z1 z2
      exact c ⟨by omega, by omega⟩
    obtain ⟨q1, q2⟩ := cmp_lg (fun c hc => (hs c hc).1) (fun c hc => (ht c hc).1) n3 hd ⟨n1, n2⟩
    have hw : ((s.length : Int) - (t.length : Int) < 0 ↔ lgt s n - lgt t n < 0) ∧ ((s.length : Int) - (t.length : Int) = 0 ↔ lgt s n - lgt t n = 0) := by
      unfold lgt
      by_cases c1 : n < s.length
      · have c2 : ¬ n < t.length := fun z => c ⟨c1, z⟩
        have p1 := hs _ (gD_mem c1)
        rw [if_pos c1, if_neg c2]
        omega
      · rw [if_neg c1]
        by_cases c2 : n < t.length
        · have p2 := ht _ (gD_mem c2)
          rw [if_pos c2]
          omega
        · rw [if_neg c2]
          omega
    exact ⟨⟨by omega, by omega⟩, hq _ (hw.1.trans q1) (hw.2.trans q2)⟩
end Kwd
