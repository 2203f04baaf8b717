/-! ===== bytes: numbers of them ===== -/
theorem bits_6 (x y : Nat) (hx : x < 1000000) (hy : y < 64) : ((Int32.ofInt ((Int32.ofInt (x : Int) <<< (Int32.ofInt 6 &&& 31)).toInt)) ||| Int32.ofInt (y : Int)).toInt = (x : Int) * 64 + (y : Int) := by
  rw [Int32.ofInt_toInt]
  have h6 : (Int32.ofInt 6 &&& 31) = 6 := by decide
  rw [h6]
  have hx' : (Int32.ofInt (x : Int)).toBitVec.toNat = x := by
    show (BitVec.ofInt 32 (x : Int)).toNat = x
    rw [BitVec.ofInt_natCast, BitVec.toNat_ofNat]
    omega
  have hy' : (Int32.ofInt (y : Int)).toBitVec.toNat = y := by
    show (BitVec.ofInt 32 (y : Int)).toNat = y
    rw [BitVec.ofInt_natCast, BitVec.toNat_ofNat]
    omega
  have hs : ((Int32.ofInt (x : Int)) <<< (6 : Int32)).toBitVec.toNat = x * 64 := by
    have : ((Int32.ofInt (x : Int)) <<< (6 : Int32)).toBitVec = (Int32.ofInt (x : Int)).toBitVec <<< 6 := by
      rw [Int32.toBitVec_shiftLeft]
      rfl
    rw [this, BitVec.toNat_shiftLeft, hx', Nat.shiftLeft_eq]
    omega
  have hn : ((Int32.ofInt (x : Int) <<< (6 : Int32)) ||| Int32.ofInt (y : Int)).toBitVec.toNat = x * 64 + y := by
    rw [Int32.toBitVec_or, BitVec.toNat_or, hs, hy']
    have := Nat.shiftLeft_add_eq_or_of_lt (i := 6) (b := y) (by omega) x
    rw [Nat.shiftLeft_eq] at this
    exact this.symm
  show (((Int32.ofInt (x : Int) <<< (6 : Int32)) ||| Int32.ofInt (y : Int)).toBitVec).toInt = _
  rw [BitVec.toInt_eq_toNat_of_lt (by rw [hn]; omega), hn]
  omega
theorem bits_8 (x y : Nat) (hx : x < 100000) (hy : y < 256) : ((Int32.ofInt ((Int32.ofInt (x : Int) <<< (Int32.ofInt 8 &&& 31)).toInt)) ||| Int32.ofInt (y : Int)).toInt = (x : Int) * 256 + (y : Int) := by
  rw [Int32.ofInt_toInt]
  have h6 : (Int32.ofInt 8 &&& 31) = 8 := by decide
  rw [h6]
  have hx' : (Int32.ofInt (x : Int)).toBitVec.toNat = x := by
    show (BitVec.ofInt 32 (x : Int)).toNat = x
    rw [BitVec.ofInt_natCast, BitVec.toNat_ofNat]
    omega
  have hy' : (Int32.ofInt (y : Int)).toBitVec.toNat = y := by
    show (BitVec.ofInt 32 (y : Int)).toNat = y
    rw [BitVec.ofInt_natCast, BitVec.toNat_ofNat]
    omega
  have hs : ((Int32.ofInt (x : Int)) <<< (8 : Int32)).toBitVec.toNat = x * 256 := by
    have : ((Int32.ofInt (x : Int)) <<< (8 : Int32)).toBitVec = (Int32.ofInt (x : Int)).toBitVec <<< 8 := by
      rw [Int32.toBitVec_shiftLeft]
      rfl
    rw [this, BitVec.toNat_shiftLeft, hx', Nat.shiftLeft_eq]
    omega
  have hn : ((Int32.ofInt (x : Int) <<< (8 : Int32)) ||| Int32.ofInt (y : Int)).toBitVec.toNat = x * 256 + y := by
    rw [Int32.toBitVec_or, BitVec.toNat_or, hs, hy']
    have := Nat.shiftLeft_add_eq_or_of_lt (i := 8) (b := y) (by omega) x
    rw [Nat.shiftLeft_eq] at this
    exact this.symm
  show (((Int32.ofInt (x : Int) <<< (8 : Int32)) ||| Int32.ofInt (y : Int)).toBitVec).toInt = _
  rw [BitVec.toInt_eq_toNat_of_lt (by rw [hn]; omega), hn]
  omega
theorem byt_tab : ∀ b : Nat, b < 256 → ((ia (b : Int) 192 = 128 ↔ 128 ≤ b ∧ b ≤ 191) ∧ (128 ≤ b → b ≤ 191 → ia (b : Int) 63 = (b : Int) - 128) ∧ ia (b : Int) 31 ≤ 31 ∧ 0 ≤ ia (b : Int) 31 ∧ ia (b : Int) 15 ≤ 15 ∧ 0 ≤ ia (b : Int) 15 ∧ ia (b : Int) 7 ≤ 7 ∧ 0 ≤ ia (b : Int) 7) := by decide +kernel
theorem byt_rg (x : Int) : 0 ≤ ia x 255 ∧ ia x 255 ≤ 255 := by
  unfold ia
  have hn : (Int32.ofInt x &&& Int32.ofInt 255).toBitVec.toNat ≤ 255 := by
    rw [Int32.toBitVec_and, BitVec.toNat_and]
    exact Nat.le_trans Nat.and_le_right (by decide)
  have : (Int32.ofInt x &&& Int32.ofInt 255).toInt = ((Int32.ofInt x &&& Int32.ofInt 255).toBitVec).toInt := rfl
  rw [this, BitVec.toInt_eq_toNat_of_lt (by omega)]
  omega
/-- how many bytes more -/
def lb (c : Int) : Nat := if c < 128 then 0 else if c < 224 then 1 else if c < 240 then 2 else 3
def lst8 (t : Nat) : Int := if t = 0 then 0 else if t = 1 then 128 else if t = 2 then 2048 else 65536
def cod (B : Nat → Int) (i : Nat) (x : Int) : Nat → Int
  | 0 => x
  | k + 1 => cod B i x k * 64 + (B (i + k + 1) - 128)
def cod0 (c : Int) (t : Nat) : Int := if t = 0 then c else ia c (if t = 1 then 31 else if t = 2 then 15 else 7)
/-- what follows a byte are bytes of the same character -/
def cnt8 (B : Nat → Int) (i t : Nat) : Bool := (List.range t).all (fun k => decide (128 ≤ B (i + k + 1)) && decide (B (i + k + 1) ≤ 191))
/-- one character, and how many bytes -/
def u8 (B : Nat → Int) (n i : Nat) : Option (Int × Nat) := if (B i < 128 ∨ (192 ≤ B i ∧ B i < 248)) ∧ i + lb (B i) < n ∧ cnt8 B i (lb (B i)) = true ∧ lst8 (lb (B i)) ≤ cod B i (cod0 (B i) (lb (B i))) (lb (B i)) ∧ isCh (cod B i (cod0 (B i) (lb (B i))) (lb (B i))) = true then some (cod B i (cod0 (B i) (lb (B i))) (lb (B i)), lb (B i) + 1) else none
/-- a pair of bytes -/
def pr16 (B : Nat → Int) (be : Bool) (i : Nat) : Int := if be = true then B i * 256 + B (i + 1) else B (i + 1) * 256 + B i
def u16 (B : Nat → Int) (be : Bool) (n i : Nat) : Option (Int × Nat) := if i + 1 < n then (if (55296 ≤ pr16 B be i ∧ pr16 B be i ≤ 56319) ∧ i + 3 < n ∧ (56320 ≤ pr16 B be (i + 2) ∧ pr16 B be (i + 2) ≤ 57343) then (if isCh (65536 + 1024 * (pr16 B be i - 55296) + pr16 B be (i + 2) - 56320) = true then some (65536 + 1024 * (pr16 B be i - 55296) + pr16 B be (i + 2) - 56320, 4) else none) else if isCh (pr16 B be i) = true then some (pr16 B be i, 2) else none) else none
/-- the characters from i on, or where they are wrong -/
def dcd (u : Nat → Option (Int × Nat)) (n : Nat) : Nat → Nat → Nat ⊕ List Int
  | 0, i => .inl i
  | m + 1, i => if n ≤ i then .inr [] else match u i with
    | none => .inl i
    | some (c, k) => match dcd u n m (i + k) with
      | .inl p => .inl p
      | .inr w => .inr (c :: w)
/-- line ends -/
def nlc (s : List Int × Bool) (c : Int) : List Int × Bool := (if c = 10 ∧ s.2 = true then s.1 else s.1 ++ [if c = 13 then 10 else c], decide (c = 13))
def nle (w : List Int) : List Int := (w.foldl nlc ([], false)).1
section Byt
theorem dcd_fuel {u : Nat → Option (Int × Nat)} {n : Nat} (hu : ∀ i c k, u i = some (c, k) → 1 ≤ k ∧ i + k ≤ n) : ∀ (m m' i : Nat), i ≤ n → n < m + i → n < m' + i → dcd u n m i = dcd u n m' i := by
  intro m
  induction m with
  | zero => intro m' i h0 h1 h2; omega
  | succ m ih =>
    intro m' i h0 h1 h2
    cases m' with
    | zero => omega
    | succ m' =>
      show (if n ≤ i then (.inr [] : Nat ⊕ List Int) else match u i with
        | none => .inl i
        | some (c, k) => match dcd u n m (i + k) with
          | .inl p => .inl p
          | .inr w => .inr (c :: w)) = (if n ≤ i then (.inr [] : Nat ⊕ List Int) else match u i with
        | none => .inl i
        | some (c, k) => match dcd u n m' (i + k) with
          | .inl p => .inl p
          | .inr w => .inr (c :: w))
      by_cases c1 : n ≤ i
      · rw [if_pos c1, if_pos c1]
      · rw [if_neg c1, if_neg c1]
        cases hui : u i with
        | none => rfl
        | some r =>
          obtain ⟨c, k⟩ := r
          dsimp only
          have := hu i c k hui
          rw [ih m' (i + k) (by omega) (by omega) (by omega)]
theorem nlc_len {s : List Int × Bool} {c : Int} : (nlc s c).1.length ≤ s.1.length + 1 := by
  unfold nlc
  dsimp only
  split
  · omega
  · rw [List.length_append, List.length_singleton]; exact Nat.le_refl _
theorem nle_len : ∀ (w : List Int) (s : List Int × Bool), (w.foldl nlc s).1.length ≤ s.1.length + w.length := by
  intro w
  induction w with
  | nil => intro s; exact Nat.le_refl _
  | cons c r ih =>
    intro s
    have h1 := ih (nlc s c)
    have h2 := nlc_len (s := s) (c := c)
    rw [List.foldl_cons, List.length_cons]
    omega
end Byt
/-- the text so far, in the class's store -/
def LD (σ0 : IS) (bg rm : Nat) (s : List Int × Bool) (ρ : IS) : Prop := (∀ o k, ¬ (o = 1 ∧ (k = 3 ∨ k = 4 ∨ k = 6)) → ρ.1 o k = σ0.1 o k) ∧ (∀ r, r ≠ 101 → ρ.2 r = σ0.2 r) ∧ (∀ i, i < bg ∨ bg + min s.1.length rm ≤ i → ρ.2 101 i = σ0.2 101 i) ∧ (ρ.1 1 3 = ((bg + min s.1.length rm : Nat) : Int) ∧ ρ.1 1 4 = (s.1.length : Int) ∧ ρ.1 1 6 = if s.2 = true then 1 else 0) ∧ (∀ i, i < min s.1.length rm → ρ.2 101 (bg + i) = gd s.1 i) ∧ ∀ c ∈ s.1, isCh c = true
section JLd
variable {L : Nat → Nat} {σ0 ρ : IS} {bg rm : Nat} {s : List Int × Bool} {Q : IS → Prop}
theorem sp_addText {c : Int} (h : LD σ0 bg rm s ρ) (hch : isCh c = true) (hrm : σ0.1 1 0 = (rm : Int)) (hL : bg + rm < L 101) (h9 : L 101 < 1000000) (hlen : s.1.length ≤ 200000) (hq : ∀ ρ', LD σ0 bg rm (nlc s c) ρ' → Q ρ') : w_Store_addToText L c Q ρ := by
  obtain ⟨h1, h2, h3, ⟨h4, h5, h6⟩, h7, h8⟩ := h
  have e10 : ρ.1 1 0 = (rm : Int) := by rw [h1 1 0 (by omega)]; exact hrm
  have e6 : ρ.1 1 6 = 0 ↔ s.2 = false := by
    rw [h6]
    cases s.2 <;> simp
  have e13 : (if c = 13 then (1 : Int) else 0) = if decide (c = 13) = true then 1 else 0 := by
    by_cases z : c = 13
    · rw [if_pos z, if_pos (by simpa using z)]
    · rw [if_neg z, if_neg (by simpa using z)]
  unfold w_Store_addToText
  refine WJ_dir ?_
  dsimp only
  by_cases cs : c = 10 ∧ s.2 = true
  · rw [if_neg (fun z => by
      rcases z with z | z
      · exact z cs.1
      · have := e6.mp z; rw [cs.2] at this; cases this)]
    refine hq _ ?_
    have e1 : nlc s c = (s.1, decide (c = 13)) := by unfold nlc; rw [if_pos cs]
    rw [e1]
    refine ⟨fun o k hk => by rw [pf_1, if_neg (by omega)]; exact h1 o k hk, h2, h3, ⟨by rw [pf_nk (by decide)]; exact h4, by rw [pf_nk (by decide)]; exact h5, by rw [pf_eq]; exact e13⟩, h7, h8⟩
  · have hemit : ¬ c = 10 ∨ ρ.1 1 6 = 0 := by
      by_cases z : c = 10
      · right
        refine e6.mpr ?_
        cases hs : s.2 with
        | true => exact absurd ⟨z, hs⟩ cs
        | false => rfl
      · exact Or.inl z
    rw [if_pos hemit]
    refine WJ_dir ?_
    dsimp only
    have e1 : nlc s c = (s.1 ++ [if c = 13 then 10 else c], decide (c = 13)) := by unfold nlc; rw [if_neg cs]
    rw [e1] at hq
    have h9' : ∀ c1 ∈ s.1 ++ [if c = 13 then (10 : Int) else c], isCh c1 = true := fun c1 h => by
      rcases List.mem_append.mp h with z | z
      · exact h8 c1 z
      · rw [List.mem_singleton.mp z]
        by_cases y : c = 13
        · rw [if_pos y]; decide
        · rw [if_neg y]; exact hch
    generalize hc' : (if c = 13 then (10 : Int) else c) = c' at *
    rw [h5, e10]
    have hl1 : (s.1 ++ [c']).length = s.1.length + 1 := by rw [List.length_append, List.length_singleton]
    by_cases cl : s.1.length < rm
    · rw [if_pos (by omega)]
      have hmin : min s.1.length rm = s.1.length := by omega
      have hmin2 : min (s.1.length + 1) rm = s.1.length + 1 := by omega
      rw [hmin] at h3 h4 h7
      unfold w_Store_add
      refine WJ_dir ?_
      dsimp only
      rw [h4, if_pos (by omega), show Int.toNat ((bg + s.1.length : Nat) : Int) = bg + s.1.length by omega]
      refine ⟨⟨by omega, by omega⟩, ⟨by omega, by omega⟩, ?_⟩
      have e14 : (pf (pr ρ 101 (bg + s.1.length) c') 1 3 (((bg + s.1.length : Nat) : Int) + 1)).1 1 4 = (s.1.length : Int) := by rw [pf_nk (by decide), pr_1]; exact h5
      rw [e14]
      refine ⟨⟨by omega, by omega⟩, hq _ ⟨fun o k hk => ?_, fun r hr => ?_, fun i hi => ?_, ⟨?_, ?_, ?_⟩, fun i hi => ?_, h9'⟩⟩
      · rw [pf_1, if_neg (by omega), pf_1, if_neg (by omega), pf_1, if_neg (by omega), pr_1]; exact h1 o k hk
      · rw [pf_2, pf_2, pf_2]; funext j; rw [pr_2, if_neg (fun z => hr z.1), h2 r hr]
      · dsimp only at hi
        rw [hl1, hmin2] at hi
        rw [pf_2, pf_2, pf_2, pr_2, if_neg (by omega)]
        exact h3 i (by omega)
      · dsimp only
        rw [hl1, hmin2, pf_nk (by decide), pf_nk (by decide), pf_eq]
        omega
      · dsimp only
        rw [hl1, pf_nk (by decide), pf_eq]
        omega
      · rw [pf_eq]; exact e13
      · dsimp only at hi ⊢
        rw [hl1, hmin2] at hi
        rw [pf_2, pf_2, pf_2, pr_2]
        unfold gd
        rw [getD_snoc]
        by_cases ci : i = s.1.length
        · rw [if_pos ⟨rfl, by omega⟩, if_neg (by omega), if_pos ci]
        · rw [if_neg (by omega), if_pos (by omega)]
          exact h7 i (by omega)
    · rw [if_neg (by omega)]
      have hmin : min s.1.length rm = rm := by omega
      have hmin2 : min (s.1.length + 1) rm = rm := by omega
      rw [hmin] at h3 h4 h7
      refine ⟨⟨by omega, by omega⟩, hq _ ⟨fun o k hk => ?_, fun r hr => ?_, fun i hi => ?_, ⟨?_, ?_, ?_⟩, fun i hi => ?_, h9'⟩⟩
      · rw [pf_1, if_neg (by omega), pf_1, if_neg (by omega)]; exact h1 o k hk
      · exact h2 r hr
      · dsimp only at hi
        rw [hl1, hmin2] at hi
        exact h3 i hi
      · dsimp only
        rw [hl1, hmin2, pf_nk (by decide), pf_nk (by decide)]
        exact h4
      · dsimp only
        rw [hl1, pf_nk (by decide), pf_eq]
        omega
      · rw [pf_eq]; exact e13
      · dsimp only at hi ⊢
        rw [hl1, hmin2] at hi
        show ρ.2 101 (bg + i) = _
        unfold gd
        rw [getD_snoc, if_pos (by omega)]
        exact h7 i hi
end JLd
