/-! ===== bits of a row's words ===== -/
def bt (x : Int) (i : Nat) : Bool := (Int32.ofInt x).toBitVec.getLsbD i
theorem bt_io {x y : Int} {i : Nat} : bt (io x y) i = (bt x i || bt y i) := by
  unfold bt io
  rw [Int32.ofInt_toInt, Int32.toBitVec_or, BitVec.getLsbD_or]
theorem bt_0 {i : Nat} : bt 0 i = false := by
  unfold bt
  show (0#32).getLsbD i = false
  simp
theorem bt_1 : ∀ j : Nat, j < 32 → ∀ i : Nat, i < 32 → bt (isl 1 (j : Int)) i = decide (i = j) := by decide +kernel
theorem iur_tab : ∀ i : Nat, i < 32 → ((((Int32.ofInt (i : Int)).toUInt32 &&& Int32.toUInt32 31) % 32).toBitVec.toNat = i) := by decide +kernel
theorem bt_has {x : Int} {i : Nat} (h : i < 32) : ia (iur x (i : Int)) 1 = 0 ↔ bt x i = false := by
  have ht := iur_tab i h
  unfold ia iur bt
  rw [Int32.ofInt_toInt]
  generalize ((Int32.ofInt (i : Int)).toUInt32 &&& Int32.toUInt32 31) = b at *
  generalize hu : Int32.ofInt x = u
  have h0 : ∀ z : Int32, z.toInt = 0 ↔ z.toBitVec = 0#32 := fun z => by
    constructor
    · intro q
      have : z = 0 := by rw [← Int32.ofInt_toInt z, q]; rfl
      rw [this]; rfl
    · intro q
      have : z = 0 := Int32.toBitVec_inj.mp (by rw [q]; rfl)
      rw [this]; rfl
  rw [h0, Int32.toBitVec_and]
  have e1 : (u.toUInt32 >>> b).toInt32.toBitVec = u.toBitVec >>> i := by
    show (u.toUInt32 >>> b).toBitVec = _
    rw [UInt32.toBitVec_shiftRight]
    show u.toBitVec >>> ((b % 32).toBitVec) = _
    rw [BitVec.ushiftRight_eq', ht]
  have e2 : (Int32.ofInt 1).toBitVec = 1#32 := by decide
  rw [e1, e2]
  constructor
  · intro q
    have q' := congrArg (fun w => w.getLsbD 0) q
    simpa using q'
  · intro q
    refine BitVec.eq_of_getLsbD_eq (fun j hj => ?_)
    rw [BitVec.getLsbD_and, BitVec.getLsbD_one, BitVec.getLsbD_ushiftRight]
    by_cases c : j = 0
    · rw [c, Nat.add_zero, q]; simp
    · simp [c]
theorem p_tab : ∀ p : Nat, p < 256 → ia (p : Int) 31 = ((p % 32 : Nat) : Int) ∧ isr (p : Int) 5 = ((p / 32 : Nat) : Int) := by decide +kernel
/-- whether the row l of a table of sets has p -/
def bs (σ : IS) (r l p : Nat) : Bool := bt (σ.2 r (8 * l + p / 32)) (p % 32)
/-- one row of one table of sets is another set -/
def UN (σ σ' : IS) (r l : Nat) (S : Nat → Bool) : Prop := σ'.1 = σ.1 ∧ (∀ q, q ≠ r → σ'.2 q = σ.2 q) ∧ (∀ j, ¬ (8 * l ≤ j ∧ j < 8 * l + 8) → σ'.2 r j = σ.2 r j) ∧ ∀ p, p < 256 → bs σ' r l p = S p
section Bst
variable {L : Nat → Nat} {σ τ : IS}
theorem bs_ext {r l p : Nat} (hp : p < 256) (h : ∀ j, 8 * l ≤ j → j < 8 * l + 8 → τ.2 r j = σ.2 r j) : bs τ r l p = bs σ r l p := by
  unfold bs
  rw [h _ (by omega) (by omega)]
theorem UN.oth {r l : Nat} {S : Nat → Bool} (h : UN σ τ r l S) {r' l' p : Nat} (hp : p < 256) (hne : ¬ (r' = r ∧ l' = l)) : bs τ r' l' p = bs σ r' l' p := by
  refine bs_ext hp (fun j h1 h2 => ?_)
  by_cases c : r' = r
  · rw [c]
    exact h.2.2.1 j (by omega)
  · rw [h.2.1 r' c]
theorem UN.or {r l r' l' p : Nat} (h : UN σ τ r l (fun p => bs σ r l p || bs σ r' l' p)) (hp : p < 256) : bs τ r l p = (bs σ r l p || bs σ r' l' p) := h.2.2.2 p hp
theorem sp_Model_has {Q : Int → IS → Prop} {r l p : Nat} (hp : p < 256) (hL : 8 * l + 8 ≤ L r) (h9 : L r < 1000000) (hq : Q (b1 (bs σ r l p)) σ) : w_Model_has L r (l : Int) (p : Int) Q σ := by
  obtain ⟨e1, e2⟩ := p_tab p hp
  have e3 : Int.toNat ((l : Int) * 8 + ((p / 32 : Nat) : Int)) = 8 * l + p / 32 := by omega
  unfold w_Model_has
  rw [e1, e2, e3]
  refine ⟨⟨by omega, by omega⟩, ⟨by omega, by omega⟩, ⟨by omega, by omega⟩, ?_⟩
  have e4 : (if ia (iur (σ.2 r (8 * l + p / 32)) ((p % 32 : Nat) : Int)) 1 = 0 then (0 : Int) else 1) = b1 (bs σ r l p) := by
    unfold bs
    cases hb : bt (σ.2 r (8 * l + p / 32)) (p % 32) with
    | false => rw [if_pos ((bt_has (by omega)).mpr hb)]; rfl
    | true => rw [if_neg (fun z => by rw [(bt_has (by omega)).mp z] at hb; cases hb)]; rfl
  rw [e4]
  exact hq
theorem sp_Model_unite {Q : IS → Prop} {r l r' l' : Nat} (hne : ¬ (r = r' ∧ l = l')) (hL : 8 * l + 8 ≤ L r) (hL' : 8 * l' + 8 ≤ L r') (h9 : L r < 1000000) (h9' : L r' < 1000000) (hq : ∀ σ', UN σ σ' r l (fun p => bs σ r l p || bs σ r' l' p) → Q σ') : w_Model_unite L r (l : Int) r' (l' : Int) Q σ := by
  unfold w_Model_unite
  refine WL_ind (fun s τ => ∃ i : Nat, s = (i : Int) ∧ i ≤ 8 ∧ τ.1 = σ.1 ∧ (∀ q, q ≠ r → τ.2 q = σ.2 q) ∧ ∀ j, τ.2 r j = if 8 * l ≤ j ∧ j < 8 * l + i then io (σ.2 r j) (σ.2 r' (8 * l' + (j - 8 * l))) else σ.2 r j) (fun s _ => (8 - s).toNat) ?_ 0 σ ⟨0, rfl, by omega, rfl, fun _ _ => rfl, fun j => by rw [if_neg (by omega)]⟩
  rintro _ τ ⟨i, rfl, hi, t1, t2, t3⟩ K hK
  by_cases c : i < 8
  · have e1 : Int.toNat ((l : Int) * 8 + (i : Int)) = 8 * l + i := by omega
    have e2 : Int.toNat ((l' : Int) * 8 + (i : Int)) = 8 * l' + i := by omega
    rw [if_pos (by omega), e1, e2]
    have e3 : τ.2 r (8 * l + i) = σ.2 r (8 * l + i) := by rw [t3, if_neg (by omega)]
    have e4 : τ.2 r' (8 * l' + i) = σ.2 r' (8 * l' + i) := by
      by_cases z : r' = r
      · rw [z, t3, if_neg (by omega)]
      · rw [t2 r' z]
    rw [e3, e4]
    refine ⟨⟨by omega, by omega⟩, ⟨by omega, by omega⟩, ⟨by omega, by omega⟩, ⟨by omega, by omega⟩, ⟨by omega, by omega⟩, ⟨by omega, by omega⟩, ⟨by omega, by omega⟩, ⟨by omega, by omega⟩, hK _ _ ⟨i + 1, by omega, by omega, t1, fun q hq' => ?_, fun j => ?_⟩ (by omega)⟩
    · rw [← t2 q hq']
      funext j
      rw [pr_2, if_neg (fun z => hq' z.1)]
    · rw [pr_2]
      by_cases y : j = 8 * l + i
      · rw [if_pos ⟨rfl, y⟩, if_pos ⟨by omega, by omega⟩, y, show 8 * l + i - 8 * l = i by omega]
      · rw [if_neg (fun z => y z.2), t3]
        by_cases y2 : 8 * l ≤ j ∧ j < 8 * l + i
        · rw [if_pos y2, if_pos ⟨by omega, by omega⟩]
        · rw [if_neg y2, if_neg (by omega)]
  · rw [if_neg (by omega)]
    refine hq τ ⟨t1, t2, fun j hj => by rw [t3, if_neg (by omega)], fun p hp => ?_⟩
    unfold bs
    rw [t3, if_pos ⟨by omega, by omega⟩, bt_io, show 8 * l' + (8 * l + p / 32 - 8 * l) = 8 * l' + p / 32 by omega]
/-- what may come behind what is more -/
def FA (σ σ' : IS) (n : Nat) (S : Nat → Nat → Bool) : Prop := σ'.1 = σ.1 ∧ (∀ q, q ≠ 138 → σ'.2 q = σ.2 q) ∧ ∀ p, p < n → ∀ q, q < 256 → bs σ' 138 p q = S p q
theorem FA.or {n b c p q : Nat} (h : FA σ τ n (fun p q => bs σ 138 p q || (bs σ 140 b p && bs σ 139 c q))) (hp : p < n) (hq : q < 256) : bs τ 138 p q = (bs σ 138 p q || (bs σ 140 b p && bs σ 139 c q)) := h.2.2 p hp q hq
theorem sp_Model_followAll {Q : IS → Prop} {b c n : Nat} (hn : σ.1 9 3 = (n : Int)) (h256 : n ≤ 256) (hb : 8 * b + 8 ≤ L 140) (hc : 8 * c + 8 ≤ L 139) (h8 : 8 * n ≤ L 138) (h9 : L 138 < 1000000 ∧ L 139 < 1000000 ∧ L 140 < 1000000) (hq : ∀ σ', FA σ σ' n (fun p q => bs σ 138 p q || (bs σ 140 b p && bs σ 139 c q)) → Q σ') : w_Model_followAll L (b : Int) (c : Int) Q σ := by
  unfold w_Model_followAll
  refine WL_ind (fun s τ => ∃ i : Nat, s = (i : Int) ∧ i ≤ n ∧ τ.1 = σ.1 ∧ (∀ q, q ≠ 138 → τ.2 q = σ.2 q) ∧ (∀ p, p < i → ∀ q, q < 256 → bs τ 138 p q = (bs σ 138 p q || (bs σ 140 b p && bs σ 139 c q))) ∧ ∀ j, 8 * i ≤ j → τ.2 138 j = σ.2 138 j) (fun s _ => (n - s).toNat) ?_ 0 σ ⟨0, rfl, Nat.zero_le _, rfl, fun _ _ => rfl, fun p hp => by omega, fun _ _ => rfl⟩
  rintro _ τ ⟨i, rfl, hi, t1, t2, t3, t4⟩ K hK
  rw [show τ.1 9 3 = (n : Int) by rw [t1]; exact hn]
  by_cases ci : i < n
  · rw [if_pos (by omega)]
    refine sp_Model_has (by omega) hb h9.2.2 (WJ_dir ?_)
    have e0 : bs τ 140 b i = bs σ 140 b i := bs_ext (by omega) (fun j _ _ => by rw [t2 140 (by decide)])
    have e1 : ∀ q, q < 256 → bs τ 138 i q = bs σ 138 i q := fun q hq' => bs_ext hq' (fun j h1 _ => t4 j h1)
    have e2 : ∀ q, q < 256 → bs τ 139 c q = bs σ 139 c q := fun q hq' => bs_ext hq' (fun j _ _ => by rw [t2 139 (by decide)])
    rw [e0]
    cases hbit : bs σ 140 b i with
    | false =>
      rw [if_pos (by decide)]
      refine ⟨⟨by omega, by omega⟩, hK _ _ ⟨i + 1, rfl, by omega, t1, t2, fun p hp q hq' => ?_, fun j hj => t4 j (by omega)⟩ (by omega)⟩
      by_cases y : p = i
      · rw [y, e1 q hq', hbit]; simp
      · exact t3 p (by omega) q hq'
    | true =>
      rw [if_neg (by decide)]
      refine sp_Model_unite (by omega) (by omega) hc h9.1 h9.2.1 (fun τ' hU => ⟨⟨by omega, by omega⟩, hK _ _ ⟨i + 1, rfl, by omega, hU.1.trans t1, fun q hq' => (hU.2.1 q hq').trans (t2 q hq'), fun p hp q hq' => ?_, fun j hj => ?_⟩ (by omega)⟩)
      · by_cases y : p = i
        · rw [y, hU.or hq', e1 q hq', e2 q hq', hbit]; simp
        · rw [hU.oth hq' (by omega)]
          exact t3 p (by omega) q hq'
      · rw [hU.2.2.1 j (by omega)]
        exact t4 j (by omega)
  · rw [if_neg (by omega)]
    have ei : i = n := by omega
    rw [ei] at t3
    exact hq τ ⟨t1, t2, t3⟩
end Bst
