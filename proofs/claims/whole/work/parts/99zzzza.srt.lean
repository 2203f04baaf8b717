/-! ===== the class sorts ===== -/
/-- a row after two places are exchanged -/
def sw (g : Nat → Nat) (i j : Nat) : Nat → Nat := fun k => if k = j then g i else if k = i then g j else g k
def inj (n : Nat) (g : Nat → Nat) : Prop := ∀ i j, i < n → j < n → g i = g j → i = j
/-- the first n places exchanged among each other -/
def PM (n : Nat) (g h : Nat → Nat) : Prop := (∀ p, p < n → ∃ q, q < n ∧ h p = g q) ∧ (∀ q, q < n → ∃ p, p < n ∧ h p = g q) ∧ (inj n g → inj n h) ∧ ∀ p, n ≤ p → h p = g p
/-- in heap order from lo on -/
def HP (k : Nat → Key) (lo n : Nat) (g : Nat → Nat) : Prop := ∀ i c, lo ≤ i → (c = 2 * i + 1 ∨ c = 2 * i + 2) → c < n → klt (k (g i)) (k (g c)) = false
section Srt
variable {n m : Nat} {g h u : Nat → Nat} {k : Nat → Key}
theorem PM.refl : PM n g g := ⟨fun p hp => ⟨p, hp, rfl⟩, fun p hp => ⟨p, hp, rfl⟩, id, fun _ _ => rfl⟩
theorem PM.trans (h1 : PM n g h) (h2 : PM n h u) : PM n g u := by
  refine ⟨fun p hp => ?_, fun q hq => ?_, fun z => h2.2.2.1 (h1.2.2.1 z), fun p hp => (h2.2.2.2 p hp).trans (h1.2.2.2 p hp)⟩
  · obtain ⟨q, a, b⟩ := h2.1 p hp
    obtain ⟨r, c, d⟩ := h1.1 q a
    exact ⟨r, c, b.trans d⟩
  · obtain ⟨p, a, b⟩ := h1.2.1 q hq
    obtain ⟨r, c, d⟩ := h2.2.1 p a
    exact ⟨r, c, d.trans b⟩
theorem PM.mono (h1 : PM m g h) (hm : m ≤ n) : PM n g h := by
  have fr := h1.2.2.2
  refine ⟨fun p hp => ?_, fun q hq => ?_, fun z i j hi hj e => ?_, fun p hp => fr p (by omega)⟩
  · by_cases c : p < m
    · obtain ⟨q, a, b⟩ := h1.1 p c
      exact ⟨q, by omega, b⟩
    · exact ⟨p, hp, fr p (by omega)⟩
  · by_cases c : q < m
    · obtain ⟨p, a, b⟩ := h1.2.1 q c
      exact ⟨p, by omega, b⟩
    · exact ⟨q, hq, fr q (by omega)⟩
  · by_cases c : i < m
    · by_cases d : j < m
      · exact h1.2.2.1 (fun a b ha hb => z a b (by omega) (by omega)) i j c d e
      · obtain ⟨q, a, b⟩ := h1.1 i c
        rw [b, fr j (by omega)] at e
        have := z q j (by omega) hj e
        omega
    · by_cases d : j < m
      · obtain ⟨q, a, b⟩ := h1.1 j d
        rw [b, fr i (by omega)] at e
        have := z i q hi (by omega) e
        omega
      · rw [fr i (by omega), fr j (by omega)] at e
        exact z i j hi hj e
theorem sw_i {i j p : Nat} : sw g i j p = if p = j then g i else if p = i then g j else g p := rfl
theorem PM.swp {i j : Nat} (hi : i < n) (hj : j < n) : PM n g (sw g i j) := by
  have e : ∀ p, ∃ q, (p < n → q < n) ∧ (n ≤ p → q = p) ∧ sw g i j p = g q ∧ sw g i j q = g p ∧ (p = j → q = i) ∧ (p = i → q = j) ∧ (p ≠ i → p ≠ j → q = p) := fun p => by
    by_cases c : p = j
    · refine ⟨i, fun _ => hi, fun z => by omega, by rw [sw_i, if_pos c], ?_, fun _ => rfl, fun z => by omega, fun _ z => absurd c z⟩
      by_cases d : i = j
      · rw [sw_i, if_pos d, c, d]
      · rw [sw_i, if_neg d, if_pos rfl, c]
    · by_cases d : p = i
      · exact ⟨j, fun _ => hj, fun z => by omega, by rw [sw_i, if_neg c, if_pos d], by rw [sw_i, if_pos rfl, d], fun z => absurd z c, fun _ => rfl, fun z => absurd d z⟩
      · exact ⟨p, id, fun _ => rfl, by rw [sw_i, if_neg c, if_neg d], by rw [sw_i, if_neg c, if_neg d], fun z => absurd z c, fun z => absurd z d, fun _ _ => rfl⟩
  refine ⟨fun p hp => ?_, fun p hp => ?_, fun z a b ha hb he => ?_, fun p hp => ?_⟩
  · obtain ⟨q, q1, -, q2, -⟩ := e p
    exact ⟨q, q1 hp, q2⟩
  · obtain ⟨q, q1, -, -, q2, -⟩ := e p
    exact ⟨q, q1 hp, q2⟩
  · obtain ⟨q, q1, -, q2, -, q3, q4, q5⟩ := e a
    obtain ⟨r, r1, -, r2, -, r3, r4, r5⟩ := e b
    rw [q2, r2] at he
    have := z q r (q1 ha) (r1 hb) he
    omega
  · obtain ⟨q, -, q1, q2, -⟩ := e p
    rw [q2, q1 hp]
/-- the first is the largest -/
theorem HP.top (h1 : HP k 0 n g) : ∀ p, p < n → klt (k (g 0)) (k (g p)) = false := by
  intro p
  induction p using Nat.strongRecOn with
  | ind p ih =>
    intro hp
    by_cases c : p = 0
    · rw [c]; exact klt_irr
    · exact kle_tr (h1 ((p - 1) / 2) p (Nat.zero_le _) (by omega) hp) (ih ((p - 1) / 2) (by omega) (by omega))
end Srt
/-- only the row of order has changed -/
def OX (σ τ : IS) : Prop := τ.1 = σ.1 ∧ ∀ r, r ≠ 164 → τ.2 r = σ.2 r
/-- the order -/
def OR (τ : IS) (n : Nat) (g : Nat → Nat) : Prop := ∀ i, i < n → τ.2 164 i = (g i : Int)
section Sor
variable {L : Nat → Nat} {σ τ υ : IS} {n N : Nat} {g : Nat → Nat} {k : Nat → Key} {Q : IS → Prop}
theorem OX.refl : OX σ σ := ⟨rfl, fun _ _ => rfl⟩
theorem OX.trans (h1 : OX σ τ) (h2 : OX τ υ) : OX σ υ := ⟨h2.1.trans h1.1, fun r a => (h2.2 r a).trans (h1.2 r a)⟩
theorem sp_Writer_swap {i j : Nat} (hn : n ≤ L 164) (hi : i < n) (hj : j < n) (h : OR σ n g) (hq : ∀ τ, OX σ τ → OR τ n (sw g i j) → Q τ) : w_Writer_swap L (i : Int) (j : Int) Q σ := by
  unfold w_Writer_swap
  rw [show Int.toNat (i : Int) = i from rfl, show Int.toNat (j : Int) = j from rfl, h i hi, h j hj]
  refine ⟨⟨by omega, by omega⟩, ⟨by omega, by omega⟩, ⟨by omega, by omega⟩, ⟨by omega, by omega⟩, hq _ ⟨rfl, fun r hr => ?_⟩ (fun p hp => ?_)⟩
  · funext q
    rw [pr_2, if_neg (fun z => hr z.1), pr_2, if_neg (fun z => hr z.1)]
  · rw [pr_2, pr_2, sw_i]
    by_cases c : p = j
    · rw [if_pos ⟨rfl, c⟩, if_pos c]
    · rw [if_neg (fun z => c z.2), if_neg c]
      by_cases d : p = i
      · rw [if_pos ⟨rfl, d⟩, if_pos d]
      · rw [if_neg (fun z => d z.2), if_neg d]
        exact h p hp
/-- what the comparisons answer -/
def OB (L : Nat → Nat) (σ : IS) (N : Nat) (k : Nat → Key) : Prop := ∀ τ, OX σ τ → ∀ a b, a < N → b < N → ∀ Q : Int → IS → Prop, Q (b1 (klt (k a) (k b))) τ → w_Writer_isBefore L (a : Int) (b : Int) Q τ
theorem OB.mv (h : OB L σ N k) (hx : OX σ τ) : OB L τ N k := fun υ hu a b ha hb Q hq => h υ (hx.trans hu) a b ha hb Q hq
theorem sp_Writer_sink {m from_ : Nat} (hn : n ≤ L 164) (hn2 : n < 1000000) (hm : m ≤ n) (hf : from_ < n) (hB : OB L σ N k) (h : OR σ n g) (hN : ∀ i, i < n → g i < N) (hh : HP k (from_ + 1) m g) (hq : ∀ τ g', OX σ τ → OR τ n g' → PM m g g' → (∀ p, p < from_ → g' p = g p) → HP k from_ m g' → Q τ) : w_Writer_sink L (from_ : Int) (m : Int) Q σ := by
  unfold w_Writer_sink
  refine WL_ind (fun (s : Int × Int) τ => ∃ (at_ t : Nat) (g' : Nat → Nat), s = ((at_ : Int), (t : Int)) ∧ (from_ + t ≤ at_ ∧ at_ < n) ∧ OX σ τ ∧ OR τ n g' ∧ (PM m g g' ∧ (∀ p, p < from_ → g' p = g p)) ∧ (∀ i, i < n → g' i < N) ∧ (∀ i c, from_ ≤ i → i ≠ at_ → (c = 2 * i + 1 ∨ c = 2 * i + 2) → c < m → klt (k (g' i)) (k (g' c)) = false) ∧ (∀ p c, from_ ≤ p → (at_ = 2 * p + 1 ∨ at_ = 2 * p + 2) → (c = 2 * at_ + 1 ∨ c = 2 * at_ + 2) → c < m → klt (k (g' p)) (k (g' c)) = false)) (fun s _ => (n - s.1).toNat) ?_ _ σ ⟨from_, 0, g, rfl, ⟨by omega, hf⟩, OX.refl, h, ⟨PM.refl, fun _ _ => rfl⟩, hN, fun i c h1 h2 h3 h4 => hh i c (by omega) h3 h4, fun p c h1 h2 h3 h4 => by omega⟩
  rintro _ τ ⟨at_, t, g', rfl, ⟨h1, h2⟩, q1, q2, ⟨q3, q4⟩, q5, q6, q7⟩ K hK
  dsimp only at hK ⊢
  refine ⟨fun _ => ⟨⟨by omega, by omega⟩, ⟨by omega, by omega⟩⟩, ?_⟩
  by_cases c : 2 * at_ + 1 < m
  · rw [if_pos ⟨by omega, by omega⟩]
    refine ⟨⟨by omega, by omega⟩, ⟨by omega, by omega⟩, ⟨by omega, by omega⟩, ?_⟩
    refine WJ_of (fun s τ' => τ' = τ ∧ ∃ b : Nat, s = (b : Int) ∧ (b = 2 * at_ + 1 ∨ b = 2 * at_ + 2) ∧ b < m ∧ ∀ c', (c' = 2 * at_ + 1 ∨ c' = 2 * at_ + 2) → c' < m → klt (k (g' b)) (k (g' c')) = false) ?_ ?_
    rotate_left
    · rintro _ _ ⟨rfl, b, rfl, b1', b2, b3⟩
      rw [show Int.toNat (at_ : Int) = at_ from rfl, show Int.toNat (b : Int) = b from rfl, q2 at_ h2, q2 b (by omega)]
      refine ⟨⟨by omega, by omega⟩, ⟨by omega, by omega⟩, hB _ q1 _ _ (q5 _ h2) (q5 _ (by omega)) _ ?_⟩
      cases hc : klt (k (g' at_)) (k (g' b)) with
      | false =>
        rw [show b1 false = 0 from rfl, if_pos rfl]
        refine hq _ g' q1 q2 q3 q4 (fun i c' y1 y2 y3 => ?_)
        by_cases y : i = at_
        · rw [y]
          exact kle_tr (b3 c' (by omega) y3) hc
        · exact q6 i c' y1 y y2 y3
      | true =>
        rw [show b1 true = 1 from rfl, if_neg (by decide)]
        have hle := kle_of hc
        refine sp_Writer_swap hn h2 (by omega) q2 (fun τ' x1 x2 => ⟨⟨by omega, by omega⟩, hK _ _ ⟨b, t + 1, sw g' at_ b, rfl, ⟨by omega, by omega⟩, q1.trans x1, x2, ⟨q3.trans (PM.swp (by omega) b2), fun p hp => ?_⟩, fun i hi => ?_, fun i c' y1 y2 y3 y4 => ?_, fun p c' y1 y2 y3 y4 => ?_⟩ (by dsimp only; omega)⟩)
        · rw [sw_i, if_neg (by omega), if_neg (by omega)]
          exact q4 p hp
        · rw [sw_i]
          by_cases z : i = b
          · rw [if_pos z]; exact q5 _ h2
          · rw [if_neg z]
            by_cases z' : i = at_
            · rw [if_pos z']; exact q5 _ (by omega)
            · rw [if_neg z']; exact q5 _ hi
        · rw [sw_i, sw_i, if_neg y2]
          by_cases z : i = at_
          · rw [if_pos z]
            by_cases z' : c' = b
            · rw [if_pos z']; exact hle
            · rw [if_neg z', if_neg (by omega)]
              exact b3 c' (by omega) y4
          · rw [if_neg z]
            by_cases z' : c' = b
            · omega
            · rw [if_neg z']
              by_cases z2 : c' = at_
              · rw [if_pos z2]
                exact q7 i b y1 (by omega) b1' b2
              · rw [if_neg z2]
                exact q6 i c' y1 z y3 y4
        · have : p = at_ := by omega
          rw [sw_i, sw_i, if_neg (by omega), if_pos this, if_neg (by omega), if_neg (by omega)]
          exact q6 b c' (by omega) (by omega) y3 y4
    · intro J hJ
      rw [show (2 * (at_ : Int)) + 1 = ((2 * at_ + 1 : Nat) : Int) by omega, show ((2 * at_ + 1 : Nat) : Int) + 1 = ((2 * at_ + 2 : Nat) : Int) by omega]
      by_cases d : 2 * at_ + 2 < m
      · rw [if_pos (by omega), show Int.toNat ((2 * at_ + 1 : Nat) : Int) = 2 * at_ + 1 from rfl, show Int.toNat ((2 * at_ + 2 : Nat) : Int) = 2 * at_ + 2 from rfl, q2 _ (show 2 * at_ + 1 < n by omega), q2 _ (show 2 * at_ + 2 < n by omega)]
        refine ⟨⟨by omega, by omega⟩, ⟨by omega, by omega⟩, ⟨by omega, by omega⟩, hB _ q1 _ _ (q5 _ (by omega)) (q5 _ (by omega)) _ ?_⟩
        cases hc : klt (k (g' (2 * at_ + 1))) (k (g' (2 * at_ + 2))) with
        | false =>
          rw [show b1 false = 0 from rfl, if_pos rfl]
          refine hJ _ _ ⟨rfl, _, rfl, Or.inl rfl, by omega, fun c' y1 y2 => ?_⟩
          rcases y1 with y | y
          · rw [y]; exact klt_irr
          · rw [y]; exact hc
        | true =>
          rw [show b1 true = 1 from rfl, if_neg (by decide)]
          refine ⟨⟨by omega, by omega⟩, hJ _ _ ⟨rfl, _, rfl, Or.inr rfl, by omega, fun c' y1 y2 => ?_⟩⟩
          rcases y1 with y | y
          · rw [y]; exact kle_of hc
          · rw [y]; exact klt_irr
      · rw [if_neg (by omega)]
        refine hJ _ _ ⟨rfl, _, rfl, Or.inl rfl, by omega, fun c' y1 y2 => ?_⟩
        rw [show c' = 2 * at_ + 1 by omega]
        exact klt_irr
  · rw [if_neg (by omega)]
    refine hq _ g' q1 q2 q3 q4 (fun i c' y1 y2 y3 => ?_)
    by_cases y : i = at_
    · omega
    · exact q6 i c' y1 y y2 y3
theorem sp_Writer_sort (hn : n ≤ L 164) (hn2 : n < 1000000) (hB : OB L σ N k) (h : OR σ n g) (hN : ∀ i, i < n → g i < N) (hq : ∀ τ g', OX σ τ → OR τ n g' → PM n g g' → (∀ i j, i < j → j < n → klt (k (g' j)) (k (g' i)) = false) → Q τ) : w_Writer_sort L (n : Int) Q σ := by
  have hd : Int.tdiv (n : Int) 2 = ((n / 2 : Nat) : Int) := by
    rw [Int.tdiv_eq_ediv_of_nonneg (by omega)]; omega
  have bd : ∀ g', PM n g g' → ∀ i, i < n → g' i < N := fun g' hp i hi => by
    obtain ⟨q, a, b⟩ := hp.1 i hi
    rw [b]; exact hN q a
  unfold w_Writer_sort
  rw [hd]
  refine ⟨⟨by omega, by omega⟩, ?_⟩
  refine WL_ind (fun s τ => ∃ (i : Nat) (g' : Nat → Nat), s = (i : Int) - 1 ∧ i ≤ n / 2 ∧ OX σ τ ∧ OR τ n g' ∧ PM n g g' ∧ HP k i n g') (fun s _ => (s + 1).toNat) ?_ _ σ ⟨n / 2, g, rfl, Nat.le_refl _, OX.refl, h, PM.refl, fun i c h1 h2 h3 => by omega⟩
  rintro _ τ ⟨i, g', rfl, hi, q1, q2, q3, q4⟩ K hK
  by_cases c : i = 0
  · rw [if_pos (by omega)]
    rw [c] at q4
    refine ⟨⟨by omega, by omega⟩, ?_⟩
    by_cases c0 : n = 0
    · refine WL_ind (fun s τ' => τ' = τ ∧ s < 0) (fun s _ => 0) ?_ _ τ ⟨rfl, by omega⟩
      rintro s _ ⟨rfl, hs⟩ K' hK'
      rw [if_neg (by omega)]
      exact hq _ g' q1 q2 q3 (fun a b _ hb => by omega)
    refine WL_ind (fun s τ' => ∃ (j : Nat) (u : Nat → Nat), s = (j : Int) ∧ j < n ∧ OX σ τ' ∧ OR τ' n u ∧ PM n g u ∧ HP k 0 (j + 1) u ∧ (∀ p q, p ≤ j → j < q → q < n → klt (k (u q)) (k (u p)) = false) ∧ (∀ p q, j < p → p < q → q < n → klt (k (u q)) (k (u p)) = false)) (fun s _ => s.toNat) ?_ _ τ ⟨n - 1, g', by omega, by omega, q1, q2, q3, by rw [show n - 1 + 1 = n by omega]; exact q4, fun p q _ h2 h3 => by omega, fun p q _ h2 h3 => by omega⟩
    rintro _ τ' ⟨j, u, rfl, hj, r1, r2, r3, r4, r5, r6⟩ K' hK'
    by_cases d : 0 < j
    · rw [if_pos (by omega)]
      have htop := r4.top
      refine sp_Writer_swap (i := 0) (j := j) hn (by omega) hj r2 (fun τ1 x1 x2 => ?_)
      have e0 : sw u 0 j 0 = u j := by rw [sw_i, if_neg (by omega), if_pos rfl]
      have ej : sw u 0 j j = u 0 := by rw [sw_i, if_pos rfl]
      have ep : ∀ p, p ≠ 0 → p ≠ j → sw u 0 j p = u p := fun p a b => by rw [sw_i, if_neg b, if_neg a]
      refine sp_Writer_sink (m := j) (from_ := 0) hn hn2 (by omega) (by omega) (hB.mv (r1.trans x1)) x2 (bd _ (r3.trans (PM.swp (by omega) hj))) (fun i' c' y1 y2 y3 => ?_) (fun τ2 g2 z1 z2 z3 _ z5 => ⟨⟨by omega, by omega⟩, hK' _ _ ⟨j - 1, g2, by omega, by omega, (r1.trans x1).trans z1, z2, (r3.trans (PM.swp (by omega) hj)).trans (z3.mono (by omega)), by rw [show j - 1 + 1 = j by omega]; exact z5, fun p q a1 a2 a3 => ?_, fun p q a1 a2 a3 => ?_⟩ (by omega)⟩)
      · rw [ep i' (by omega) (by omega), ep c' (by omega) (by omega)]
        exact r4 i' c' (by omega) y2 (by omega)
      · rw [z3.2.2.2 q (by omega)]
        obtain ⟨p', b1', b2⟩ := z3.1 p (by omega)
        rw [b2]
        have hup : ∃ p2, p2 ≤ j ∧ sw u 0 j p' = u p2 := by
          by_cases w : p' = 0
          · exact ⟨j, Nat.le_refl _, by rw [w]; exact e0⟩
          · exact ⟨p', by omega, ep p' w (by omega)⟩
        obtain ⟨p2, w1, w2⟩ := hup
        rw [w2]
        by_cases w : q = j
        · rw [w, ej]
          exact htop p2 (by omega)
        · rw [ep q (by omega) w]
          exact r5 p2 q w1 (by omega) a3
      · rw [z3.2.2.2 q (by omega), z3.2.2.2 p (by omega)]
        by_cases w : p = j
        · rw [w, ej, ep q (by omega) (by omega)]
          exact r5 0 q (by omega) (by omega) a3
        · rw [ep p (by omega) w, ep q (by omega) (by omega)]
          exact r6 p q (by omega) a2 a3
    · rw [if_neg (by omega)]
      refine hq τ' u r1 r2 r3 (fun a b h1 h2 => ?_)
      have j0 : j = 0 := by omega
      by_cases w : a = 0
      · exact r5 a b (by omega) (by omega) h2
      · exact r6 a b (by omega) h1 h2
  · rw [if_neg (by omega), show ((i : Int) - 1) = ((i - 1 : Nat) : Int) by omega]
    refine sp_Writer_sink (m := n) (from_ := i - 1) hn hn2 (Nat.le_refl _) (by omega) (hB.mv q1) q2 (bd _ q3) (by rw [show i - 1 + 1 = i by omega]; exact q4) (fun τ2 g2 z1 z2 z3 _ z5 => ⟨⟨by omega, by omega⟩, hK _ _ ⟨i - 1, g2, by omega, by omega, q1.trans z1, z2, q3.trans z3, z5⟩ (by omega)⟩)
end Sor
