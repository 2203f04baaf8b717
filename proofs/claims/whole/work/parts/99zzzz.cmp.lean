/-! ===== the order of words and of keys ===== -/
def sbf : Str → Str → Bool
  | _, [] => false
  | [], _ :: _ => true
  | a :: s, b :: t => decide (a < b) || (decide (a = b) && sbf s t)
section Slt
variable {s t u p : Str}
theorem sbf_irr : ∀ s : Str, sbf s s = false
  | [] => rfl
  | a :: s => by
    show (decide (a < a) || (decide (a = a) && sbf s s)) = false
    rw [sbf_irr s, Bool.and_false, Bool.or_false]
    exact decide_eq_false (by omega)
theorem sbf_cc {a b : Int} : sbf (a :: s) (b :: t) = true ↔ a < b ∨ (a = b ∧ sbf s t = true) := by
  show (decide (a < b) || (decide (a = b) && sbf s t)) = true ↔ _
  rw [Bool.or_eq_true, Bool.and_eq_true, decide_eq_true_iff, decide_eq_true_iff]
theorem sbf_tr : ∀ {s t u : Str}, sbf s t = true → sbf t u = true → sbf s u = true
  | _, t, [], _, h => by cases t <;> cases h
  | s, [], _ :: _, h, _ => by cases s <;> cases h
  | [], _ :: _, _ :: _, _, _ => rfl
  | a :: s, b :: t, c :: u, h1, h2 => by
    rw [sbf_cc] at h1 h2 ⊢
    rcases h1 with x | ⟨x1, x2⟩
    · rcases h2 with y | ⟨y1, y2⟩
      · exact Or.inl (by omega)
      · exact Or.inl (by omega)
    · rcases h2 with y | ⟨y1, y2⟩
      · exact Or.inl (by omega)
      · exact Or.inr ⟨by omega, sbf_tr x2 y2⟩
theorem sbf_tot : ∀ {s t : Str}, s ≠ t → sbf s t = true ∨ sbf t s = true
  | [], [], h => absurd rfl h
  | [], _ :: _, _ => Or.inl rfl
  | _ :: _, [], _ => Or.inr rfl
  | a :: s, b :: t, h => by
    rw [sbf_cc, sbf_cc]
    by_cases x : a = b
    · have := sbf_tot (s := s) (t := t) (fun z => h (by rw [x, z]))
      rcases this with y | y
      · exact Or.inl (Or.inr ⟨x, y⟩)
      · exact Or.inr (Or.inr ⟨x.symm, y⟩)
    · rcases Int.lt_or_gt_of_ne x with y | y
      · exact Or.inl (Or.inl y)
      · exact Or.inr (Or.inl y)
theorem sbf_pre : ∀ {p : Str}, sbf (p ++ s) (p ++ t) = sbf s t
  | [] => rfl
  | a :: p => by
    show (decide (a < a) || (decide (a = a) && sbf (p ++ s) (p ++ t))) = sbf s t
    rw [sbf_pre (p := p), decide_eq_false (by omega), decide_eq_true rfl, Bool.true_and, Bool.false_or]
end Slt
/-- keys of attributes: declarations first -/
abbrev Key : Type := Bool × Str × Str
def klt (x y : Key) : Bool := (!x.1 && y.1) || (x.1 == y.1 && (sbf x.2.1 y.2.1 || (decide (x.2.1 = y.2.1) && sbf x.2.2 y.2.2)))
section Klt
variable {x y z : Key}
theorem klt_i : klt x y = true ↔ (x.1 = false ∧ y.1 = true) ∨ (x.1 = y.1 ∧ (sbf x.2.1 y.2.1 = true ∨ (x.2.1 = y.2.1 ∧ sbf x.2.2 y.2.2 = true))) := by
  unfold klt
  rw [Bool.or_eq_true, Bool.and_eq_true, Bool.and_eq_true, Bool.or_eq_true, Bool.and_eq_true, decide_eq_true_iff, Bool.not_eq_true', beq_iff_eq]
theorem klt_irr : klt x x = false := by
  cases h : klt x x with
  | false => rfl
  | true =>
    rw [klt_i] at h
    rcases h with ⟨a, b⟩ | ⟨-, a | ⟨-, a⟩⟩
    · rw [a] at b; cases b
    · rw [sbf_irr] at a; cases a
    · rw [sbf_irr] at a; cases a
theorem klt_tr (h1 : klt x y = true) (h2 : klt y z = true) : klt x z = true := by
  rw [klt_i] at h1 h2 ⊢
  rcases h1 with ⟨a, b⟩ | ⟨a, b⟩
  · rcases h2 with ⟨c, d⟩ | ⟨c, d⟩
    · rw [b] at c; cases c
    · exact Or.inl ⟨a, by rw [← c]; exact b⟩
  · rcases h2 with ⟨c, d⟩ | ⟨c, d⟩
    · exact Or.inl ⟨by rw [a]; exact c, d⟩
    · refine Or.inr ⟨a.trans c, ?_⟩
      rcases b with b | ⟨b, b'⟩
      · rcases d with d | ⟨d, d'⟩
        · exact Or.inl (sbf_tr b d)
        · exact Or.inl (by rw [← d]; exact b)
      · rcases d with d | ⟨d, d'⟩
        · exact Or.inl (by rw [b]; exact d)
        · exact Or.inr ⟨b.trans d, sbf_tr b' d'⟩
theorem klt_tot (h : x ≠ y) : klt x y = true ∨ klt y x = true := by
  rw [klt_i, klt_i]
  obtain ⟨x1, x2, x3⟩ := x
  obtain ⟨y1, y2, y3⟩ := y
  dsimp only
  by_cases c : x1 = y1
  · by_cases d : x2 = y2
    · rcases sbf_tot (s := x3) (t := y3) (fun z => h (by rw [c, d, z])) with q | q
      · exact Or.inl (Or.inr ⟨c, Or.inr ⟨d, q⟩⟩)
      · exact Or.inr (Or.inr ⟨c.symm, Or.inr ⟨d.symm, q⟩⟩)
    · rcases sbf_tot d with q | q
      · exact Or.inl (Or.inr ⟨c, Or.inl q⟩)
      · exact Or.inr (Or.inr ⟨c.symm, Or.inl q⟩)
  · cases x1 <;> cases y1
    · exact absurd rfl c
    · exact Or.inl (Or.inl ⟨rfl, rfl⟩)
    · exact Or.inr (Or.inl ⟨rfl, rfl⟩)
    · exact absurd rfl c
theorem kle_tr (h1 : klt y x = false) (h2 : klt z y = false) : klt z x = false := by
  cases h : klt z x with
  | false => rfl
  | true =>
    by_cases e : y = z
    · rw [← e, h1] at h; cases h
    · rcases klt_tot e with q | q
      · rw [klt_tr q h] at h1; cases h1
      · rw [q] at h2; cases h2
theorem kle_of (h : klt x y = true) : klt y x = false := by
  cases h2 : klt y x with
  | false => rfl
  | true =>
    have := klt_tr h h2
    rw [klt_irr] at this
    cases this
end Klt
/-- the key of a name -/
noncomputable def wky (E : Str → Str) (s : Str) : Key := match dcl s with
  | some p => (false, p, [])
  | none => (true, mng E s, lcl s)
section Cmp
variable {L : Nat → Nat} {σ τ : IS} {E : Str → Str} {Q : Int → IS → Prop}
theorem drop_getD {s : Str} {k : Nat} (h : k < s.length) : s.drop k = s.getD k 0 :: s.drop (k + 1) := by
  rw [List.drop_eq_getElem_cons h, List.getD_eq_getElem?_getD, List.getElem?_eq_getElem h]
  rfl
theorem sp_Store_compare {a b : Nat} (hS : SI L σ) (hl : SL L) (hc : jch L σ) (ha : a < jw σ) (hb : b < jw σ) (hq : ∀ v : Int, (v < 0 ↔ sbf (wst σ a) (wst σ b) = true) → (v = 0 ↔ wst σ a = wst σ b) → Q v σ) : w_Store_compare L (a : Int) (b : Int) Q σ := by
  obtain ⟨l1, l2, e1, e2, l3⟩ := hS.word hl ha
  obtain ⟨m1, m2, d1, d2, m3⟩ := hS.word hl hb
  have l9 : L 101 < 1000000 := hl.2.2.2.2.2.2.2
  have lna : (wst σ a).length = wsz σ a := by unfold wst; rw [sl_ln]
  have lnb : (wst σ b).length = wsz σ b := by unfold wst; rw [sl_ln]
  have ga : ∀ k, k < wsz σ a → (wst σ a).getD k 0 = σ.2 101 (wfr σ a + k) := fun k hk => by
    rw [List.getD_eq_getElem?_getD]; unfold wst; rw [sl_get hk]; rfl
  have gb : ∀ k, k < wsz σ b → (wst σ b).getD k 0 = σ.2 101 (wfr σ b + k) := fun k hk => by
    rw [List.getD_eq_getElem?_getD]; unfold wst; rw [sl_get hk]; rfl
  unfold w_Store_compare
  rw [show Int.toNat (a : Int) = a from rfl, show Int.toNat (b : Int) = b from rfl, e2, d2]
  generalize hmn : (if (wsz σ b : Int) < (wsz σ a : Int) then (wsz σ b : Int) else (wsz σ a : Int)) = mn
  have hm1 : (wsz σ b ≤ wsz σ a ∧ mn = wsz σ b) ∨ (wsz σ a ≤ wsz σ b ∧ mn = wsz σ a) := by
    rw [← hmn]
    split <;> omega
  generalize hsa : wst σ a = sa at *
  generalize hsb : wst σ b = sb at *
  refine ⟨⟨by omega, by omega⟩, ⟨by omega, by omega⟩, ?_⟩
  refine WL_ind (fun z τ => τ = σ ∧ ∃ k : Nat, z = (k : Int) ∧ (k : Int) ≤ mn ∧ sa.take k = sb.take k) (fun z _ => (mn - z).toNat) ?_ 0 σ ⟨rfl, 0, rfl, by omega, rfl⟩
  rintro _ τ ⟨rfl, k, rfl, hk, he⟩ K hK
  have ea : sa = sa.take k ++ sa.drop k := (List.take_append_drop k sa).symm
  have eb : sb = sa.take k ++ sb.drop k := by rw [he]; exact (List.take_append_drop k sb).symm
  have es : sbf sa sb = sbf (sa.drop k) (sb.drop k) := by
    conv => lhs; rw [ea, eb]
    exact sbf_pre
  have eq : sa = sb ↔ sa.drop k = sb.drop k := by
    constructor
    · intro h; rw [h]
    · intro h; rw [ea, eb, h]
  by_cases c : (k : Int) < mn
  · have ca : k < wsz τ a := by omega
    have cb : k < wsz τ b := by omega
    rw [if_pos c]
    rw [e1, d1, show ((wfr τ a : Nat) : Int) + (k : Int) = ((wfr τ a + k : Nat) : Int) by omega, show ((wfr τ b : Nat) : Int) + (k : Int) = ((wfr τ b + k : Nat) : Int) by omega]
    rw [show Int.toNat ((wfr τ a + k : Nat) : Int) = wfr τ a + k from rfl, show Int.toNat ((wfr τ b + k : Nat) : Int) = wfr τ b + k from rfl, ← ga k ca, ← gb k cb]
    have c1 := hc (wfr τ a + k) (by omega)
    have c2 := hc (wfr τ b + k) (by omega)
    rw [← ga k ca] at c1
    rw [← gb k cb] at c2
    refine ⟨⟨by omega, by omega⟩, ⟨by omega, by omega⟩, ⟨by omega, by omega⟩, ⟨by omega, by omega⟩, ⟨by omega, by omega⟩, ⟨by omega, by omega⟩, ⟨by omega, by omega⟩, ?_⟩
    rw [drop_getD (by omega), drop_getD (s := sb) (by omega)] at es eq
    by_cases y : sa.getD k 0 = sb.getD k 0
    · rw [if_pos (by omega)]
      refine ⟨⟨by omega, by omega⟩, hK _ _ ⟨rfl, k + 1, rfl, by omega, ?_⟩ (by omega)⟩
      rw [List.take_succ, List.take_succ, he, List.getElem?_eq_getElem (by omega), List.getElem?_eq_getElem (by omega)]
      rw [List.getD_eq_getElem?_getD, List.getElem?_eq_getElem (by omega), List.getD_eq_getElem?_getD, List.getElem?_eq_getElem (by omega)] at y
      dsimp only [Option.getD] at y
      rw [y]
    · rw [if_neg (by omega)]
      refine hq _ ?_ ?_
      · rw [es, sbf_cc]
        constructor
        · intro z; exact Or.inl (by omega)
        · rintro (z | ⟨z, -⟩)
          · omega
          · exact absurd z y
      · rw [eq]
        constructor
        · intro z; omega
        · intro z; exact absurd (List.cons.inj z).1 y
  · rw [if_neg c, e2, d2]
    refine ⟨⟨by omega, by omega⟩, ⟨by omega, by omega⟩, ⟨by omega, by omega⟩, hq _ ?_ ?_⟩
    · rw [es]
      by_cases y : wsz τ b ≤ wsz τ a
      · rw [List.drop_eq_nil_of_le (as := sb) (by omega)]
        constructor
        · intro z; omega
        · intro z
          cases hd : sa.drop k <;> rw [hd] at z <;> cases z
      · rw [List.drop_eq_nil_of_le (as := sa) (by omega), drop_getD (s := sb) (by omega)]
        exact ⟨fun _ => rfl, fun _ => by omega⟩
    · rw [eq]
      by_cases y : wsz τ b ≤ wsz τ a
      · rw [List.drop_eq_nil_of_le (as := sb) (by omega), List.drop_eq_nil_iff]
        omega
      · rw [List.drop_eq_nil_of_le (as := sa) (by omega), drop_getD (s := sb) (by omega)]
        constructor
        · intro z; omega
        · intro z; cases z
theorem sp_compare2 {x y : Int} {s t : Str} (hS : SI L σ) (hl : SL L) (hc : jch L σ) (hx : Jn σ x s) (hy : Jn σ y t) (hq : ∀ v : Int, (v < 0 ↔ sbf s t = true) → (v = 0 ↔ s = t) → Q v σ) : w_Store_compare L x y Q σ := by
  obtain ⟨a, rfl, a2, a3⟩ := hx
  obtain ⟨b, rfl, b2, b3⟩ := hy
  rw [← a3, ← b3] at hq
  exact sp_Store_compare hS hl hc a2 b2 hq
theorem b1_lt {v : Int} {b : Bool} (h : v < 0 ↔ b = true) : (if v < 0 then (1 : Int) else 0) = b1 b := by
  cases b with
  | true => rw [if_pos (h.mpr rfl)]; rfl
  | false => rw [if_neg (fun z => by cases h.mp z)]; rfl
theorem sp_Writer_isBefore {a b : Nat} {s t : Str} (hS : SI L τ) (hl : SL L) (hc : jch L τ) (h6 : L 156 = L 102 ∧ L 157 = L 102 ∧ L 158 = L 102) (hC : CWd τ) (hE : MEp τ E) (ha : a < L 161) (hb : b < L 161) (hx : SPo τ (τ.2 161 a) s) (hy : SPo τ (τ.2 161 b) t) (hq : Q (b1 (klt (wky E s) (wky E t))) τ) : w_Writer_isBefore L (a : Int) (b : Int) Q τ := by
  unfold w_Writer_isBefore
  refine sp_Meanings_declares hS hl ⟨h6.1, h6.2.1⟩ hC ha hx (fun hd => ?_) (fun v p hd hv => ?_)
  · refine sp_Meanings_declares hS hl ⟨h6.1, h6.2.1⟩ hC hb hy (fun hd2 => ?_) (fun v2 p2 hd2 hv2 => ?_)
    · rw [if_neg (fun z => z.1 rfl), if_pos ⟨rfl, rfl⟩]
      have hk : klt (wky E s) (wky E t) = (sbf (mng E s) (mng E t) || (decide (mng E s = mng E t) && sbf (lcl s) (lcl t))) := by
        unfold wky; rw [hd, hd2]; rfl
      rw [hk] at hq
      refine sp_Meanings_meaning hS hl ⟨h6.1, h6.2.2⟩ hC ha hx hE (fun x1 y1 => sp_Meanings_meaning hS hl ⟨h6.1, h6.2.2⟩ hC hb hy hE (fun x2 y2 => sp_compare2 hS hl hc y1 y2 (fun v v1 v2 => WJ_dir ?_)))
      by_cases z : v = 0
      · rw [if_pos z]
        have e := v2.mp z
        rw [decide_eq_true e, e, sbf_irr, Bool.false_or, Bool.true_and] at hq
        refine sp_Meanings_local hS h6.2.1 ha hx (fun x3 y3 => sp_Meanings_local hS h6.2.1 hb hy (fun x4 y4 => sp_compare2 hS hl hc y3 y4 (fun v' w1 _ => ?_)))
        rw [b1_lt w1]
        exact ⟨by cases sbf (lcl s) (lcl t) <;> decide, hq⟩
      · rw [if_neg z]
        rw [decide_eq_false (fun q => z (v2.mpr q)), Bool.false_and, Bool.or_false] at hq
        rw [b1_lt v1]
        exact ⟨by cases sbf (mng E s) (mng E t) <;> decide, hq⟩
    · have := hv2.rng hS
      rw [if_neg (fun z => z.1 rfl), if_neg (fun z => by omega), if_pos rfl]
      have hk : klt (wky E s) (wky E t) = false := by unfold wky; rw [hd, hd2]; rfl
      rw [hk] at hq
      exact hq
  · have hr := hv.rng hS
    refine sp_Meanings_declares hS hl ⟨h6.1, h6.2.1⟩ hC hb hy (fun hd2 => ?_) (fun v2 p2 hd2 hv2 => ?_)
    · rw [if_neg (fun z => z.2 rfl), if_neg (fun z => by omega), if_neg (by omega)]
      have hk : klt (wky E s) (wky E t) = true := by unfold wky; rw [hd, hd2]; rfl
      rw [hk] at hq
      exact hq
    · have := hv2.rng hS
      rw [if_pos ⟨by omega, by omega⟩]
      refine sp_compare2 hS hl hc hv hv2 (fun v' w1 _ => ?_)
      rw [b1_lt w1]
      have hk : klt (wky E s) (wky E t) = sbf p p2 := by
        unfold wky; rw [hd, hd2]
        show (sbf p p2 || (decide (p = p2) && sbf [] [])) = sbf p p2
        rw [sbf_irr, Bool.and_false, Bool.or_false]
      rw [hk] at hq
      exact hq
end Cmp
