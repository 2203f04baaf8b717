/-! ===== the class's model: how often, and a name ===== -/
/-- the sign behind a part -/
def hwf (T : Nat → Int) (e k : Nat) : Int := if lk T e k = 63 ∨ (lk T e k = 42 ∨ lk T e k = 43) then lk T e k else 0
/-- what reading a model may change -/
def MRd (L : Nat → Nat) (σ σ' : IS) : Prop := (∀ o k, ¬ (o = 2 ∧ k = 2) → ¬ (o = 1 ∧ (k = 13 ∨ k = 14)) → ¬ (o = 9 ∧ k = 3) → σ'.1 o k = σ.1 o k) ∧ (∀ r, ¬ (102 ≤ r ∧ r ≤ 106) → ¬ (137 ≤ r ∧ r ≤ 143) → σ'.2 r = σ.2 r) ∧ sgr σ σ' ∧ SI L σ'
section Mho
variable {L : Nat → Nat} {σ τ υ : IS} {l e p : Nat}
theorem mt_1 {T : Nat → Int} {c : Int} : mt T e p [c] = (lk T e p == c) := by
  show ((lk T e p == c) && true) = _
  rw [Bool.and_true]
theorem MRd.refl (h : SI L σ) : MRd L σ σ := ⟨fun _ _ _ _ _ => rfl, fun _ _ _ => rfl, sgr.refl, h⟩
theorem MRd.trans (h1 : MRd L σ τ) (h2 : MRd L τ υ) : MRd L σ υ := ⟨fun o k a b c => (h2.1 o k a b c).trans (h1.1 o k a b c), fun r a b => (h2.2.1 r a b).trans (h1.2.1 r a b), h1.2.2.1.trans h2.2.2.1, h2.2.2.2⟩
theorem MXl.row {x : MVl} (h : MXl σ l x) (hr : τ.2 = σ.2) : MXl τ l x := by
  unfold MXl bs at h ⊢
  rw [hr]
  exact h
theorem MLv.row {f : MFr} (h : MLv σ l f) (hr : τ.2 = σ.2) : MLv τ l f := by
  unfold MLv MXl bs at h ⊢
  rw [hr]
  exact h
/-- only the model's sets and the place have changed -/
theorem MCh.rd {x : Int} (h : MCh (pf σ 2 2 x) τ l) (hS : SI L σ) : MRd L σ τ := by
  have hs : SI L τ ∧ sgr σ τ := SI_of hS (σ' := τ) (by rw [h.1, pf_no (by decide)]) (by rw [h.1, pf_no (by decide)]; have := hS.1; omega) (fun r h1 h2 => by rw [h.2.1 r (by omega)]; rfl) (fun i _ => by rw [h.2.1 101 (by omega)]; rfl)
  refine ⟨fun o k a _ _ => ?_, fun r _ b => ?_, hs.2, hs.1⟩
  · rw [h.1, pf_1, if_neg a]
  · rw [h.2.1 r (by omega)]; rfl
theorem sp_Model_readHowOften {Q : IS → Prop} {n : Nat} {x : MVl} {F : Nat → Nat → Bool} (hl : l < 64) (hL : MLn L) (hn : σ.1 9 3 = (n : Int)) (h256 : n ≤ 256) (hj : JT L σ e p) (hpe : p ≤ e) (hx : MXl σ l x) (hF : ∀ a, a < n → ∀ b, b < 256 → bs σ 138 a b = F a b) (hnx : lk (σ.2 101) e p = 43 → lk (σ.2 101) e (p + 1) ≠ 63)
    (hq : ∀ σ', MCh (pf σ 2 2 ((oft (σ.2 101) e p : Nat) : Int)) σ' l → MXl σ' l (vof (hwf (σ.2 101) e p) x) → σ'.2 142 = σ.2 142 → (∀ a, a < n → ∀ b, b < 256 → bs σ' 138 a b = (F a b || (rpt (hwf (σ.2 101) e p) && (x.2.2.1 a && x.2.1 b)))) → Q σ') : w_Model_readHowOften L (l : Int) Q σ := by
  obtain ⟨l7, l8, l9, l0, m1, m2, m3, -, -⟩ := id hL
  generalize hT : σ.2 101 = T at *
  have hgo : ∀ y : Int, JT L (pf σ 2 2 y) e (p + 1) ↔ y = ((p + 1 : Nat) : Int) := fun y => by
    unfold JT
    rw [pf_eq, pf_nk (by decide)]
    have := hj.2
    exact ⟨fun z => z.1, fun z => ⟨z, this.1, this.2.1, this.2.2.1, by omega⟩⟩
  unfold w_Model_readHowOften
  refine sp_Reader_skip hj ti_1047 (by decide) (fun hm => ?_) (fun hm => ?_)
  · -- any number
    rw [hT, mt_1] at hm
    have c : lk T e p = 42 := by simpa using hm
    have eo : oft T e p = p + 1 := by unfold oft; rw [if_pos (by omega)]
    have eh : hwf T e p = 42 := by unfold hwf; rw [if_pos (by omega)]; exact c
    rw [eo, eh] at hq
    refine WJ_dir (WJ_dir ?_)
    rw [if_neg (by decide)]
    refine sp_Model_followAll (n := n) (by rw [pf_no (by decide)]; exact hn) h256 (by omega) (by omega) (by omega) ⟨by omega, by omega, by omega⟩ (fun σ1 f1 => ?_)
    refine WJ_dir (WJ_dir ?_)
    rw [if_neg (by decide), show Int.toNat (l : Int) = l from rfl]
    refine ⟨⟨by omega, by omega⟩, hq _ (f1.ch.prE (Or.inl rfl)) ⟨?_, fun a ha => ⟨?_, ?_⟩⟩ ?_ (fun a ha b hb => ?_)⟩
    · rw [pr_2, if_pos ⟨rfl, rfl⟩]; rfl
    · rw [bs_ext (σ := σ1) ha (fun j _ _ => by rw [pr_2, if_neg (by omega)]), bs_ext (σ := σ) ha (fun j _ _ => by rw [f1.2.1 139 (by decide)]; rfl)]
      exact (hx.2 a ha).1
    · rw [bs_ext (σ := σ1) ha (fun j _ _ => by rw [pr_2, if_neg (by omega)]), bs_ext (σ := σ) ha (fun j _ _ => by rw [f1.2.1 140 (by decide)]; rfl)]
      exact (hx.2 a ha).2
    · funext j
      rw [pr_2, if_neg (by omega), f1.2.1 142 (by decide)]; rfl
    · rw [bs_ext (σ := σ1) hb (fun j _ _ => by rw [pr_2, if_neg (by omega)]), f1.or ha hb, ← hF a ha b hb, ← (hx.2 a (by omega)).2, ← (hx.2 b hb).1]
      show (bs σ 138 a b || (bs σ 140 l a && bs σ 139 l b)) = (bs σ 138 a b || (true && (bs σ 140 l a && bs σ 139 l b)))
      rw [Bool.true_and]
  · rw [hT, mt_1] at hm
    have c42 : lk T e p ≠ 42 := by simpa using hm
    refine WJ_dir (WJ_dir ?_)
    rw [if_pos (by decide)]
    refine sp_Reader_skip hj ti_1048 (by decide) (fun hm2 => ?_) (fun hm2 => ?_)
    · -- once at least
      rw [hT, mt_1] at hm2
      have c : lk T e p = 43 := by simpa using hm2
      have eo : oft T e p = p + 1 := by unfold oft; rw [if_pos (by omega)]
      have eh : hwf T e p = 43 := by unfold hwf; rw [if_pos (by omega)]; exact c
      rw [eo, eh] at hq
      rw [if_neg (by decide)]
      refine sp_Model_followAll (n := n) (by rw [pf_no (by decide)]; exact hn) h256 (by omega) (by omega) (by omega) ⟨by omega, by omega, by omega⟩ (fun σ1 f1 => ?_)
      refine WJ_dir (WJ_dir ?_)
      rw [if_pos (by decide)]
      have hj1 : JT L σ1 e (p + 1) := by
        have := (hgo ((p + 1 : Nat) : Int)).mpr rfl
        unfold JT at this ⊢
        rw [f1.1]
        exact this
      have e101 : σ1.2 101 = T := by rw [f1.2.1 101 (by decide)]; exact hT
      refine sp_Reader_skip hj1 ti_1049 (by decide) (fun hm3 => ?_) (fun hm3 => ?_)
      · rw [e101, mt_1] at hm3
        exact absurd (by simpa using hm3) (hnx c)
      · rw [if_pos (by decide)]
        refine hq _ f1.ch ⟨?_, fun a ha => ⟨?_, ?_⟩⟩ ?_ (fun a ha b hb => ?_)
        · rw [f1.2.1 141 (by decide)]
          show σ.2 141 l = b1 (opt 43 || x.1)
          rw [hx.1]; rfl
        · rw [bs_ext (σ := σ) ha (fun j _ _ => by rw [f1.2.1 139 (by decide)]; rfl)]
          exact (hx.2 a ha).1
        · rw [bs_ext (σ := σ) ha (fun j _ _ => by rw [f1.2.1 140 (by decide)]; rfl)]
          exact (hx.2 a ha).2
        · rw [f1.2.1 142 (by decide)]; rfl
        · rw [f1.or ha hb, ← hF a ha b hb, ← (hx.2 a (by omega)).2, ← (hx.2 b hb).1]
          show (bs σ 138 a b || (bs σ 140 l a && bs σ 139 l b)) = (bs σ 138 a b || (true && (bs σ 140 l a && bs σ 139 l b)))
          rw [Bool.true_and]
    · rw [hT, mt_1] at hm2
      have c43 : lk T e p ≠ 43 := by simpa using hm2
      rw [if_pos (by decide)]
      refine WJ_dir (WJ_dir ?_)
      rw [if_pos (by decide)]
      refine sp_Reader_skip hj ti_1049 (by decide) (fun hm3 => ?_) (fun hm3 => ?_)
      · rw [hT, mt_1] at hm3
        have c : lk T e p = 63 := by simpa using hm3
        have eo : oft T e p = p + 1 := by unfold oft; rw [if_pos (by omega)]
        have eh : hwf T e p = 63 := by unfold hwf; rw [if_pos (by omega)]; exact c
        rw [eo, eh] at hq
        rw [if_neg (by decide), show Int.toNat (l : Int) = l from rfl]
        refine ⟨⟨by omega, by omega⟩, hq _ (MCh.refl.prE (Or.inl rfl)) ⟨?_, fun a ha => ⟨?_, ?_⟩⟩ ?_ (fun a ha b hb => ?_)⟩
        · rw [pr_2, if_pos ⟨rfl, rfl⟩]; rfl
        · rw [bs_ext (σ := σ) ha (fun j _ _ => by rw [pr_2, if_neg (by omega)]; rfl)]
          exact (hx.2 a ha).1
        · rw [bs_ext (σ := σ) ha (fun j _ _ => by rw [pr_2, if_neg (by omega)]; rfl)]
          exact (hx.2 a ha).2
        · funext j
          rw [pr_2, if_neg (by omega)]; rfl
        · rw [bs_ext (σ := σ) hb (fun j _ _ => by rw [pr_2, if_neg (by omega)]; rfl), hF a ha b hb]
          show F a b = (F a b || (false && (x.2.2.1 a && x.2.1 b)))
          rw [Bool.false_and, Bool.or_false]
      · rw [hT, mt_1] at hm3
        have c63 : lk T e p ≠ 63 := by simpa using hm3
        have eo : oft T e p = p := by unfold oft; rw [if_neg (by omega)]
        have eh : hwf T e p = 0 := by unfold hwf; rw [if_neg (by omega)]
        have hself : pf σ 2 2 (p : Int) = σ := pf_self hj.1
        rw [eo, eh, hself] at hq
        rw [if_pos (by decide)]
        refine hq σ MCh.refl ⟨?_, hx.2⟩ rfl (fun a ha b hb => ?_)
        · show σ.2 141 l = b1 (opt 0 || x.1)
          rw [hx.1]; rfl
        · rw [hF a ha b hb]
          show F a b = (F a b || (false && (x.2.2.1 a && x.2.1 b)))
          rw [Bool.false_and, Bool.or_false]
set_option maxHeartbeats 1000000 in
theorem sp_Model_readOccurrence {Q : IS → Prop} {n j : Nat} {F : Nat → Nat → Bool} (hl : l < 64) (hL : MLn L) (hn : σ.1 9 3 = (n : Int)) (h255 : n < 256) (hS : SI L σ) (hsl : SL L) (hj : JT L σ e p) (he : e ≤ jtp σ) (hnm : nmg (σ.2 101) e true (some p) = some j) (hcap : jw σ < L 102) (hF : ∀ a, a < n → ∀ b, b < 256 → bs σ 138 a b = F a b) (hF0 : ∀ b, F n b = false) (hnx : lk (σ.2 101) e j = 43 → lk (σ.2 101) e (j + 1) ≠ 63)
    (hq : ∀ σ', MRd L σ σ' → σ'.1 2 2 = ((oft (σ.2 101) e j : Nat) : Int) → σ'.1 9 3 = ((n + 1 : Nat) : Int) → (∀ i, i ≠ n → σ'.2 137 i = σ.2 137 i) → Jn σ' (σ'.2 137 n) (sl (σ.2 101) p (j - p)) → jw σ' ≤ jw σ + 1 → (∀ l' f, l' ≠ l → MLv σ l' f → MLv σ' l' f) → MXl σ' l (vof (hwf (σ.2 101) e j) (vlf n)) → (∀ a, a < n + 1 → ∀ b, b < 256 → bs σ' 138 a b = (F a b || (rpt (hwf (σ.2 101) e j) && ((a == n) && (b == n))))) → σ'.2 142 = σ.2 142 → σ'.2 143 = σ.2 143 → Q σ') : w_Model_readOccurrence L (l : Int) Q σ := by
  obtain ⟨l7, l8, l9, l0, m1, m2, m3, -, -⟩ := id hL
  have hjl := nmg_lt hnm
  have hj9 := hj.2.2
  have hjt := hS.jtp_le
  have hjw := hS.jw_le
  unfold w_Model_readOccurrence
  refine sp_Reader_readName hj (fun j' hj' => ?_) (fun h0 => by rw [hnm] at h0; cases h0)
  rw [hnm] at hj'
  have ejj : j = j' := Option.some.inj hj'
  rw [← ejj]
  generalize hσ1 : pf σ 2 2 (j : Int) = σ1 at *
  have f1 : ∀ o k, ¬ (o = 2 ∧ k = 2) → σ1.1 o k = σ.1 o k := fun o k h => by rw [← hσ1, pf_1, if_neg h]
  have f2 : σ1.1 2 2 = (j : Int) := by rw [← hσ1, pf_eq]
  have r1 : σ1.2 = σ.2 := by rw [← hσ1]; rfl
  have hS1 : SI L σ1 ∧ sgr σ σ1 := by rw [← hσ1]; exact SI_pf hS (by omega)
  have e93 : σ1.1 9 3 = (n : Int) := by rw [f1 9 3 (by omega)]; exact hn
  rw [f2, e93, if_neg (by omega)]
  refine ⟨⟨by omega, by omega⟩, sp_Store_intern hS1.1 hsl ⟨by omega, by omega, by rw [f1 1 3 (by omega)]; omega⟩ (fun _ => by rw [f1 1 14 (by omega)]; omega) (fun x σ3 hi => ?_)⟩
  rw [r1, show Int.toNat (p : Int) = p from rfl, show Int.toNat ((j : Int) - (p : Int)) = j - p by omega] at hi
  obtain ⟨hg, hJ⟩ := hi.gr hS1.1
  obtain ⟨i1, -, -, i4, -, i6⟩ := hi
  obtain ⟨pe1, pe2⟩ := p_tab n h255
  have t1 : Int.toNat ((n : Int) * 8) = 8 * n := by omega
  have t2 : Int.toNat ((n : Int) * 8 + 8) = 8 * n + 8 := by omega
  have t3 : Int.toNat ((l : Int) * 8) = 8 * l := by omega
  have t4 : Int.toNat ((l : Int) * 8 + 8) = 8 * l + 8 := by omega
  have t5 : Int.toNat ((l : Int) * 8 + ((n / 32 : Nat) : Int)) = 8 * l + n / 32 := by omega
  rw [pe1, pe2, t1, t2, t3, t4, t5, show Int.toNat (n : Int) = n from rfl, show Int.toNat (l : Int) = l from rfl, show Int.toNat (8 : Int) = 8 from rfl]
  have hn32 : n % 32 < 32 := Nat.mod_lt _ (by decide)
  refine ⟨⟨by omega, by omega⟩, ⟨by omega, by omega⟩, ⟨by omega, by omega⟩, ⟨by omega, by omega⟩, ⟨by omega, by omega⟩, ⟨by omega, by omega, by omega⟩, ⟨by omega, by omega⟩, ⟨by omega, by omega⟩, ⟨by omega, by omega⟩, ⟨by omega, by omega, by omega⟩, ⟨by omega, by omega⟩, ⟨by omega, by omega⟩, ⟨by omega, by omega⟩, ⟨by omega, by omega⟩, ⟨by omega, by omega⟩, ⟨by omega, by omega, by omega, by omega, by omega⟩, ⟨by omega, by omega⟩, ?_⟩
  generalize hσ4 : pr (cp (pr (fl (fl (pf (pr σ3 137 n x) 9 3 ((n : Int) + 1)) 138 (8 * n) (8 * n + 8) 0) 139 (8 * l) (8 * l + 8) 0) 139 (8 * l + n / 32) (isl 1 ((n % 32 : Nat) : Int))) 139 (8 * l) 140 (8 * l) 8) 141 l 0 = σ4
  have q1 : ∀ o k, ¬ (o = 9 ∧ k = 3) → σ4.1 o k = σ3.1 o k := fun o k h => by
    rw [← hσ4]
    show (pf (pr σ3 137 n x) 9 3 ((n : Int) + 1)).1 o k = _
    rw [pf_1, if_neg h]; rfl
  have q2 : σ4.1 9 3 = ((n + 1 : Nat) : Int) := by
    rw [← hσ4]
    show (pf (pr σ3 137 n x) 9 3 ((n : Int) + 1)).1 9 3 = _
    rw [pf_eq]; omega
  have hrow : ∀ r i, σ4.2 r i = if r = 141 ∧ i = l then 0 else if r = 140 ∧ 8 * l ≤ i ∧ i < 8 * l + 8 then (if i = 8 * l + n / 32 then isl 1 ((n % 32 : Nat) : Int) else 0) else if r = 139 ∧ 8 * l ≤ i ∧ i < 8 * l + 8 then (if i = 8 * l + n / 32 then isl 1 ((n % 32 : Nat) : Int) else 0) else if r = 138 ∧ 8 * n ≤ i ∧ i < 8 * n + 8 then 0 else if r = 137 ∧ i = n then x else σ3.2 r i := fun r i => by
    rw [← hσ4, pr_2]
    by_cases c1 : r = 141 ∧ i = l
    · rw [if_pos c1, if_pos c1]
    · rw [if_neg c1, if_neg c1, cp_2]
      by_cases c2 : r = 140 ∧ 8 * l ≤ i ∧ i < 8 * l + 8
      · rw [if_pos c2, if_pos c2, show 8 * l + (i - 8 * l) = i by omega, pr_2, fl_2, if_pos (show 139 = 139 ∧ 8 * l ≤ i ∧ i < 8 * l + 8 by omega)]
        by_cases c3 : i = 8 * l + n / 32
        · rw [if_pos ⟨rfl, c3⟩, if_pos c3]
        · rw [if_neg (fun z => c3 z.2), if_neg c3]
      · rw [if_neg c2, if_neg c2, pr_2]
        by_cases c3 : r = 139 ∧ 8 * l ≤ i ∧ i < 8 * l + 8
        · rw [if_pos c3]
          by_cases c4 : i = 8 * l + n / 32
          · rw [if_pos ⟨c3.1, c4⟩, if_pos c4]
          · rw [if_neg (fun z => c4 z.2), if_neg c4, fl_2, if_pos c3]
        · rw [if_neg c3, if_neg (by omega), fl_2, if_neg c3, fl_2]
          by_cases c5 : r = 138 ∧ 8 * n ≤ i ∧ i < 8 * n + 8
          · rw [if_pos c5, if_pos c5]
          · rw [if_neg c5, if_neg c5]
            show (pr σ3 137 n x).2 r i = _
            rw [pr_2]
  have k3 : ∀ r, ¬ (102 ≤ r ∧ r ≤ 106) → σ3.2 r = σ.2 r := fun r h => by
    rw [← r1]
    funext i
    exact i4.2 r i (by omega)
  have e101 : σ4.2 101 = σ.2 101 := by
    rw [← k3 101 (by omega)]
    funext i
    rw [hrow, if_neg (by omega), if_neg (by omega), if_neg (by omega), if_neg (by omega), if_neg (by omega)]
  have hlo : ∀ r, 102 ≤ r → r ≤ 106 → σ4.2 r = σ3.2 r := fun r h1 h2 => by
    funext i
    rw [hrow, if_neg (by omega), if_neg (by omega), if_neg (by omega), if_neg (by omega), if_neg (by omega)]
  have h34 := SI_of i1 (σ' := σ4) (q1 1 14 (by omega)) (by rw [q1 1 3 (by omega)]; have := i1.1; omega) hlo (fun i _ => by rw [e101, k3 101 (by omega)])
  have hj4 : JT L σ4 e j := by
    refine ⟨by rw [q1 2 2 (by omega), i4.1 2 2 (by omega)]; exact f2, ?_, hj.2.2.1, hj.2.2.2.1, by omega⟩
    rw [q1 2 3 (by omega), i4.1 2 3 (by omega), f1 2 3 (by omega)]
    exact hj.2.1
  have hbitL : ∀ r, r = 139 ∨ r = 140 → ∀ a, a < 256 → bs σ4 r l a = (a == n) := fun r hr a ha => by
    unfold bs
    have hz : σ4.2 r (8 * l + a / 32) = if 8 * l + a / 32 = 8 * l + n / 32 then isl 1 ((n % 32 : Nat) : Int) else 0 := by
      rw [hrow, if_neg (by omega)]
      by_cases c : r = 140
      · rw [if_pos ⟨c, by omega, by omega⟩]
      · rw [if_neg (by omega), if_pos ⟨by omega, by omega, by omega⟩]
    rw [hz]
    by_cases c : 8 * l + a / 32 = 8 * l + n / 32
    · rw [if_pos c, bt_1 _ hn32 _ (Nat.mod_lt _ (by decide))]
      by_cases y : a = n
      · rw [y]; simp
      · rw [decide_eq_false (by omega)]; symm; simpa using y
    · rw [if_neg c, bt_0]
      symm
      have : a ≠ n := fun y => c (by rw [y])
      simpa using this
  have hx4 : MXl σ4 l (vlf n) := ⟨by rw [hrow, if_pos ⟨rfl, rfl⟩]; rfl, fun a ha => ⟨hbitL 139 (Or.inl rfl) a ha, hbitL 140 (Or.inr rfl) a ha⟩⟩
  have hF4 : ∀ a, a < n + 1 → ∀ b, b < 256 → bs σ4 138 a b = F a b := fun a ha b hb => by
    by_cases y : a = n
    · rw [y, hF0]
      unfold bs
      rw [hrow, if_neg (by omega), if_neg (by omega), if_neg (by omega), if_pos ⟨rfl, by omega, by omega⟩, bt_0]
    · rw [← hF a (by omega) b hb]
      refine bs_ext hb (fun i h1 h2 => ?_)
      rw [hrow, if_neg (by omega), if_neg (by omega), if_neg (by omega), if_neg (by omega), if_neg (by omega), k3 138 (by omega)]
  refine sp_Model_readHowOften hl hL q2 (by omega) hj4 (by omega) hx4 hF4 (by rw [e101]; exact hnx) (fun σ5 c5 x5 r5 F5 => ?_)
  rw [e101] at c5 x5 F5
  have hMR5 := c5.rd h34.1
  have h25 : ∀ o k, ¬ (o = 2 ∧ k = 2) → σ5.1 o k = σ4.1 o k := fun o k h => by rw [c5.1, pf_1, if_neg h]
  have hMR : MRd L σ σ5 := by
    refine ⟨fun o k a b c => ?_, fun r a b => ?_, hS1.2.trans (hg.trans (h34.2.trans hMR5.2.2.1)), hMR5.2.2.2⟩
    · rw [h25 o k a, q1 o k c, i4.1 o k b, f1 o k a]
    · rw [hMR5.2.1 r a b]
      funext i
      rw [hrow, if_neg (by omega), if_neg (by omega), if_neg (by omega), if_neg (by omega), if_neg (by omega), k3 r a]
  have e137 : ∀ i, σ5.2 137 i = σ4.2 137 i := fun i => by rw [c5.2.1 137 (by omega)]; rfl
  have hw4 : σ4.2 137 n = x := by rw [hrow, if_neg (by omega), if_neg (by omega), if_neg (by omega), if_neg (by omega), if_pos ⟨rfl, rfl⟩]
  refine hq σ5 hMR (by rw [c5.1, pf_eq]) (by rw [h25 9 3 (by omega)]; exact q2) (fun i hi' => ?_) ?_ ?_ (fun l' f hne hf => ?_) x5 F5 ?_ ?_
  · rw [e137, hrow, if_neg (by omega), if_neg (by omega), if_neg (by omega), if_neg (by omega), if_neg (fun z => hi' z.2), k3 137 (by omega)]
  · rw [e137, hw4]
    exact (hJ.gr h34.2).gr hMR5.2.2.1
  · have e1 : jw σ5 = jw σ3 := by unfold jw; rw [h25 1 14 (by omega), q1 1 14 (by omega)]
    have e2 : σ1.1 1 14 = σ.1 1 14 := f1 1 14 (by omega)
    rw [e1]
    unfold jw
    rcases i6 with z | z
    · rw [z.2.1, e2]; omega
    · rw [z.2.1, e2]; omega
  · have h4 : MLv σ4 l' f := by
      refine ⟨?_, fun v hv => ⟨?_, fun a ha => ⟨?_, ?_⟩⟩, fun hs => ?_⟩
      · rw [hrow, if_neg (by omega), if_neg (by omega), if_neg (by omega), if_neg (by omega), if_neg (by omega), k3 142 (by omega)]
        exact hf.1
      · rw [hrow, if_neg (fun z => hne z.2), if_neg (by omega), if_neg (by omega), if_neg (by omega), if_neg (by omega), k3 141 (by omega)]
        exact (hf.2.1 v hv).1
      · rw [bs_ext (σ := σ) ha (fun i h1 h2 => by rw [hrow, if_neg (by omega), if_neg (by omega), if_neg (by omega), if_neg (by omega), if_neg (by omega), k3 139 (by omega)])]
        exact ((hf.2.1 v hv).2 a ha).1
      · rw [bs_ext (σ := σ) ha (fun i h1 h2 => by rw [hrow, if_neg (by omega), if_neg (by omega), if_neg (by omega), if_neg (by omega), if_neg (by omega), k3 140 (by omega)])]
        exact ((hf.2.1 v hv).2 a ha).2
      · rw [hrow, if_neg (by omega), if_neg (by omega), if_neg (by omega), if_neg (by omega), if_neg (by omega), k3 143 (by omega)]
        exact hf.2.2 hs
    exact (h4.row (τ := pf σ4 2 2 ((oft (σ.2 101) e j : Nat) : Int)) rfl).keep c5 hne
  · rw [r5, ← k3 142 (by omega)]
    funext i
    rw [hrow, if_neg (by omega), if_neg (by omega), if_neg (by omega), if_neg (by omega), if_neg (by omega)]
  · rw [c5.2.1 143 (by omega), ← k3 143 (by omega)]
    funext i
    show σ4.2 143 i = _
    rw [hrow, if_neg (by omega), if_neg (by omega), if_neg (by omega), if_neg (by omega), if_neg (by omega)]
end Mho
