/-! ===== content models: what may come first, last, and behind what (pure) ===== -/
/-- whether it may be left out, what may come first, what last, what behind what -/
abbrev MVl : Type := Bool × (Nat → Bool) × (Nat → Bool) × (Nat → Nat → Bool)
def opt (h : Int) : Bool := h == 63 || h == 42
def rpt (h : Int) : Bool := h == 42 || h == 43
/-- a name -/
def vlf (i : Nat) : MVl := (false, fun p => p == i, fun p => p == i, fun _ _ => false)
/-- how often -/
def vof (h : Int) (v : MVl) : MVl := (opt h || v.1, v.2.1, v.2.2.1, fun p q => v.2.2.2 p q || (rpt h && (v.2.2.1 p && v.2.1 q)))
/-- a part more, of a choice or of a row -/
def vjn (c : Bool) (v x : MVl) : MVl := if c = true then (v.1 || x.1, fun p => v.2.1 p || x.2.1 p, fun p => v.2.2.1 p || x.2.2.1 p, fun p q => v.2.2.2 p q || x.2.2.2 p q) else (v.1 && x.1, fun p => v.2.1 p || (v.1 && x.2.1 p), fun p => x.2.2.1 p || (x.1 && v.2.2.1 p), fun p q => (v.2.2.2 p q || x.2.2.2 p q) || (v.2.2.1 p && x.2.1 q))
def vj (s : Int) (o : Option MVl) (x : MVl) : MVl := match o with
  | none => x
  | some v => vjn (s == 124) v x
/-- a group that is gone through: what stands between its parts, what was read of it -/
abbrev MFr : Type := Int × Option MVl
/-- what may come behind what, of all groups -/
def fwu (fs : List MFr) (p q : Nat) : Bool := fs.any (fun f => match f.2 with
  | none => false
  | some v => v.2.2.2 p q)
/-! ===== the class's model: its levels ===== -/
def MXl (σ : IS) (l : Nat) (x : MVl) : Prop := σ.2 141 l = b1 x.1 ∧ ∀ p, p < 256 → bs σ 139 l p = x.2.1 p ∧ bs σ 140 l p = x.2.2.1 p
def MLv (σ : IS) (l : Nat) (f : MFr) : Prop := σ.2 142 l = b1 f.2.isSome ∧ (∀ v, f.2 = some v → MXl σ l v) ∧ (f.1 ≠ 0 → σ.2 143 l = f.1)
/-- only one level, and what may come behind what, have changed -/
def MCh (σ σ' : IS) (l : Nat) : Prop := (∀ o k, σ'.1 o k = σ.1 o k) ∧ (∀ r, ¬ (138 ≤ r ∧ r ≤ 142) → σ'.2 r = σ.2 r) ∧ (∀ r, r = 139 ∨ r = 140 → ∀ j, ¬ (8 * l ≤ j ∧ j < 8 * l + 8) → σ'.2 r j = σ.2 r j) ∧ ∀ r, r = 141 ∨ r = 142 → ∀ j, j ≠ l → σ'.2 r j = σ.2 r j
/-- how long the model's rows are -/
def MLn (L : Nat → Nat) : Prop := L 137 = 256 ∧ L 138 = 2048 ∧ L 139 = 512 ∧ L 140 = 512 ∧ L 141 = 64 ∧ L 142 = 64 ∧ L 143 = 64 ∧ L 144 = 8 ∧ L 145 = 8
section Mlv
variable {L : Nat → Nat} {σ τ υ : IS} {l l' : Nat}
theorem cp_2 {s sp t tp n q j : Nat} : (cp σ s sp t tp n).2 q j = if q = t ∧ tp ≤ j ∧ j < tp + n then σ.2 s (sp + (j - tp)) else σ.2 q j := rfl
theorem MCh.refl : MCh σ σ l := ⟨fun _ _ => rfl, fun _ _ => rfl, fun _ _ _ _ => rfl, fun _ _ _ _ => rfl⟩
theorem MCh.trans (h1 : MCh σ τ l) (h2 : MCh τ υ l) : MCh σ υ l := ⟨fun o k => (h2.1 o k).trans (h1.1 o k), fun r hr => (h2.2.1 r hr).trans (h1.2.1 r hr), fun r hr j hj => (h2.2.2.1 r hr j hj).trans (h1.2.2.1 r hr j hj), fun r hr j hj => (h2.2.2.2 r hr j hj).trans (h1.2.2.2 r hr j hj)⟩
theorem UN.ch {r : Nat} {S : Nat → Bool} (h : UN σ τ r l S) (hr : r = 139 ∨ r = 140) : MCh σ τ l := by
  refine ⟨fun o k => by rw [h.1], fun q hq => h.2.1 q (by omega), fun q hq j hj => ?_, fun q hq j _ => by rw [h.2.1 q (by omega)]⟩
  by_cases c : q = r
  · rw [c]; exact h.2.2.1 j hj
  · rw [h.2.1 q c]
theorem FA.ch {n : Nat} {S : Nat → Nat → Bool} (h : FA σ τ n S) : MCh σ τ l := ⟨fun o k => by rw [h.1], fun q hq => h.2.1 q (by omega), fun q hq j _ => by rw [h.2.1 q (by omega)], fun q hq j _ => by rw [h.2.1 q (by omega)]⟩
theorem MCh.prE {r : Nat} {x : Int} (h : MCh σ τ l) (hr : r = 141 ∨ r = 142) : MCh σ (pr τ r l x) l := by
  refine ⟨h.1, fun q hq => ?_, fun q hq j hj => ?_, fun q hq j hj => ?_⟩
  · rw [← h.2.1 q hq]
    funext j
    rw [pr_2, if_neg (by omega)]
  · rw [pr_2, if_neg (by omega)]
    exact h.2.2.1 q hq j hj
  · rw [pr_2, if_neg (by omega)]
    exact h.2.2.2 q hq j hj
theorem MXl.keep {x : MVl} (h : MXl σ l' x) (hc : MCh σ τ l) (hne : l' ≠ l) : MXl τ l' x := by
  refine ⟨by rw [hc.2.2.2 141 (Or.inl rfl) l' hne]; exact h.1, fun p hp => ?_⟩
  rw [bs_ext hp (fun j h1 h2 => hc.2.2.1 139 (Or.inl rfl) j (by omega)), bs_ext hp (fun j h1 h2 => hc.2.2.1 140 (Or.inr rfl) j (by omega))]
  exact h.2 p hp
theorem MLv.keep {f : MFr} (h : MLv σ l' f) (hc : MCh σ τ l) (hne : l' ≠ l) : MLv τ l' f := ⟨by rw [hc.2.2.2 142 (Or.inr rfl) l' hne]; exact h.1, fun v hv => (h.2.1 v hv).keep hc hne, fun hs => by rw [hc.2.1 143 (by omega)]; exact h.2.2 hs⟩
theorem b1_io {a b : Bool} : io (b1 a) (b1 b) = b1 (a || b) := by cases a <;> cases b <;> decide
theorem b1_ia {a b : Bool} : ia (b1 a) (b1 b) = b1 (a && b) := by cases a <;> cases b <;> decide
theorem is01_b {a : Bool} : is01 (b1 a) := by cases a <;> decide
set_option maxHeartbeats 1000000 in
theorem sp_Model_join {Q : IS → Prop} {n : Nat} {s : Int} {o : Option MVl} {x : MVl} {F : Nat → Nat → Bool} (hl : l + 1 < 64) (hL : MLn L) (hn : σ.1 9 3 = (n : Int)) (h256 : n ≤ 256) (h1 : MLv σ l (s, o)) (hs : ∀ v, o = some v → s ≠ 0) (hx : MXl σ (l + 1) x) (hF : ∀ p, p < n → ∀ q, q < 256 → bs σ 138 p q = F p q)
    (hq : ∀ σ', MCh σ σ' l → MLv σ' l (s, some (vj s o x)) → (∀ p, p < n → ∀ q, q < 256 → bs σ' 138 p q = (F p q || match o with
      | none => false
      | some v => (!(s == 124)) && (v.2.2.1 p && x.2.1 q))) → Q σ') : w_Model_join L (l : Int) Q σ := by
  obtain ⟨l7, l8, l9, l0, m1, m2, m3, -, -⟩ := hL
  have ec : ((l : Int) + 1) = ((l + 1 : Nat) : Int) := by omega
  have t1 : Int.toNat (((l + 1 : Nat) : Int) * 8) = 8 * (l + 1) := by omega
  have t2 : Int.toNat ((l : Int) * 8) = 8 * l := by omega
  have t3 : Int.toNat ((l : Int) * 8 + 8) = 8 * l + 8 := by omega
  have t4 : Int.toNat (8 : Int) = 8 := rfl
  unfold w_Model_join
  rw [ec, t1, t2, t3, t4, show Int.toNat ((l + 1 : Nat) : Int) = l + 1 from rfl, show Int.toNat (l : Int) = l from rfl]
  refine ⟨⟨by omega, by omega⟩, ⟨by omega, by omega⟩, WJ_dir ?_⟩
  obtain ⟨b1', b2, b3⟩ := h1
  cases o with
  | none =>
    have e142 : σ.2 142 l = 0 := b1'
    rw [if_pos e142]
    have e141 : ∀ j, (cp (cp σ 139 (8 * (l + 1)) 139 (8 * l) 8) 140 (8 * (l + 1)) 140 (8 * l) 8).2 141 j = σ.2 141 j := fun j => by rw [cp_2, if_neg (by omega), cp_2, if_neg (by omega)]
    rw [e141, hx.1]
    refine ⟨⟨by omega, by omega⟩, ⟨by omega, by omega⟩, ⟨by omega, by omega, by omega, by omega, by omega⟩, ⟨by omega, by omega⟩, ⟨by omega, by omega⟩, ⟨by omega, by omega, by omega, by omega, by omega⟩, ⟨by omega, by omega⟩, ⟨by omega, by omega⟩, is01_b, ⟨by omega, by omega⟩, hq _ ?_ ⟨?_, fun v hv => ⟨?_, fun p hp => ⟨?_, ?_⟩⟩, fun hs' => ?_⟩ (fun p hp q hq' => ?_)⟩
    · refine ⟨fun _ _ => rfl, fun q hq' => funext (fun j => ?_), fun q hq' j hj => ?_, fun q hq' j hj => ?_⟩
      · rw [pr_2, if_neg (by omega), pr_2, if_neg (by omega), cp_2, if_neg (by omega), cp_2, if_neg (by omega)]
      · rw [pr_2, if_neg (by omega), pr_2, if_neg (by omega), cp_2, if_neg (by omega), cp_2, if_neg (by omega)]
      · rw [pr_2, if_neg (by omega), pr_2, if_neg (by omega), cp_2, if_neg (by omega), cp_2, if_neg (by omega)]
    · rw [pr_2, if_pos ⟨rfl, rfl⟩]; rfl
    · have ev : x = v := Option.some.inj hv
      rw [pr_2, if_neg (by omega), pr_2, if_pos ⟨rfl, rfl⟩, ev]
    · have ev : x = v := Option.some.inj hv
      rw [← ev, ← (hx.2 p hp).1]
      unfold bs
      rw [pr_2, if_neg (by omega), pr_2, if_neg (by omega), cp_2, if_neg (by omega), cp_2, if_pos ⟨rfl, by omega, by omega⟩, show 8 * (l + 1) + (8 * l + p / 32 - 8 * l) = 8 * (l + 1) + p / 32 by omega]
    · have ev : x = v := Option.some.inj hv
      rw [← ev, ← (hx.2 p hp).2]
      unfold bs
      rw [pr_2, if_neg (by omega), pr_2, if_neg (by omega), cp_2, if_pos ⟨rfl, by omega, by omega⟩, show 8 * (l + 1) + (8 * l + p / 32 - 8 * l) = 8 * (l + 1) + p / 32 by omega, cp_2, if_neg (by omega)]
    · rw [pr_2, if_neg (by omega), pr_2, if_neg (by omega), cp_2, if_neg (by omega), cp_2, if_neg (by omega)]
      exact b3 hs'
    · rw [Bool.or_false, ← hF p hp q hq']
      refine bs_ext hq' (fun j _ _ => ?_)
      rw [pr_2, if_neg (by omega), pr_2, if_neg (by omega), cp_2, if_neg (by omega), cp_2, if_neg (by omega)]
  | some v =>
    have e142 : σ.2 142 l = 1 := b1'
    have hsv := hs v rfl
    obtain ⟨v1, v2⟩ := b2 v rfl
    rw [if_neg (by omega), b3 hsv]
    refine ⟨⟨by omega, by omega⟩, ?_⟩
    by_cases c : s = 124
    · have hc : (s == 124) = true := by simpa using c
      rw [if_pos c]
      refine sp_Model_unite (by omega) (by omega) (by omega) (by omega) (by omega) (fun σ1 u1 => ?_)
      refine sp_Model_unite (by omega) (by omega) (by omega) (by omega) (by omega) (fun σ2 u2 => ?_)
      have a1 : σ2.2 141 = σ.2 141 := (u2.2.1 141 (by decide)).trans (u1.2.1 141 (by decide))
      rw [a1, v1, hx.1, b1_io]
      have hch : MCh σ σ2 l := (u1.ch (Or.inl rfl)).trans (u2.ch (Or.inr rfl))
      refine ⟨⟨by omega, by omega⟩, ⟨by omega, by omega⟩, ⟨by omega, by omega⟩, is01_b, hq _ (hch.prE (Or.inl rfl)) ⟨?_, fun w hw => ⟨?_, fun p hp => ⟨?_, ?_⟩⟩, fun hs' => ?_⟩ (fun p hp q hq' => ?_)⟩
      · rw [pr_2, if_neg (by omega), u2.2.1 142 (by decide), u1.2.1 142 (by decide), e142]; rfl
      · have ew : vjn (s == 124) v x = w := Option.some.inj hw
        rw [pr_2, if_pos ⟨rfl, rfl⟩, ← ew, hc]; rfl
      · have ew : vjn (s == 124) v x = w := Option.some.inj hw
        rw [bs_ext (σ := σ2) hp (fun j _ _ => by rw [pr_2, if_neg (by omega)]), u2.oth hp (by omega), u1.or hp, (v2 p hp).1, (hx.2 p hp).1, ← ew, hc]; rfl
      · have ew : vjn (s == 124) v x = w := Option.some.inj hw
        rw [bs_ext (σ := σ2) hp (fun j _ _ => by rw [pr_2, if_neg (by omega)]), u2.or hp, u1.oth hp (by omega), u1.oth hp (by omega), (v2 p hp).2, (hx.2 p hp).2, ← ew, hc]; rfl
      · rw [pr_2, if_neg (by omega), u2.2.1 143 (by decide), u1.2.1 143 (by decide)]
        exact b3 hs'
      · rw [bs_ext (σ := σ2) hq' (fun j _ _ => by rw [pr_2, if_neg (by omega)]), u2.oth hq' (by omega), u1.oth hq' (by omega), hF p hp q hq', hc]
        simp
    · have hc : (s == 124) = false := by simpa using c
      rw [if_neg c]
      refine sp_Model_followAll hn h256 (by omega) (by omega) (by omega) ⟨by omega, by omega, by omega⟩ (fun σ1 f1 => ?_)
      have k1 : ∀ r, r ≠ 138 → σ1.2 r = σ.2 r := f1.2.1
      have g1 : ∀ r i p, r ≠ 138 → bs σ1 r i p = bs σ r i p := fun r i p hr => by unfold bs; rw [k1 r hr]
      rw [k1 141 (by decide), v1]
      -- what may come first
      refine ⟨⟨by omega, by omega⟩, WJ_of (fun (_ : Unit) ρ => MCh σ1 ρ l ∧ ρ.2 138 = σ1.2 138 ∧ ρ.2 141 = σ1.2 141 ∧ ρ.2 142 = σ1.2 142 ∧ (∀ i p, p < 256 → bs ρ 140 i p = bs σ 140 i p) ∧ ∀ p, p < 256 → bs ρ 139 l p = (v.2.1 p || (v.1 && x.2.1 p))) (fun J hJ => ?_) ?_⟩
      · cases hv : v.1 with
        | false =>
          rw [if_pos (by decide)]
          refine hJ () σ1 ⟨MCh.refl, rfl, rfl, rfl, fun i p hp => g1 140 i p (by decide), fun p hp => ?_⟩
          rw [g1 139 l p (by decide), (v2 p hp).1, hv]; simp
        | true =>
          rw [if_neg (by decide)]
          refine sp_Model_unite (by omega) (by omega) (by omega) (by omega) (by omega) (fun σ2 u2 => hJ () σ2 ⟨u2.ch (Or.inl rfl), u2.2.1 138 (by decide), u2.2.1 141 (by decide), u2.2.1 142 (by decide), fun i p hp => ?_, fun p hp => ?_⟩)
          · rw [u2.oth hp (by omega)]; exact g1 140 i p (by decide)
          · rw [u2.or hp, g1 139 l p (by decide), g1 139 (l + 1) p (by decide), (v2 p hp).1, (hx.2 p hp).1, hv]; simp
      · rintro _ σ2 ⟨c2, q8, q1, q2, q0, q9⟩
        rw [q1, k1 141 (by decide), hx.1]
        -- what may come last
        refine ⟨⟨by omega, by omega⟩, WJ_of (fun (_ : Unit) ρ => MCh σ1 ρ l ∧ ρ.2 138 = σ1.2 138 ∧ ρ.2 141 = σ1.2 141 ∧ ρ.2 142 = σ1.2 142 ∧ (∀ p, p < 256 → bs ρ 140 (l + 1) p = x.2.2.1 p) ∧ (∀ p, p < 256 → bs ρ 140 l p = (x.1 && v.2.2.1 p)) ∧ ∀ p, p < 256 → bs ρ 139 l p = (v.2.1 p || (v.1 && x.2.1 p))) (fun J hJ => ?_) ?_⟩
        · cases hxn : x.1 with
          | false =>
            rw [if_pos (by decide)]
            have hfl : ∀ q j, ¬ (q = 140 ∧ 8 * l ≤ j ∧ j < 8 * l + 8) → (fl σ2 140 (8 * l) (8 * l + 8) 0).2 q j = σ2.2 q j := fun q j hqj => by rw [fl_2, if_neg hqj]
            refine ⟨⟨by omega, by omega⟩, ⟨by omega, by omega⟩, ⟨by omega, by omega⟩, ⟨by omega, by omega, by omega⟩, hJ () _ ⟨⟨c2.1, fun q hq' => ?_, fun q hq' j hj => ?_, fun q hq' j hj => ?_⟩, ?_, ?_, ?_, fun p hp => ?_, fun p hp => ?_, fun p hp => ?_⟩⟩
            · rw [← c2.2.1 q hq']; funext j; exact hfl q j (by omega)
            · rw [hfl q j (by omega)]; exact c2.2.2.1 q hq' j hj
            · rw [hfl q j (by omega)]; exact c2.2.2.2 q hq' j hj
            · rw [← q8]; funext j; exact hfl 138 j (by omega)
            · rw [← q1]; funext j; exact hfl 141 j (by omega)
            · rw [← q2]; funext j; exact hfl 142 j (by omega)
            · rw [bs_ext (σ := σ2) hp (fun j _ _ => hfl 140 j (by omega)), q0 (l + 1) p hp]; exact (hx.2 p hp).2
            · unfold bs
              rw [fl_2, if_pos ⟨rfl, by omega, by omega⟩, bt_0, hxn]; rfl
            · rw [bs_ext (σ := σ2) hp (fun j _ _ => hfl 139 j (by omega))]; exact q9 p hp
          | true =>
            rw [if_neg (by decide)]
            refine hJ () σ2 ⟨c2, q8, q1, q2, fun p hp => ?_, fun p hp => ?_, q9⟩
            · rw [q0 (l + 1) p hp]; exact (hx.2 p hp).2
            · rw [q0 l p hp, (v2 p hp).2, hxn]; simp
        · rintro _ σ3 ⟨c3, r8, r1, r2, r5, r0, r9⟩
          refine sp_Model_unite (by omega) (by omega) (by omega) (by omega) (by omega) (fun σ4 u4 => ?_)
          have a1 : σ4.2 141 = σ.2 141 := (u4.2.1 141 (by decide)).trans (r1.trans (k1 141 (by decide)))
          rw [a1, v1, hx.1, b1_ia]
          have hch : MCh σ σ4 l := (f1.ch.trans c3).trans (u4.ch (Or.inr rfl))
          refine ⟨⟨by omega, by omega⟩, ⟨by omega, by omega⟩, ⟨by omega, by omega⟩, is01_b, hq _ (hch.prE (Or.inl rfl)) ⟨?_, fun w hw => ⟨?_, fun p hp => ⟨?_, ?_⟩⟩, fun hs' => ?_⟩ (fun p hp q hq' => ?_)⟩
          · rw [pr_2, if_neg (by omega), u4.2.1 142 (by decide), r2, k1 142 (by decide), e142]; rfl
          · have ew : vjn (s == 124) v x = w := Option.some.inj hw
            rw [pr_2, if_pos ⟨rfl, rfl⟩, ← ew, hc]; rfl
          · have ew : vjn (s == 124) v x = w := Option.some.inj hw
            rw [bs_ext (σ := σ4) hp (fun j _ _ => by rw [pr_2, if_neg (by omega)]), u4.oth hp (by omega), r9 p hp, ← ew, hc]; rfl
          · have ew : vjn (s == 124) v x = w := Option.some.inj hw
            rw [bs_ext (σ := σ4) hp (fun j _ _ => by rw [pr_2, if_neg (by omega)]), u4.or hp, r0 p hp, r5 p hp, ← ew, hc, Bool.or_comm]; rfl
          · rw [pr_2, if_neg (by omega), hch.2.1 143 (by omega)]
            exact b3 hs'
          · have e8 : σ4.2 138 = σ1.2 138 := (u4.2.1 138 (by decide)).trans r8
            rw [bs_ext (σ := σ1) hq' (fun j _ _ => by rw [pr_2, if_neg (by omega), e8]), f1.or hp hq', hF p hp q hq', (v2 p (by omega)).2, (hx.2 q hq').1, hc]
            simp
end Mlv
