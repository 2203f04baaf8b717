/-! ===== the class's reader: a place, or none and a fault ===== -/
/-- the reader's small numbers are small -/
def rng (τ : IS) : Prop := ∀ j : Nat, 6 ≤ j → j ≤ 11 → -2000000 ≤ τ.1 2 j ∧ τ.1 2 j ≤ 2000000
/-- the reader's own cells may differ, but for its stop; k: how far behind the end it may be -/
def JB (e k : Nat) (σ τ : IS) : Prop := τ.2 = σ.2 ∧ (∀ o j : Nat, ¬ (o = 2 ∧ (j = 2 ∨ j = 4 ∨ (6 ≤ j ∧ j ≤ 11))) → τ.1 o j = σ.1 o j) ∧ (∃ p : Nat, τ.1 2 2 = (p : Int) ∧ p ≤ e + k) ∧ rng τ
def jst (e k : Nat) (σ : IS) (o : Option Nat) (τ : IS) : Prop := match o with
  | some p => p ≤ e ∧ τ = pf σ 2 2 (p : Int)
  | none => JB e k σ τ ∧ τ.1 2 4 = 5
/-- what the base of such a state is -/
def JS (L : Nat → Nat) (σ : IS) (e : Nat) : Prop := σ.1 2 3 = (e : Int) ∧ e ≤ L 101 ∧ L 101 < 1000000 ∧ σ.1 2 4 = 0 ∧ rng σ
theorem rng.fld {τ : IS} (h : rng τ) {j : Nat} {x : Int} (hx : -2000000 ≤ x ∧ x ≤ 2000000) : rng (pf τ 2 j x) := by
  intro i h1 h2
  rw [pf_1]
  split
  · exact hx
  · exact h i h1 h2
theorem rng.low {τ : IS} (h : rng τ) {j : Nat} {x : Int} (hj : j < 6) : rng (pf τ 2 j x) := by
  intro i h1 h2
  rw [pf_1, if_neg (by omega)]
  exact h i h1 h2
theorem JS.fld {L : Nat → Nat} {σ : IS} {e : Nat} (h : JS L σ e) {j : Nat} {x : Int} (hj : 6 ≤ j ∧ j ≤ 11) (hx : -2000000 ≤ x ∧ x ≤ 2000000) : JS L (pf σ 2 j x) e := by
  refine ⟨?_, h.2.1, h.2.2.1, ?_, h.2.2.2.2.fld hx⟩
  · rw [pf_1, if_neg (by omega)]; exact h.1
  · rw [pf_1, if_neg (by omega)]; exact h.2.2.2.1
theorem JB.jt {L : Nat → Nat} {e k : Nat} {σ τ : IS} (h : JB e k σ τ) (hS : JS L σ e) (hk : k ≤ 50) : ∃ p, JT L τ e p ∧ p ≤ e + k := by
  obtain ⟨h1, h2, ⟨p, hp, hpk⟩, -⟩ := h
  exact ⟨p, ⟨hp, (h2 2 3 (by omega)).trans hS.1, hS.2.1, hS.2.2.1, by omega⟩, hpk⟩
theorem JB.pos {e k k' : Nat} {σ τ : IS} (h : JB e k σ τ) {q : Nat} (hq : q ≤ e + k') : JB e k' σ (pf τ 2 2 (q : Int)) := by
  refine ⟨h.1, fun o j hj => ?_, ⟨q, pf_eq, hq⟩, h.2.2.2.low (by decide)⟩
  rw [pf_1, if_neg (by omega)]
  exact h.2.1 o j hj
theorem JB.fld {e k : Nat} {σ τ : IS} (h : JB e k σ τ) {j : Nat} {x : Int} (hj : 6 ≤ j ∧ j ≤ 11) (hx : -2000000 ≤ x ∧ x ≤ 2000000) : JB e k σ (pf τ 2 j x) := by
  refine ⟨h.1, fun o i hi => ?_, ?_, h.2.2.2.fld hx⟩
  · rw [pf_1, if_neg (by omega)]
    exact h.2.1 o i hi
  · obtain ⟨p, hp, hpk⟩ := h.2.2.1
    exact ⟨p, by rw [pf_1, if_neg (by omega)]; exact hp, hpk⟩
theorem JB.mono {e k k' : Nat} {σ τ : IS} (h : JB e k σ τ) (hk : k ≤ k') : JB e k' σ τ := by
  obtain ⟨h1, h2, ⟨p, hp, hpk⟩, h3⟩ := h
  exact ⟨h1, h2, ⟨p, hp, by omega⟩, h3⟩
/-- the base's own such cells don't matter for a bad state -/
theorem JB.base {e k : Nat} {σ τ : IS} {j : Nat} {x : Int} (hj : j = 2 ∨ j = 4 ∨ 6 ≤ j ∧ j ≤ 11) : JB e k (pf σ 2 j x) τ ↔ JB e k σ τ := by
  constructor
  · rintro ⟨h1, h2, h3, h4⟩
    refine ⟨h1, fun o i hi => ?_, h3, h4⟩
    rw [h2 o i hi, pf_1, if_neg (by omega)]
  · rintro ⟨h1, h2, h3, h4⟩
    refine ⟨h1, fun o i hi => ?_, h3, h4⟩
    rw [h2 o i hi, pf_1, if_neg (by omega)]
theorem jst.base {e k : Nat} {σ τ : IS} {j : Nat} {x : Int} (hj : j = 2 ∨ j = 4 ∨ 6 ≤ j ∧ j ≤ 11) : jst e k (pf σ 2 j x) none τ ↔ jst e k σ none τ := by
  show (JB e k (pf σ 2 j x) τ ∧ _) ↔ (JB e k σ τ ∧ _)
  rw [JB.base hj]
theorem flt_bad {τ : IS} {n : Int} (h : τ.1 2 4 = 5) : flt τ n = τ := by
  unfold flt
  rw [if_neg (by rw [h]; decide)]
theorem flt_none {L : Nat → Nat} {e k : Nat} {σ τ : IS} {p : Nat} (hS : JS L σ e) (hp : p ≤ e) (h : τ = pf σ 2 2 (p : Int)) : jst e k σ none (flt τ 5) := by
  have h4 : τ.1 2 4 = 0 := by rw [h, pf_nk (by decide)]; exact hS.2.2.2.1
  unfold flt
  rw [if_pos h4]
  refine ⟨⟨by subst h; rfl, fun o j hj => ?_, ⟨p, ?_, by omega⟩, ?_⟩, pf_eq⟩
  · rw [pf_1, if_neg (by omega), h, pf_1, if_neg (by omega)]
  · rw [pf_nk (by decide), h, pf_eq]
  · rw [h]
    exact (hS.2.2.2.2.low (by decide)).low (by decide)
theorem JS.jt {L : Nat → Nat} {e : Nat} {σ τ : IS} {p : Nat} (hS : JS L σ e) (hp : p ≤ e) (h : τ = pf σ 2 2 (p : Int)) : JT L τ e p := by
  subst h
  exact ⟨pf_eq, (pf_nk (by decide)).trans hS.1, hS.2.1, hS.2.2.1, by omega⟩
section JOpt
variable {L : Nat → Nat} {σ τ : IS} {e k : Nat} {o : Option Nat}
theorem j_need {Q : IS → Prop} (hS : JS L σ e) (hk : k ≤ 50) {s : Nat} {l : List Int} (hs : ti s = l) (hl : 0 < l.length) (h : jst e k σ o τ) (hq : ∀ τ', jst e k σ (wd (σ.2 101) e l o) τ' → Q τ') : w_Reader_need L s Q τ := by
  cases o with
  | some p =>
    obtain ⟨hp, rfl⟩ := h
    have hle := wdl_le (T := σ.2 101) (o := some p) hs (fun i hi => by cases hi; exact hp)
    have hw : wd (σ.2 101) e l (some p) = if mt (σ.2 101) e p l = true then some (p + l.length) else none := rfl
    refine sp_Reader_need (hS.jt hp rfl) hs hl (fun c => ?_) (fun c => ?_)
    · rw [pf_2] at c
      rw [hw, if_pos c] at hq hle
      exact hq _ ⟨hle _ rfl, pf_pf⟩
    · rw [pf_2] at c
      rw [hw, if_neg (by rw [c]; decide)] at hq
      exact hq _ (flt_none hS hp rfl)
  | none =>
    obtain ⟨hb, h5⟩ := h
    obtain ⟨p, hj, hpk⟩ := hb.jt hS hk
    refine sp_Reader_need hj hs hl (fun c => ?_) (fun c => ?_)
    · have hpe : p ≤ e := by
        by_cases z : p ≤ e
        · exact z
        · exfalso
          cases hl2 : l with
          | nil => rw [hl2] at hl; exact absurd hl (by decide)
          | cons a r =>
            rw [hl2] at c
            have c' : ((lk (τ.2 101) e p == a) && mt (τ.2 101) e (p + 1) r) = true := c
            rw [Bool.and_eq_true] at c'
            have h6 : lk (τ.2 101) e p = a := by simpa using c'.1
            unfold lk at h6
            rw [if_neg (by omega)] at h6
            have := ti_pos s a (by rw [hs, hl2]; exact List.mem_cons_self)
            omega
      have := mt_le l p (fun c hc => by have := ti_pos s c (by rw [hs]; exact hc); omega) hpe c
      exact hq _ ⟨hb.pos (by omega), by rw [pf_nk (by decide)]; exact h5⟩
    · rw [flt_bad h5]
      exact hq _ ⟨hb, h5⟩
theorem j_needSpace {Q : IS → Prop} (hS : JS L σ e) (hk : k ≤ 50) (h : jst e k σ o τ) (hq : ∀ τ', jst e k σ (spc (σ.2 101) e o) τ' → Q τ') : w_Reader_needSpace L Q τ := by
  cases o with
  | some p =>
    obtain ⟨hp, rfl⟩ := h
    have hw : spc (σ.2 101) e (some p) = if sk isSp (σ.2 101) e p = p then none else some (sk isSp (σ.2 101) e p) := rfl
    have hsl := sk_le (p := isSp) (T := σ.2 101) hp
    refine sp_Reader_needSpace (hS.jt hp rfl) (fun c => ?_) (fun c => ?_)
    · rw [pf_2] at c ⊢
      rw [hw, if_neg c] at hq
      exact hq _ ⟨hsl.2, pf_pf⟩
    · rw [pf_2] at c
      rw [hw, if_pos c] at hq
      exact hq _ (flt_none hS hp rfl)
  | none =>
    obtain ⟨hb, h5⟩ := h
    obtain ⟨p, hj, hpk⟩ := hb.jt hS hk
    refine sp_Reader_needSpace hj (fun c => ?_) (fun c => ?_)
    · have hpe : p ≤ e := by
        by_cases z : p ≤ e
        · exact z
        · exact absurd (sk_end (by omega)) c
      have hsl := sk_le (p := isSp) (T := τ.2 101) hpe
      exact hq _ ⟨hb.pos (by omega), by rw [pf_nk (by decide)]; exact h5⟩
    · rw [flt_bad h5]
      exact hq _ ⟨hb, h5⟩
/-- skipSpace answers whether there was one -/
theorem j_skipSpace {Q : Int → IS → Prop} (hS : JS L σ e) (hk : k ≤ 50) (h : jst e k σ o τ) (hq : ∀ v τ', jst e k σ (asp (σ.2 101) e o) τ' → (v = 0 ∨ v = 1) → (∀ p, o = some p → v = if sk isSp (σ.2 101) e p = p then 0 else 1) → Q v τ') : w_Reader_skipSpace L Q τ := by
  cases o with
  | some p =>
    obtain ⟨hp, rfl⟩ := h
    have hsl := sk_le (p := isSp) (T := σ.2 101) hp
    refine sp_Reader_skipSpace (hS.jt hp rfl) ?_
    rw [pf_2]
    refine hq _ _ ⟨hsl.2, pf_pf⟩ ?_ (fun q hq => by cases hq; rfl)
    split
    · exact Or.inl rfl
    · exact Or.inr rfl
  | none =>
    obtain ⟨hb, h5⟩ := h
    obtain ⟨p, hj, hpk⟩ := hb.jt hS hk
    refine sp_Reader_skipSpace hj ?_
    have hle : sk isSp (τ.2 101) e p ≤ e + k := by
      by_cases z : p ≤ e
      · have := sk_le (p := isSp) (T := τ.2 101) z
        omega
      · rw [sk_end (by omega)]
        exact hpk
    refine hq _ _ ⟨hb.pos hle, by rw [pf_nk (by decide)]; exact h5⟩ ?_ (fun q hq => by cases hq)
    split
    · exact Or.inl rfl
    · exact Or.inr rfl
theorem j_at {Q : Int → IS → Prop} (hS : JS L σ e) (hk : k ≤ 50) {s : Nat} {l : List Int} (hs : ti s = l) (hl : 0 < l.length) (h : jst e k σ o τ) (hq : ∀ v, (v = 0 ∨ v = 1) → (∀ p, o = some p → v = b1 (mt (σ.2 101) e p l)) → Q v τ) : w_Reader_at L s Q τ := by
  cases o with
  | some p =>
    obtain ⟨hp, rfl⟩ := h
    refine sp_Reader_at (hS.jt hp rfl) hs hl ?_
    rw [pf_2]
    exact hq _ (b1_01 _) (fun q hq => by cases hq; rfl)
  | none =>
    obtain ⟨hb, h5⟩ := h
    obtain ⟨p, hj, hpk⟩ := hb.jt hS hk
    exact sp_Reader_at hj hs hl (hq _ (b1_01 _) (fun q hq => by cases hq))
/-- a word that may be missing -/
def skp (T : Nat → Int) (e : Nat) (l : List Int) (o : Option Nat) : Option Nat := match o with
  | none => none
  | some i => if mt T e i l = true then some (i + l.length) else some i
theorem j_skip {Q : Int → IS → Prop} (hS : JS L σ e) (hk : k ≤ 50) {s : Nat} {l : List Int} (hs : ti s = l) (hl : 0 < l.length) (h : jst e k σ o τ) (hq : ∀ v τ', jst e k σ (skp (σ.2 101) e l o) τ' → (v = 0 ∨ v = 1) → (∀ p, o = some p → v = b1 (mt (σ.2 101) e p l)) → Q v τ') : w_Reader_skip L s Q τ := by
  cases o with
  | some p =>
    obtain ⟨hp, rfl⟩ := h
    have hw : skp (σ.2 101) e l (some p) = if mt (σ.2 101) e p l = true then some (p + l.length) else some p := rfl
    refine sp_Reader_skip (hS.jt hp rfl) hs hl (fun c => ?_) (fun c => ?_)
    · rw [pf_2] at c
      rw [hw, if_pos c] at hq
      have := mt_le l p (fun c hc => by have := ti_pos s c (by rw [hs]; exact hc); omega) hp c
      exact hq _ _ ⟨this, pf_pf⟩ (Or.inr rfl) (fun q hq => by cases hq; rw [c]; rfl)
    · rw [pf_2] at c
      rw [hw, if_neg (by rw [c]; decide)] at hq
      exact hq _ _ ⟨hp, rfl⟩ (Or.inl rfl) (fun q hq => by cases hq; rw [c]; rfl)
  | none =>
    obtain ⟨hb, h5⟩ := h
    obtain ⟨p, hj, hpk⟩ := hb.jt hS hk
    refine sp_Reader_skip hj hs hl (fun c => ?_) (fun c => ?_)
    · have hpe : p ≤ e := by
        by_cases z : p ≤ e
        · exact z
        · exfalso
          cases hl2 : l with
          | nil => rw [hl2] at hl; exact absurd hl (by decide)
          | cons a r =>
            rw [hl2] at c
            have c' : ((lk (τ.2 101) e p == a) && mt (τ.2 101) e (p + 1) r) = true := c
            rw [Bool.and_eq_true] at c'
            have h6 : lk (τ.2 101) e p = a := by simpa using c'.1
            unfold lk at h6
            rw [if_neg (by omega)] at h6
            have := ti_pos s a (by rw [hs, hl2]; exact List.mem_cons_self)
            omega
      have := mt_le l p (fun c hc => by have := ti_pos s c (by rw [hs]; exact hc); omega) hpe c
      exact hq _ _ ⟨hb.pos (by omega), by rw [pf_nk (by decide)]; exact h5⟩ (Or.inr rfl) (fun q hq => by cases hq)
    · exact hq _ _ ⟨hb, h5⟩ (Or.inl rfl) (fun q hq => by cases hq)
theorem j_readName {Q : Int → IS → Prop} (hS : JS L σ e) (hk : k ≤ 50) (h : jst e k σ o τ) (hq : ∀ v τ', jst e k σ (nmg (σ.2 101) e true o) τ' → (∀ p, o = some p → v = (p : Int)) → (∃ q : Nat, v = (q : Int) ∧ q ≤ e + k ∧ ∀ r : Nat, τ'.1 2 2 = (r : Int) → q ≤ r) → Q v τ') : w_Reader_readName L Q τ := by
  cases o with
  | some p =>
    obtain ⟨hp, rfl⟩ := h
    refine sp_Reader_readName (hS.jt hp rfl) (fun j c => ?_) (fun c => ?_)
    · rw [pf_2] at c
      rw [c] at hq
      have hn := nmg_lt c
      refine hq _ _ ⟨hn.2.2, pf_pf⟩ (fun q hq => by cases hq; rfl) ⟨p, rfl, by omega, fun r hr => ?_⟩
      rw [pf_eq] at hr
      omega
    · rw [pf_2] at c
      rw [c] at hq
      refine hq _ _ (flt_none hS hp rfl) (fun q hq => by cases hq; rfl) ⟨p, rfl, by omega, fun r hr => ?_⟩
      have h4 : (pf σ 2 2 (p : Int)).1 2 4 = 0 := by rw [pf_nk (by decide)]; exact hS.2.2.2.1
      unfold flt at hr
      rw [if_pos h4, pf_nk (by decide), pf_eq] at hr
      omega
  | none =>
    obtain ⟨hb, h5⟩ := h
    obtain ⟨p, hj, hpk⟩ := hb.jt hS hk
    refine sp_Reader_readName hj (fun j c => ?_) (fun c => ?_)
    · have hn := nmg_lt c
      refine hq _ _ ⟨hb.pos (by omega), by rw [pf_nk (by decide)]; exact h5⟩ (fun q hq => by cases hq) ⟨p, rfl, by omega, fun r hr => ?_⟩
      rw [pf_eq] at hr
      omega
    · rw [flt_bad h5]
      refine hq _ _ ⟨hb, h5⟩ (fun q hq => by cases hq) ⟨p, rfl, by omega, fun r hr => ?_⟩
      rw [hj.1] at hr
      omega
theorem j_fail {Q : IS → Prop} (hS : JS L σ e) (h : jst e k σ o τ) (hq : ∀ τ', jst e k σ none τ' → Q τ') : w_Reader_fail L 5 Q τ := by
  refine sp_Reader_fail ?_
  cases o with
  | some p =>
    obtain ⟨hp, rfl⟩ := h
    exact hq _ (flt_none hS hp rfl)
  | none =>
    rw [flt_bad h.2]
    exact hq _ h
end JOpt
