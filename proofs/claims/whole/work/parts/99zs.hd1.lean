/-! ===== the head of a text: how it is written; the class reads it ===== -/
/-- letters of a version, or of an encoding's name -/
def isHl (al : Bool) (c : Int) : Bool := isDg c || (al && (isLt c || (c == 46 || (c == 95 || c == 45))))
/-- behind the quote that follows a word and = -/
def qof (T : Nat → Int) (e : Nat) (w : List Int) (o : Option Nat) : Option Nat := match eqs T e (wd T e w o) with
  | none => none
  | some i => if isQt (lk T e i) = true then some (i + 1) else none
def lts (al : Bool) (T : Nat → Int) (e : Nat) (o : Option Nat) : Option Nat := match o with
  | none => none
  | some i => if sk (isHl al) T e i = i then none else some (sk (isHl al) T e i)
/-- behind the same quote -/
def qcl (T : Nat → Int) (e : Nat) (q : Int) (o : Option Nat) : Option Nat := match o with
  | none => none
  | some i => if lk T e i = q then some (i + 1) else none
section JHd
variable {L : Nat → Nat} {σ τ : IS} {e k p : Nat} {o : Option Nat}
theorem sp_letters {Q : IS → Prop} {al : Bool} {a1 : Int} (hj : JT L σ e p) (ha : a1 = 0 ↔ al = false) (h : Q (if sk (isHl al) (σ.2 101) e p = p then flt σ 5 else pf σ 2 2 ((sk (isHl al) (σ.2 101) e p : Nat) : Int))) : w_Content_readLetters L a1 Q σ := by
  obtain ⟨j1, j2, j3, j4, j5⟩ := hj
  unfold w_Content_readLetters
  refine WL_ind (fun s ρ => ∃ i : Nat, s = (i : Int) ∧ p ≤ i ∧ (i ≤ e ∨ i = p) ∧ ρ = pf σ 2 2 (i : Int) ∧ sk (isHl al) (σ.2 101) e p = sk (isHl al) (σ.2 101) e i) (fun s _ => ((e : Int) - s).toNat) ?_ (σ.1 2 2) σ ⟨p, j1, Nat.le_refl _, Or.inr rfl, (pf_self j1).symm, rfl⟩
  rintro s ρ ⟨i, rfl, hpi, hie, rfl, hsk⟩ K hK
  try dsimp only
  have e23 : (pf σ 2 2 (i : Int)).1 2 3 = (e : Int) := by rw [pf_nk (by decide)]; exact j2
  have e22 : (pf σ 2 2 (i : Int)).1 2 2 = (i : Int) := pf_eq
  refine WJ_of (fun _ ρ1 => ρ1 = pf σ 2 2 (i : Int) ∧ sk (isHl al) (σ.2 101) e i = i) (fun J hJ => ?_) ?_
  · rw [e23]
    by_cases c : i < e
    · rw [if_pos (by omega), show Int.toNat (i : Int) = i by omega, pf_2]
      refine ⟨⟨by omega, by omega⟩, sp_Reader_isDigit ?_⟩
      -- a letter that belongs there
      have hgo : isHl al (σ.2 101 i) = true → (inR ((pf σ 2 2 (i : Int)).1 2 2 + 1) ∧ inR ((i : Int) + 1) ∧ K ((i : Int) + 1) (pf (pf σ 2 2 (i : Int)) 2 2 ((pf σ 2 2 (i : Int)).1 2 2 + 1))) := by
        intro hp
        rw [e22, pf_pf]
        refine ⟨⟨by omega, by omega⟩, ⟨by omega, by omega⟩, ?_⟩
        rw [show (i : Int) + 1 = ((i + 1 : Nat) : Int) by omega]
        exact hK _ _ ⟨i + 1, rfl, by omega, Or.inl (by omega), rfl, by rw [hsk, sk_go c hp]⟩ (by omega)
      have hst : isHl al (σ.2 101 i) = false → J () (pf σ 2 2 (i : Int)) := fun hp => hJ _ _ ⟨rfl, sk_stop hp⟩
      refine WJ_dir ?_
      dsimp only
      rw [if_b1]
      by_cases c1 : isDg (σ.2 101 i) = true
      · rw [if_pos c1]
        exact hgo (by unfold isHl; rw [c1]; rfl)
      · have c1' : isDg (σ.2 101 i) = false := by simpa using c1
        rw [if_neg c1]
        by_cases c2 : a1 = 0
        · rw [if_pos c2]
          refine hst ?_
          unfold isHl
          rw [c1', ha.mp c2]
          rfl
        · rw [if_neg c2]
          have hal : al = true := by
            cases al with
            | true => rfl
            | false => exact absurd (ha.mpr rfl) c2
          refine sp_Reader_isLetter ?_
          have hb : (b1 (isLt (σ.2 101 i)) = 0) ↔ isLt (σ.2 101 i) = false := by
            cases isLt (σ.2 101 i) <;> simp [b1]
          by_cases c3 : b1 (isLt (σ.2 101 i)) = 0 ∧ (¬ (σ.2 101 i) = 46 ∧ (¬ (σ.2 101 i) = 95 ∧ (¬ (σ.2 101 i) = 45)))
          · rw [if_pos c3]
            refine hst ?_
            unfold isHl
            rw [c1', hal, hb.mp c3.1]
            simp [c3.2.1, c3.2.2.1, c3.2.2.2]
          · rw [if_neg c3]
            refine hgo ?_
            unfold isHl
            rw [c1', hal]
            by_cases c4 : isLt (σ.2 101 i) = true
            · rw [c4]; rfl
            · have c4' : isLt (σ.2 101 i) = false := by simpa using c4
              rw [c4']
              by_cases c5 : σ.2 101 i = 46
              · simp [c5]
              · by_cases c6 : σ.2 101 i = 95
                · simp [c6]
                · by_cases c7 : σ.2 101 i = 45
                  · simp [c7]
                  · exact absurd ⟨hb.mpr c4', c5, c6, c7⟩ c3
    · rw [if_neg (by omega)]
      exact hJ _ _ ⟨rfl, sk_end (by omega)⟩
  · rintro _ _ ⟨rfl, hi⟩
    refine WJ_dir ?_
    dsimp only
    rw [e22, j1]
    rw [hsk, hi] at h
    by_cases c : i = p
    · subst c
      rw [if_pos rfl] at h ⊢
      refine sp_Reader_fail ?_
      rw [pf_self j1]
      exact h
    · rw [if_neg c] at h
      rw [if_neg (by omega)]
      exact h
theorem j_letters {Q : IS → Prop} {al : Bool} {a1 : Int} (hS : JS L σ e) (hk : k ≤ 50) (ha : a1 = 0 ↔ al = false) (h : jst e k σ o τ) (hq : ∀ τ', jst e k σ (lts al (σ.2 101) e o) τ' → (τ.1 2 2 ≤ τ'.1 2 2) → Q τ') : w_Content_readLetters L a1 Q τ := by
  cases o with
  | some p =>
    obtain ⟨hp, rfl⟩ := h
    have hsl := sk_le (p := isHl al) (T := σ.2 101) hp
    refine sp_letters (al := al) (hS.jt hp rfl) ha ?_
    rw [pf_2]
    by_cases c : sk (isHl al) (σ.2 101) e p = p
    · rw [if_pos c]
      refine hq _ ?_ ?_
      · show jst e k σ (if sk (isHl al) (σ.2 101) e p = p then none else some (sk (isHl al) (σ.2 101) e p)) _
        rw [if_pos c]
        exact flt_none hS hp rfl
      · unfold flt
        split
        · have e1 : (pf (pf σ 2 2 (p : Int)) 2 4 5).1 2 2 = (pf σ 2 2 (p : Int)).1 2 2 := pf_nk (by decide)
          rw [e1]
          exact Int.le_refl _
        · exact Int.le_refl _
    · rw [if_neg c]
      refine hq _ ?_ ?_
      · show jst e k σ (if sk (isHl al) (σ.2 101) e p = p then none else some (sk (isHl al) (σ.2 101) e p)) _
        rw [if_neg c]
        exact ⟨hsl.2, pf_pf⟩
      · rw [pf_eq, pf_eq]
        omega
  | none =>
    obtain ⟨hb, h5⟩ := h
    obtain ⟨p, hj, hpk⟩ := hb.jt hS hk
    refine sp_letters (al := al) hj ha ?_
    have hge : p ≤ sk (isHl al) (τ.2 101) e p := sk_gt
    have hle : sk (isHl al) (τ.2 101) e p ≤ e + k := by
      by_cases z : p ≤ e
      · have := sk_le (p := isHl al) (T := τ.2 101) z
        omega
      · rw [sk_end (by omega)]
        exact hpk
    split
    · rw [flt_bad h5]
      exact hq _ ⟨hb, h5⟩ (Int.le_refl _)
    · refine hq _ ⟨hb.pos hle, by rw [pf_nk (by decide)]; exact h5⟩ ?_
      rw [pf_eq, hj.1]
      omega
theorem p_letters {Q : IS → Prop} {al : Bool} {a1 : Int} (hS : JS L σ e) (hk : k ≤ 50) (ha : a1 = 0 ↔ al = false) (h : jp e k σ o τ) (hq : ∀ τ', jp e k σ (lts al (σ.2 101) e o) τ' → (τ.1 2 2 ≤ τ'.1 2 2) → Q τ') : w_Content_readLetters L a1 Q τ := by
  obtain ⟨x, h⟩ := h
  cases o with
  | some p => exact j_letters (h.js hS.so) hk ha h.stt (fun τ' h' hp => hq τ' ⟨x, h.of (by rw [h.row] at h'; exact h')⟩ hp)
  | none => exact j_letters hS.so hk ha (o := none) h (fun τ' h' hp => hq τ' ⟨x, h'⟩ hp)
/-- one character further, whatever it is -/
theorem p_quote {Q : IS → Prop} {q : Int} (hS : JS L σ e) (hk : k + 1 ≤ 50) (hq1 : ∀ i, o = some i → q ≠ -1) (h : jp e k σ o τ) (hq : ∀ τ', jp e (k + 1) σ (qcl (σ.2 101) e q o) τ' → Q τ') : w_Content_readQuote L q Q τ := by
  have h9 := hS.2.2.1
  have hee := hS.2.1
  unfold w_Content_readQuote
  refine p_peek hS (by omega) h (fun v2 hv2 => WJ_dir ?_)
  dsimp only
  obtain ⟨r, hr, hrk⟩ := h.pos
  obtain ⟨x, hz⟩ := h
  cases o with
  | some p =>
    have e2 := hv2 p rfl
    have hp := hz.1
    have h22 := hz.2.2
    have hjs := hz.js hS.so
    by_cases c : v2 = q
    · rw [if_pos c, h22]
      refine ⟨⟨by omega, by omega⟩, ?_⟩
      rw [show (p : Int) + 1 = ((p + 1 : Nat) : Int) by omega]
      refine hq _ ?_
      show jp e (k + 1) σ (if lk (σ.2 101) e p = q then some (p + 1) else none) _
      rw [if_pos (by rw [← e2]; exact c)]
      have hlt := lk_lt (hq1 p rfl) (show lk (σ.2 101) e p = q by rw [← e2]; exact c)
      exact ⟨x, by omega, hz.2.1.pos, pf_eq⟩
    · rw [if_neg c]
      refine sp_Reader_fail ?_
      have e4 : (flt τ 5).1 2 2 = (p : Int) := by rw [flt_val hjs.2.2.2.1, pf_nk (by decide)]; exact h22
      rw [e4]
      refine ⟨⟨by omega, by omega⟩, ?_⟩
      rw [show (p : Int) + 1 = ((p + 1 : Nat) : Int) by omega]
      refine hq _ ?_
      show jp e (k + 1) σ (if lk (σ.2 101) e p = q then some (p + 1) else none) _
      rw [if_neg (by rw [← e2]; exact c)]
      have hn : jz e k (pf σ 1 13 x) none (flt τ 5) := by
        have h0 := flt_none (L := L) (k := k) (hz.js hS.so) hz.1 (pf_self h22).symm
        exact hz.of h0
      exact ⟨x, hn.1.pos (by omega), by rw [pf_nk (by decide)]; exact hn.2⟩
  | none =>
    have hgo : Q (pf τ 2 2 ((r + 1 : Nat) : Int)) := hq _ ⟨x, hz.1.pos (by omega), by rw [pf_nk (by decide)]; exact hz.2⟩
    by_cases c : v2 = q
    · rw [if_pos c, hr]
      exact ⟨⟨by omega, by omega⟩, by rw [show (r : Int) + 1 = ((r + 1 : Nat) : Int) by omega]; exact hgo⟩
    · rw [if_neg c]
      refine sp_Reader_fail ?_
      rw [flt_bad hz.2, hr]
      exact ⟨⟨by omega, by omega⟩, by rw [show (r : Int) + 1 = ((r + 1 : Nat) : Int) by omega]; exact hgo⟩
theorem p_quoteOf {Q : Int → IS → Prop} {s : Nat} {w : List Int} (hS : JS L σ e) (hk : k + 1 ≤ 50) (hs : ti s = w) (hw : 0 < w.length) (h : jp e k σ o τ) (hq : ∀ v τ', jp e (k + 1) σ (qof (σ.2 101) e w o) τ' → (∀ i, qof (σ.2 101) e w o = some i → v = σ.2 101 (i - 1) ∧ isQt v = true ∧ 1 ≤ i) → Q v τ') : w_Content_readQuoteOf L s Q τ := by
  have h9 := hS.2.2.1
  have hee := hS.2.1
  unfold w_Content_readQuoteOf
  refine p_need hS (by omega) hs hw h (fun τ1 h1 => p_skipSpace hS (by omega) h1 (fun _ τ2 h2 _ _ => p_need hS (by omega) ti_1012 (by decide) h2 (fun τ3 h3 => p_skipSpace hS (by omega) h3 (fun _ τ4 h4 _ _ => ?_))))
  have h4' : jp e k σ (eqs (σ.2 101) e (wd (σ.2 101) e w o)) τ4 := h4
  refine p_peek hS (by omega) h4' (fun v10 hv10 => p_atQuote hS (by omega) h4' (fun v12 h01 hv12 => WJ_dir ?_))
  dsimp only
  obtain ⟨r, hr, hrk⟩ := h4'.pos
  cases ho : eqs (σ.2 101) e (wd (σ.2 101) e w o) with
  | none =>
    rw [ho] at h4'
    have hno : qof (σ.2 101) e w o = none := by unfold qof; rw [ho]
    obtain ⟨x, hz⟩ := h4'
    have hgo : Q v10 (pf τ4 2 2 ((r + 1 : Nat) : Int)) := hq _ _ (by rw [hno]; exact ⟨x, hz.1.pos (by omega), by rw [pf_nk (by decide)]; exact hz.2⟩) (fun i hi => by rw [hno] at hi; cases hi)
    by_cases c : v12 = 0
    · rw [if_pos c]
      refine sp_Reader_fail ?_
      rw [flt_bad hz.2, hr]
      exact ⟨⟨by omega, by omega⟩, by rw [show (r : Int) + 1 = ((r + 1 : Nat) : Int) by omega]; exact hgo⟩
    · rw [if_neg c, hr]
      exact ⟨⟨by omega, by omega⟩, by rw [show (r : Int) + 1 = ((r + 1 : Nat) : Int) by omega]; exact hgo⟩
  | some i =>
    rw [ho] at h4'
    have e10 := hv10 i ho
    have e12 := hv12 i ho
    obtain ⟨x, hz⟩ := h4'
    have h22 := hz.2.2
    have hie := hz.1
    have hjs := hz.js hS.so
    by_cases c : isQt (lk (σ.2 101) e i) = true
    · have hyes : qof (σ.2 101) e w o = some (i + 1) := by unfold qof; rw [ho]; dsimp only; rw [if_pos c]
      rw [if_neg (by rw [e12, c]; decide), h22]
      have hlt : i < e ∧ lk (σ.2 101) e i = σ.2 101 i := by
        by_cases z : i < e
        · exact ⟨z, by unfold lk; rw [if_pos z]⟩
        · unfold lk at c
          rw [if_neg z] at c
          exact absurd c (by decide)
      refine ⟨⟨by omega, by omega⟩, ?_⟩
      rw [show (i : Int) + 1 = ((i + 1 : Nat) : Int) by omega]
      refine hq _ _ (by rw [hyes]; exact ⟨x, by omega, hz.2.1.pos, pf_eq⟩) (fun i' hi' => ?_)
      rw [hyes] at hi'
      cases hi'
      rw [show i + 1 - 1 = i by omega, ← hlt.2, ← e10]
      exact ⟨rfl, by rw [e10]; exact c, by omega⟩
    · have c' : isQt (lk (σ.2 101) e i) = false := by simpa using c
      have hno : qof (σ.2 101) e w o = none := by unfold qof; rw [ho]; dsimp only; rw [if_neg c]
      rw [if_pos (by rw [e12, c']; rfl)]
      refine sp_Reader_fail ?_
      have e4 : (flt τ4 5).1 2 2 = (i : Int) := by rw [flt_val hjs.2.2.2.1, pf_nk (by decide)]; exact h22
      rw [e4]
      refine ⟨⟨by omega, by omega⟩, ?_⟩
      rw [show (i : Int) + 1 = ((i + 1 : Nat) : Int) by omega]
      have hn : jz e k (pf σ 1 13 x) none (flt τ4 5) := hz.of (flt_none (L := L) (k := k) (hz.js hS.so) hz.1 (pf_self h22).symm)
      refine hq _ _ (by rw [hno]; exact ⟨x, hn.1.pos (by omega), by rw [pf_nk (by decide)]; exact hn.2⟩) (fun i' hi' => by rw [hno] at hi'; cases hi')
theorem jp.mono {k' : Nat} (h : jp e k σ o τ) (hk : k ≤ k') : jp e k' σ o τ := by
  obtain ⟨x, h⟩ := h
  cases o with
  | some p => exact ⟨x, h⟩
  | none => exact ⟨x, h.1.mono hk, h.2⟩
theorem jp.f315 {v : Int} (h : jp e k σ o τ) : jp e k (pf σ 3 15 v) o (pf τ 3 15 v) := by
  obtain ⟨x, h⟩ := h
  refine ⟨x, ?_⟩
  rw [pf_comm (by decide)]
  generalize pf σ 1 13 x = σ' at h
  cases o with
  | some p =>
    obtain ⟨h1, h2, h3⟩ := h
    refine ⟨h1, ⟨h2.1, fun o k hk => ?_, fun j k1 k2 => ?_⟩, by rw [pf_no (by decide)]; exact h3⟩
    · rw [pf_1, pf_1]
      split
      · rfl
      · exact h2.2.1 o k hk
    · rw [pf_no (by decide)]
      exact h2.2.2 j k1 k2
  | none =>
    obtain ⟨⟨h1, h2, ⟨q, h3, h4⟩, h5⟩, h6⟩ := h
    refine ⟨⟨h1, fun o j hj => ?_, ⟨q, by rw [pf_no (by decide)]; exact h3, h4⟩, fun j k1 k2 => ?_⟩, by rw [pf_no (by decide)]; exact h6⟩
    · rw [pf_1, pf_1]
      split
      · rfl
      · exact h2 o j hj
    · rw [pf_no (by decide)]
      exact h5 j k1 k2
end JHd
