/-! ===== the reference: names are parted ===== -/
/-- what is kept of a name beside it -/
noncomputable def plk (s : Str) : List Str := @ite _ (okq s) (Classical.propDecidable _) [pfx s, lcl s] []
section Kcl
variable {L : Nat → Nat} {rm nd o : Nat} {σ ρ τ : IS} {g g' : KG} {a a' A : AS} {bs bs' : List Nat} {Q : IS → Prop} {R : Int → IS → Prop} {x y v w : Int} {s t : Str}
theorem clk_mono {s : Str} : ∀ {n k : Nat}, k ≤ n → (clk s k).2 ≤ (clk s n).2
  | 0, k, h => by rw [show k = 0 by omega]; exact Nat.le_refl _
  | n + 1, k, h => by
    by_cases c : k = n + 1
    · rw [c]; exact Nat.le_refl _
    · have := clk_mono (s := s) (n := n) (k := k) (by omega)
      show (clk s k).2 ≤ (if s.getD n 0 = 58 then ((n : Int), (clk s n).2 + 1) else clk s n).2
      split
      · show _ ≤ (clk s n).2 + 1; omega
      · exact this
theorem KZ.st (h : KZ rm nd o σ g) (hv : Kn (gB g) v s) : ∃ (i b : Nat), v = (i : Int) ∧ i < 50000 ∧ σ.2 213 i = (b : Int) ∧ σ.2 214 i = (s.length : Int) ∧ b + s.length ≤ 170000 ∧ (∀ k, k < s.length → σ.2 212 (b + k) = s.getD k 0) ∧ ((b + s.length : Nat) : Int) ≤ σ.1 13 1 := by
  obtain ⟨⟨b1', b2, b3, b4⟩, -⟩ := h
  have hl := hv.lt
  obtain ⟨i, rfl⟩ : ∃ i : Nat, v = (i : Int) := ⟨v.toNat, by omega⟩
  have hi : i < (gB g).length := by omega
  have hs : (gB g).getD i [] = s := by
    have := hv.2
    rw [List.getD_eq_getElem?_getD]
    rw [show Int.toNat (i : Int) = i from rfl] at this
    rw [this]
    rfl
  have hb := b4 i hi
  rw [hs] at hb
  obtain ⟨q1, q2, -⟩ := b1'
  have q3 := q2 i (by omega)
  have e1 : bln σ i = s.length := by
    rw [← hb]
    unfold bstr
    rw [sl_ln]
  have e2 : (σ.2 214 i).toNat = s.length := e1
  refine ⟨i, (σ.2 213 i).toNat, rfl, by omega, by omega, by omega, by omega, fun k hk => ?_, by omega⟩
  have : s[k]? = some (σ.2 212 (bst σ i + k)) := by
    conv => lhs; rw [← hb]
    unfold bstr
    exact sl_get (by omega)
  rw [List.getD_eq_getElem?_getD, this]
  rfl
set_option maxHeartbeats 1000000 in
theorem sp_K_colon (hL : KLn L o rm nd) (h : KZ rm nd o σ g) (hv : Kn (gB g) v s) (hnm : ∀ c ∈ s, isNm c = true) (h1 : okq s → R (clk s s.length).1 σ) (h0 : ¬ okq s → ∀ z : Int, (z = -1 ∧ (clk s s.length).2 = 0) ∨ (z = -2 ∧ (clk s s.length).2 ≠ 0) → R z σ) : w_KDoc_colon L o v R σ := by
  obtain ⟨i, b, rfl, i1, i2, i3, i4, i5, -⟩ := h.st hv
  have lb := hL.1
  have hlen : w_KBook_length L (i : Int) = fun Q σ' => inL L 214 (i : Int) ∧ Q (σ'.2 214 i) σ' := rfl
  have hat : ∀ (k : Nat) (R' : Int → IS → Prop), k < s.length → R' (s.getD k 0) σ → w_KBook_at L (i : Int) (k : Int) R' σ := fun k R' hk hR => by
    unfold w_KBook_at
    rw [show Int.toNat (i : Int) = i from rfl, i2, show (b : Int) + (k : Int) = ((b + k : Nat) : Int) by omega, show Int.toNat ((b + k : Nat) : Int) = b + k from rfl, i5 k hk]
    exact ⟨⟨by omega, by have := lb.2.2.1; omega⟩, ⟨by omega, by omega⟩, ⟨by omega, by have := lb.2.1; omega⟩, hR⟩
  unfold w_KDoc_colon
  refine WL_ind (fun z ρ => ρ = σ ∧ ∃ n : Nat, z.2 = (n : Int) ∧ n ≤ s.length ∧ (((clk s n).2 = 0 ∧ z.1 = -1) ∨ ((clk s n).2 = 1 ∧ z.1 = (clk s n).1 ∧ 0 ≤ z.1))) (fun z _ => ((s.length : Int) - z.2).toNat) ?_ (-1, 0) σ ⟨rfl, 0, rfl, Nat.zero_le _, Or.inl ⟨rfl, rfl⟩⟩
  rintro ⟨z1, z2⟩ ρ ⟨rfl, n, hz2, hn, hz1⟩ K hI
  have hz2' : z2 = (n : Int) := hz2
  have hz1' : ((clk s n).2 = 0 ∧ z1 = -1) ∨ ((clk s n).2 = 1 ∧ z1 = (clk s n).1 ∧ 0 ≤ z1) := hz1
  subst hz2'
  try dsimp only
  unfold w_KBook_length
  rw [show Int.toNat (i : Int) = i from rfl, i3]
  refine ⟨⟨by omega, by have := lb.2.2.2.1; omega⟩, ?_⟩
  dsimp only
  by_cases c : n < s.length
  · rw [if_pos (by omega)]
    refine hat n _ c ?_
    try dsimp only
    refine WJ_dir ?_
    have ec : clk s (n + 1) = if s.getD n 0 = 58 then ((n : Int), (clk s n).2 + 1) else clk s n := rfl
    have hstep : ∀ y1 : Int, (((clk s (n + 1)).2 = 0 ∧ y1 = -1) ∨ ((clk s (n + 1)).2 = 1 ∧ y1 = (clk s (n + 1)).1 ∧ 0 ≤ y1)) → inR ((n : Int) + 1) ∧ K (y1, (n : Int) + 1) ρ := fun y1 hy => ⟨⟨by omega, by omega⟩, hI _ _ ⟨rfl, n + 1, by show (n : Int) + 1 = _; omega, by omega, hy⟩ (by show ((s.length : Int) - ((n : Int) + 1)).toNat < ((s.length : Int) - (n : Int)).toNat; omega)⟩
    by_cases c58 : s.getD n 0 = 58
    · rw [if_pos c58]
      rw [if_pos c58] at ec
      rcases hz1' with ⟨y1, y2⟩ | ⟨y1, y2, y3⟩
      · rw [if_pos (by omega)]
        refine hstep _ (Or.inr ?_)
        rw [ec]
        exact ⟨by show (clk s n).2 + 1 = 1; omega, rfl, by omega⟩
      · rw [if_neg (by omega)]
        have hm := clk_mono (s := s) (n := s.length) (k := n + 1) (by omega)
        rw [ec] at hm
        have hm' : (clk s n).2 + 1 ≤ (clk s s.length).2 := hm
        exact h0 (fun z => by have := z.1; omega) (-2) (Or.inr ⟨rfl, by omega⟩)
    · rw [if_neg c58]
      rw [if_neg c58] at ec
      refine hstep _ ?_
      rw [ec]
      exact hz1'
  · rw [if_neg (by omega)]
    have hn' : n = s.length := by omega
    subst hn'
    rcases hz1' with ⟨y1, y2⟩ | ⟨y1, y2, y3⟩
    · rw [if_pos (by omega)]
      exact h0 (fun z => by have := z.1; omega) (-1) (Or.inl ⟨rfl, y1⟩)
    · rw [if_neg (by omega)]
      refine WJ_dir ?_
      refine WJ_dir ?_
      have bad : ¬ okq s → R (if (0 : Int) = 0 then ((-2) : Int) else z1) ρ := fun hno => by
        rw [if_pos rfl]
        exact h0 hno (-2) (Or.inr ⟨rfl, by omega⟩)
      by_cases cp : 0 < z1
      · rw [if_pos cp]
        obtain ⟨k, hk⟩ : ∃ k : Nat, z1 = (k : Int) := ⟨z1.toNat, by omega⟩
        have hkl := (clk_in (s := s) s.length).1
        rw [i3, hk, show (k : Int) + 1 = ((k + 1 : Nat) : Int) by omega]
        refine ⟨⟨by omega, by omega⟩, ⟨by omega, by have := lb.2.2.2.1; omega⟩, ?_⟩
        by_cases cl : k + 1 < s.length
        · rw [if_pos (by omega)]
          refine ⟨⟨by omega, by omega⟩, hat (k + 1) _ cl ?_⟩
          try dsimp only
          refine sp_K_isStart ?_
          have hc : isNm (s.getD (k + 1) 0) = true := by
            refine hnm _ ?_
            rw [List.getD_eq_getElem?_getD, List.getElem?_eq_getElem cl]
            exact List.getElem_mem _
          have ek : (clk s s.length).1.toNat + 1 = k + 1 := by omega
          cases hst : isSt (s.getD (k + 1) 0) with
          | true =>
            rw [if_neg (by decide)]
            try dsimp only
            rw [if_neg (by decide), ← hk, y2]
            exact h1 ⟨y1, by omega, by omega, by rw [ek]; exact st_no hst⟩
          | false =>
            rw [if_pos (by decide)]
            try dsimp only
            rw [← hk]
            refine bad (fun z => ?_)
            have := z.2.2.2
            rw [ek] at this
            rw [isNm_eq, hst, this] at hc
            exact absurd hc (by decide)
        · rw [if_neg (by omega)]
          dsimp only
          rw [← hk]
          exact bad (fun z => by have := z.2.2.1; omega)
      · rw [if_neg cp]
        exact bad (fun z => by have := z.2.1; omega)
/-- a string that lies in the book is kept -/
theorem sp_K_bkP {p n : Nat} (hL : KLn L o rm nd) (h : KZ rm nd o σ g) (hp : ((p + n : Nat) : Int) ≤ σ.1 13 1) (hx : x = (p : Int)) (hy : y = (n : Int)) (hs : sl (σ.2 212) p n = s) (hcap : kcS (gB g) s) (hq : ∀ v τ, Kn (kpS (gB g) s) v s → KZ rm nd o τ (kpS (gB g) s, g.2) → frB σ τ → R v τ) : w_KBook_keep L 212 x y R σ := by
  subst hx hy
  obtain ⟨⟨b1', b2, b3, b4⟩, -⟩ := id h
  have lb := hL.1
  have hb1 := b1'.1
  refine sp_KBook_keep b1' hL.1 ⟨by omega, by omega, by have := lb.2.1; omega, by have := lb.2.1; omega⟩ (Or.inr (Or.inl rfl)) (fun _ => by omega) (fun hn => ?_) (fun v τ hk => ?_)
  · rw [show Int.toNat (p : Int) = p from rfl, show Int.toNat (n : Int) = n from rfl, hs] at hn
    rcases hcap with c | c
    · obtain ⟨j, j1, j2⟩ := mem_gd c
      exact absurd ((b4 j j1).trans j2) (hn j (by omega))
    · have : s.length = n := by rw [← hs]; exact sl_ln
      omega
  · have hk' : kept σ τ s v := by rw [← hs]; exact hk
    exact hq v τ (h.kpt hL.2.1 hk').2 (h.kpt hL.2.1 hk').1 hk'.2.2.2.1
end Kcl
