/-! ===== items keep what holds (3): the items ===== -/
section PK3
variable {rm nd : Nat} {a a' X : AS} {l : List Int} {g : Nat × Nat} {t : List Frm} {k : Nat}
theorem le_k {x k : Nat} : x ≤ x + k := Nat.le_add_right _ _
theorem le_kk {x y k : Nat} : x + y ≤ x + k + y := by omega
theorem tch_C1 {b : Bool} (h : ∀ x ∈ aL a, x.2.2.1 + x.2.2.2.1 ≤ (aB a).length ∧ x.2.2.2.2.1 ≤ x.2.2.2.1) : ∀ x ∈ aL (tch a b), x.2.2.1 + x.2.2.2.1 ≤ (aB a).length ∧ x.2.2.2.2.1 ≤ x.2.2.2.1 := by
  intro x hx
  cases hO : aO a with
  | nil => rw [tch_nil hO] at hx; exact h x hx
  | cons e r =>
    rw [tch_L hO] at hx
    obtain ⟨i, hi, hxi⟩ := List.getElem_of_mem hx
    rw [List.length_modify] at hi
    rw [List.getElem_modify] at hxi
    have hm := h _ (List.getElem_mem hi)
    split at hxi
    · rw [← hxi]; exact hm
    · rw [← hxi]; exact hm
theorem tch_och {b : Bool} (h : och (aL a) (aO a)) : och (aL (tch a b)) (aO a) := och_cg (Nat.le_of_eq tch_ln.symm) (fun _ hi => tch_par hi) h
theorem SK.lit (hI : GI rm nd a) (hF : aF a = (l, g) :: t) (hX : aF X = aF a) (hk : 0 < k ∧ k ≤ l.length) (hE : aE X = aE a ∨ ∃ x, aE X = aE a ++ [x] ∧ x.2.2.length ≤ aN a 8 ∧ 14 ≤ k)
    (hD : 16 * (aD X).length ≤ 16 * (aD a).length + k) (h0 : aN a 0 ≤ aN X 0 ∧ aN X 0 ≤ rm) (hA : 8 * (aA X).length + aN a 0 ≤ 8 * (aA a).length + k + aN X 0) (hS : evl (aS X) + aN a 0 ≤ evl (aS a) + k + aN X 0) (h1 : aN X 1 + aN a 0 ≤ aN a 1 + k + aN X 0) (h2 : aN X 2 ≤ aN a 2 + k) (hT : (aT X).length ≤ (aT a).length + k)
    (h3 : aN a 3 ≤ aN X 3 ∧ aN X 3 ≤ nd) (hN : ∀ j, 4 ≤ j → aN X j = aN a j) (hR : aR X = aR a) (hB : aB X = aB a) (hO : aO X = aO a) (hL : aL X = aL a ∨ ∃ b, aL X = aL (tch a b)) : SK rm nd a (adv X k) := by
  obtain ⟨⟨-, -, ⟨-, r2, -, -⟩, -, ⟨b1, b2⟩, ⟨p1, p2, p3, p4⟩, ho, ⟨gf1, -⟩, q1, q2, q3, -⟩, ⟨-, -, B3⟩, C1, -⟩ := id hI
  have hlen : (aL X).length = (aL a).length := by
    rcases hL with hL | ⟨b, hL⟩
    · rw [hL]
    · rw [hL, tch_ln]
  have hne : aL a = [] → aL X = [] := fun z => List.length_eq_zero_iff.mp (by rw [hlen, z]; rfl)
  refine SK.upd hI hF hX hk hE hD h0 (hN 8 (by omega)) (hN 7 (by omega)) hA hS h1 h2 hT ⟨by rw [hlen, hB]; omega, h3.2⟩ ?_ ?_ ?_ ?_ ?_ ?_ ?_ ?_ ?_ ?_
  · rw [hN 4 (by omega), hO]; exact ⟨p1, p2⟩
  · rw [hN 5 (by omega), hN 6 (by omega)]; exact ⟨p3, p4⟩
  · rw [hO]
    rcases hL with hL | ⟨b, hL⟩
    · rw [hL]; exact ho
    · rw [hL]; exact tch_och ho
  · rw [hO]; exact gf1
  · rw [hN 4 (by omega)]; exact fun z => hne (q1 z)
  · rw [hN 4 (by omega), hR]; exact q2
  · rw [hN 4 (by omega)]; exact q3
  · rw [hN 4 (by omega)]
    intro z z0
    have h1 := List.length_pos_iff.mpr (B3 z)
    rw [← hlen, z0, List.length_nil] at h1
    omega
  · rw [hB]
    rcases hL with hL | ⟨b, hL⟩
    · rw [hL]; exact C1
    · rw [hL]; exact tch_C1 C1
  · rw [hN 4 (by omega)]; exact fun _ z => z
theorem kI_spc (hI : GI rm nd a) (hF : aF a = (l, g) :: t) (hc : cur a = l) (hl : l ≠ []) (h : isSp (gd l 0) = true) (hs : iSpc a = .inr a') : SK rm nd a a' := by
  obtain ⟨⟨-, -, ⟨-, r2, -, -⟩, -, ⟨b1, b2⟩, -⟩, -⟩ := id hI
  have hlp := List.length_pos_iff.mpr hl
  unfold iSpc at hs
  rw [hc] at hs
  cases hs
  have h1 := sk_go (e := l.length) hlp h
  have h2 : 0 + 1 ≤ sk isSp (gd l) l.length (0 + 1) := sk_gt
  have h3 := sk_le (p := isSp) (T := gd l) (Nat.zero_le l.length)
  exact SK.lit (X := a) hI hF rfl ⟨by omega, h3.2⟩ (Or.inl rfl) le_k ⟨Nat.le_refl _, r2⟩ le_kk le_kk le_kk le_k le_k ⟨Nat.le_refl _, b2⟩ (fun _ _ => rfl) rfl rfl rfl (Or.inl rfl)
theorem kI_cmt (hI : GI rm nd a) (hF : aF a = (l, g) :: t) (hc : cur a = l) (hs : iCmt a = .inr a') : SK rm nd a a' := by
  obtain ⟨⟨-, -, ⟨-, r2, -, -⟩, -, ⟨b1, b2⟩, -⟩, -⟩ := id hI
  obtain ⟨t1, t2, t3, t4, t5, t6, t7, t8, t9, t10⟩ := tch_other (a := a) (sp := false)
  unfold iCmt at hs
  rw [hc] at hs
  cases hk : cmt (gd l) l.length 0 with
  | none => rw [hk] at hs; cases hs
  | some k =>
    rw [hk] at hs
    cases hs
    have := cmt_le hk
    exact SK.lit hI hF t1 ⟨by omega, this.2⟩ (Or.inl t2) (by rw [t5]; exact le_k) (by rw [t3]; exact ⟨Nat.le_refl _, r2⟩) (by rw [t3, t6]; exact le_kk) (by rw [t3, t9]; exact le_kk) (by rw [t3]; exact le_kk) (by rw [t3]; exact le_k) (by rw [t7]; exact le_k) (by rw [t3]; exact ⟨Nat.le_refl _, b2⟩) (fun j _ => by rw [t3]) t4 t8 t10 (Or.inr ⟨false, rfl⟩)
theorem hasc_le {s : List Int} : (hasc s).toNat ≤ 1 := by unfold hasc; split <;> omega
theorem kI_pin {cn : Bool} (hI : GI rm nd a) (hF : aF a = (l, g) :: t) (hc : cur a = l) (hs : iPin nd cn a = .inr a') : SK rm nd a a' := by
  obtain ⟨⟨-, -, ⟨-, r2, -, -⟩, -, ⟨b1, b2⟩, -⟩, -⟩ := id hI
  obtain ⟨t1, t2, t3, t4, t5, t6, t7, t8, t9, t10⟩ := tch_other (a := a) (sp := false)
  unfold iPin at hs
  rw [hc] at hs
  cases hk : pin (gd l) l.length 0 with
  | none => rw [hk] at hs; cases hs
  | some r =>
    obtain ⟨n, f, q⟩ := r
    rw [hk] at hs
    dsimp only at hs
    have hp := pin_lt hk
    have hh := hasc_le (s := sl (gd l) 2 (n - 2))
    by_cases c : cn = true
    · rw [if_pos c] at hs
      split at hs
      · cases hs
      · rename_i hn
        cases hs
        have hn3 : aN a 3 + 1 ≤ nd := by
          by_cases z : nd < aN a 3 + 1
          · exact absurd ⟨c, z⟩ hn
          · omega
        refine SK.lit hI hF t1 ⟨by omega, hp.2.2.2⟩ (Or.inl t2) (show 16 * (aD (tch a false)).length ≤ _ by rw [t5]; exact le_k) (show aN a 0 ≤ aN (tch a false) 0 ∧ aN (tch a false) 0 ≤ rm by rw [t3]; exact ⟨Nat.le_refl _, r2⟩) (show 8 * (aA (tch a false)).length + aN a 0 ≤ 8 * (aA a).length + q + aN (tch a false) 0 by rw [t3, t6]; exact le_kk) ?_ (show aN (tch a false) 1 + aN a 0 ≤ aN a 1 + q + aN (tch a false) 0 by rw [t3]; exact le_kk) ?_ (show (aT (tch a false)).length ≤ _ by rw [t7]; exact le_k) (show aN a 3 ≤ aN a 3 + 1 ∧ aN a 3 + 1 ≤ nd from ⟨by omega, hn3⟩) (fun j hj => ?_) t4 t8 t10 (Or.inr ⟨false, rfl⟩)
        · show evl (aS a ++ [.inr _]) + aN a 0 ≤ evl (aS a) + q + aN (tch a false) 0
          rw [evl_app, t3]
          show evl (aS a) + 5 + aN a 0 ≤ _
          omega
        · show aN a 2 + (hasc (sl (gd l) 2 (n - 2))).toNat ≤ _
          omega
        · show (if j = 2 then _ else if j = 3 then _ else aN (tch a false) j) = _
          rw [if_neg (by omega), if_neg (by omega), t3]
    · rw [if_neg (fun z => c z.1), if_neg c] at hs
      cases hs
      refine SK.lit (X := sN a 2 (aN a 2 + (hasc (sl (gd l) 2 (n - 2))).toNat)) hI hF rfl ⟨by omega, hp.2.2.2⟩ (Or.inl rfl) le_k ⟨Nat.le_refl _, r2⟩ le_kk le_kk le_kk ?_ le_k ⟨Nat.le_refl _, b2⟩ (fun j hj => ?_) rfl rfl rfl (Or.inl rfl)
      · show aN a 2 + (hasc (sl (gd l) 2 (n - 2))).toNat ≤ _
        omega
      · show (if j = 2 then _ else aN a j) = _
        rw [if_neg (by omega)]
theorem wd_end {T : Nat → Int} {e : Nat} {c : Int} {o : Option Nat} {k : Nat} (hc : c ≠ -1) (h : wd T e [c] o = some k) : 0 < k ∧ k ≤ e := by
  cases o with
  | none => cases h
  | some i =>
    have := wd1 hc h
    omega
theorem kI_not (hI : GI rm nd a) (hF : aF a = (l, g) :: t) (hc : cur a = l) (hs : iNot a = .inr a') : SK rm nd a a' := by
  obtain ⟨⟨-, -, ⟨-, r2, -, -⟩, -, ⟨b1, b2⟩, -⟩, -⟩ := id hI
  unfold iNot at hs
  rw [hc] at hs
  split at hs
  · rename_i s k h1 h2
    split at hs
    · rename_i n h3
      cases hs
      have hk := wd_end (by decide) (show wd (gd l) l.length [62] _ = some k from h2)
      have hh := hasc_le (s := sl (gd l) s (n - s))
      refine SK.lit (X := sN (sT a (aT a ++ [sl (gd l) s (n - s)])) 2 (aN a 2 + (hasc (sl (gd l) s (n - s))).toNat)) hI hF rfl hk (Or.inl rfl) le_k ⟨Nat.le_refl _, r2⟩ le_kk le_kk le_kk ?_ ?_ ⟨Nat.le_refl _, b2⟩ (fun j hj => ?_) rfl rfl rfl (Or.inl rfl)
      · show aN a 2 + (hasc (sl (gd l) s (n - s))).toNat ≤ _
        omega
      · show (aT a ++ [_]).length ≤ _
        rw [List.length_append, List.length_singleton]
        omega
      · show (if j = 2 then _ else aN a j) = _
        rw [if_neg (by omega)]
    · cases hs
  · cases hs
theorem kI_eld (hI : GI rm nd a) (hF : aF a = (l, g) :: t) (hc : cur a = l) (h9 : 9 ≤ l.length) (hs : iEld a = .inr a') : SK rm nd a a' := by
  obtain ⟨⟨-, -, ⟨-, r2, -, -⟩, -, ⟨b1, b2⟩, -⟩, -⟩ := id hI
  unfold iEld at hs
  rw [hc] at hs
  split at hs
  · rename_i s k h1 h2
    split at hs
    · rename_i n c h3 h4
      split at hs
      · cases hs
      · cases hs
        have g1 := spc_gt h9 h1
        have g2 := nmg_lt h3
        have h4' : spc (gd l) l.length (nmg (gd l) l.length true (spc (gd l) l.length (some (0 + 9)))) = some c := h4
        rw [show 0 + 9 = 9 from rfl, h1, h3] at h4'
        have g3 := spc_gt g2.2.2 h4'
        have h2' : wd (gd l) l.length [62] (asp (gd l) l.length ((elc (gd l) l.length 0).bind (cnt (gd l) l.length))) = some k := h2
        rw [h4, Option.bind_some] at h2'
        have hk := wd_end (by decide) h2'
        have hk16 : 16 ≤ k := by
          cases hcn : cnt (gd l) l.length c with
          | none => rw [hcn] at h2'; cases h2'
          | some m =>
            rw [hcn] at h2'
            have g4 := cnt_gt hcn
            have g5 : m ≤ sk isSp (gd l) l.length m := sk_gt
            have g6 := wd1 (by decide) (show wd (gd l) l.length [62] (some (sk isSp (gd l) l.length m)) = some k from h2')
            omega
        refine SK.lit (X := sD a (aD a ++ [(sl (gd l) s (n - s), cnK (gd l) l.length c, sl (gd l) c (k - c))])) hI hF rfl hk (Or.inl rfl) ?_ ⟨Nat.le_refl _, r2⟩ le_kk le_kk le_kk le_k le_k ⟨Nat.le_refl _, b2⟩ (fun j hj => rfl) rfl rfl rfl (Or.inl rfl)
        show 16 * (aD a ++ [_]).length ≤ _
        rw [List.length_append, List.length_singleton]
        omega
    · cases hs
  · cases hs
theorem kI_atl (hI : GI rm nd a) (hF : aF a = (l, g) :: t) (hc : cur a = l) (h9 : 9 ≤ l.length) (hs : iAtl rm a = .inr a') : SK rm nd a a' := by
  obtain ⟨⟨-, -, ⟨-, r2, -, -⟩, -, ⟨b1, b2⟩, -⟩, -⟩ := id hI
  unfold iAtl at hs
  rw [hc] at hs
  split at hs
  · rename_i s k h1 h2
    split at hs
    · rename_i n h3
      have g1 := spc_gt h9 h1
      have g2 := nmg_lt h3
      have h2' : wd (gd l) l.length [62] (asp (gd l) l.length ((nmg (gd l) l.length true (spc (gd l) l.length (some (0 + 9)))).bind (adk (gd l) l.length (l.length + 1)))) = some k := h2
      rw [show 0 + 9 = 9 from rfl, h1, h3, Option.bind_some] at h2'
      have hk := wd_end (by decide) h2'
      split at hs
      · cases hs
      · rename_i c m ad hd
        cases hs
        cases hz : adk (gd l) l.length (l.length + 1) n with
        | none => rw [hz] at h2'; cases h2'
        | some z =>
          rw [hz] at h2'
          have g5 : z ≤ sk isSp (gd l) l.length z := sk_gt
          have g6 := wd1 (by decide) (show wd (gd l) l.length [62] (some (sk isSp (gd l) l.length z)) = some k from h2')
          have hn := dfs_num _ n z _ _ _ g2.2.2 r2 hz hd
          refine SK.lit (X := sN (sN (sA a ad) 0 c) 1 m) hI hF rfl hk (Or.inl rfl) le_k ⟨hn.1, hn.2.1⟩ ?_ ?_ ?_ le_k le_k ⟨Nat.le_refl _, b2⟩ (fun j hj => ?_) rfl rfl rfl (Or.inl rfl)
          · show 8 * ad.length + aN a 0 ≤ 8 * (aA a).length + k + c
            omega
          · show evl (aS a) + aN a 0 ≤ evl (aS a) + k + c
            omega
          · show m + aN a 0 ≤ aN a 1 + k + c
            omega
          · show (if j = 1 then m else if j = 0 then c else aN a j) = _
            rw [if_neg (by omega), if_neg (by omega)]
    · cases hs
  · cases hs
end PK3
