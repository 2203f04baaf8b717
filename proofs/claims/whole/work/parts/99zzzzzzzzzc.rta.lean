/-! ===== what is written, read again: what the reference wants of it (pure) ===== -/
/-- the names of a document are known -/
def KNW (bk : List Str) (el : List Elm) (at_ : List Att) (S : List Evt) : Prop := (∀ e, e < el.length → (el.getD e elD).1 ∈ bk) ∧ (∀ e, e < el.length → ∀ t ∈ ats at_ (el.getD e elD), t.1 ∈ bk ∧ ∀ s ∈ plk t.1, s ∈ bk) ∧ (∀ t s, Sum.inr (t, s) ∈ S → t ∈ bk) ∧ ∀ s ∈ pfN el el.length, s ∈ bk
section Rt15
variable {el : List Elm} {at_ : List Att} {S r : List Evt} {N0 rm nd m z : Nat} {sk : List Nat} {b b' : AS} {bk : List Str}
theorem kcL_in : ∀ {l : List Str}, (∀ s ∈ l, s ∈ bk) → kcL bk l ∧ kpL bk l = bk
  | [], _ => ⟨trivial, rfl⟩
  | s :: l, h => by
    have h1 : kpS bk s = bk := by unfold kpS; rw [if_pos (h s List.mem_cons_self)]
    obtain ⟨h2, h3⟩ := kcL_in (l := l) (fun x hx => h x (List.mem_cons_of_mem _ hx))
    refine ⟨⟨Or.inl (h s List.mem_cons_self), ?_⟩, ?_⟩
    · rw [h1]; exact h2
    · show kpL (kpS bk s) l = bk
      rw [h1]; exact h3
theorem RT.nmE (h : RT el at_ S N0 b r sk m z) : ∀ x ∈ (aL b).map e5, ∃ e, e < el.length ∧ x = e5W el at_ e := fun x hx => by
  rw [h.2.2.1.1] at hx
  obtain ⟨e, e1, e2⟩ := List.mem_map.mp hx
  have := List.mem_range.mp e1
  exact ⟨e, by have := h.2.2.1.2.2.2; omega, e2.symm⟩
theorem RT.nmA (h : RT el at_ S N0 b r sk m z) : ∀ x ∈ aB b, ∃ e, e < el.length ∧ ∃ t ∈ ats at_ (el.getD e elD), x = cutA t := fun x hx => by
  rw [h.2.2.1.2.1] at hx
  obtain ⟨e, e1, e2⟩ := List.mem_flatMap.mp hx
  have := List.mem_range.mp e1
  refine ⟨e, by have := h.2.2.1.2.2.2; omega, ?_⟩
  obtain ⟨t, t1, t2⟩ := List.mem_map.mp e2
  exact ⟨t, (mem_wat.mp t1).1, t2.symm⟩
theorem RT.nmI (h : RT el at_ S N0 b r sk m z) : ∀ t s, Sum.inr (t, s) ∈ aS b → ∃ s', Sum.inr (t, s') ∈ S := fun t s hx => by
  obtain ⟨d, d1, d2⟩ := h.2.2.2.1
  rw [d2] at hx
  obtain ⟨v, v1, v2⟩ := List.mem_map.mp hx
  cases v with
  | inl c => cases v2
  | inr y =>
    obtain ⟨t', s'⟩ := y
    cases v2
    exact ⟨s', by rw [d1]; exact List.mem_append_left _ v1⟩
/-- a step, known which -/
theorem RT.nxt (hc : RTc el at_ S) (hrm : N0 ≤ rm) (hnd : el.length + (flW el at_ el.length).length + pis S ≤ nd) (h : RT el at_ S N0 b r sk m z) (hne : cur b ≠ []) : ∃ b' r' sk' m' z', stp rm nd b = .inr b' ∧ RT el at_ S N0 b' r' sk' m' z' ∧ (cur b').length < (cur b).length := by
  rcases RT.step hc hrm hnd h with ⟨h1, -⟩ | h1
  · unfold fin at h1
    simp only [Bool.and_eq_true] at h1
    exact absurd (List.isEmpty_iff.mp h1.1.1) hne
  · exact h1
theorem RT.tgw (hc : RTc el at_ S) (hrm : N0 ≤ rm) (hnd : el.length + (flW el at_ el.length).length + pis S ≤ nd) (h : RT el at_ S N0 b r sk m z) (ht : isTg b) : ∃ b' r' sk' m' z' n c mm gv, stp rm nd b = .inr b' ∧ RT el at_ S N0 b' r' sk' m' z' ∧ nmg (gd (cur b)) (cur b).length true (some 1) = some n ∧ gvs rm b (gd (cur b)) (sl (gd (cur b)) 1 (n - 1)) (atL (gd (cur b)) (cur b).length ((cur b).length + 1) n) (aN b 0) (aN b 1) [] = .inr (c, mm, gv) ∧ gv.map (fun x => x.1) = atN (gd (cur b)) (atL (gd (cur b)) (cur b).length ((cur b).length + 1) n) ∧ (aL b').map e5 = (aL b).map e5 ++ [(sl (gd (cur b)) 1 (n - 1), par b, (aB b).length, gv.length, gv.length)] ∧ aB b' = aB b ++ gv ∧ (∀ x ∈ gv, x.2.2 = none) := by
  obtain ⟨b', r', sk', m', z', h1, h2, -⟩ := h.nxt hc hrm hnd ht.1
  obtain ⟨-, -, -, -, -, t6⟩ := tg_N (rm := rm) (nd := nd) ht
  have h1' := h1
  rw [t6] at h1'
  obtain ⟨k', n, κ, c, mm, gv, y1, y2, y3, ⟨y4, y5, y6, y7⟩, y8, y9, y10, y11, y12⟩ := iTag_at h1'
  obtain ⟨new, z1, z2, z3, -⟩ := gvs_new _ n κ _ _ _ (by omega) y3 y8
  rw [List.nil_append] at z1
  subst z1
  have hA : aA b = [] := h.1.2.2.2.2.1
  have hd : dfl (aA b) (sl (gd (cur b)) 1 (n - 1)) gv = [] := by rw [hA]; rfl
  rw [hd, List.append_nil] at y11 y12
  refine ⟨b', r', sk', m', z', n, c, mm, gv, h1, h2, y2, y8, z2, y11, y12, fun x hx => ?_⟩
  rw [z3 x hx, hA]
  rfl
/-- what an item keeps is known -/
theorem RT.stNw (hc : RTc el at_ S) (hrm : N0 ≤ rm) (hnd : el.length + (flW el at_ el.length).length + pis S ≤ nd) (h : RT el at_ S N0 b r sk m z) (hk : KNW bk el at_ S) : ∀ s ∈ stN rm b, s ∈ bk := by
  have hn4 := h.n4
  have hpin : cur b ≠ [] → stp rm nd b = iPin nd true b → ∀ s ∈ nmP b, s ∈ bk := fun hne he s hs => by
    obtain ⟨b', r', sk', m', z', h1, h2, -⟩ := h.nxt hc hrm hnd hne
    rw [he] at h1
    unfold nmP at hs
    unfold iPin at h1
    split at h1
    · cases h1
    · rename_i n f q hp
      rw [hp] at hs
      rw [List.mem_singleton.mp hs]
      split at h1
      · cases h1
      · cases h1
        obtain ⟨s', hs'⟩ := h2.nmI (sl (gd (cur b)) 2 (n - 2)) (sl (gd (cur b)) f (q - 2 - f)) (by
          rw [adv_other.2.2.2.2.2.2.2.2.1]
          exact List.mem_append_right _ List.mem_cons_self)
        exact hk.2.2.1 _ _ hs'
  have htag : isTg b → ∀ s ∈ nmT rm b, s ∈ bk := fun ht s hs => by
    obtain ⟨b', r', sk', m', z', n, c, mm, gv, h1, h2, y2, y8, z2, y11, y12, -⟩ := h.tgw hc hrm hnd ht
    have hA : aA b = [] := h.1.2.2.2.2.1
    unfold nmT at hs
    split at hs
    · rename_i k0 n0 hk0 hn0
      rw [y2] at hn0
      cases hn0
      rw [y8] at hs
      dsimp only at hs
      rcases List.mem_cons.mp hs with q | q
      · obtain ⟨e, e1, e2⟩ := h2.nmE _ (by rw [y11]; exact List.mem_append_right _ List.mem_cons_self)
        rw [q, show sl (gd (cur b)) 1 (n - 1) = (el.getD e elD).1 from congrArg (fun w => w.1) e2]
        exact hk.1 e e1
      · rcases List.mem_append.mp q with q | q
        · unfold gnl at q
          obtain ⟨x, x1, x2⟩ := List.mem_flatMap.mp q
          rw [← z2] at x1
          obtain ⟨w, w1, w2⟩ := List.mem_map.mp x1
          obtain ⟨e, e1, t, t1, t2⟩ := h2.nmA w (by rw [y12]; exact List.mem_append_right _ w1)
          have hx : x = t.1 := by rw [← w2, t2]; rfl
          obtain ⟨k1, k2⟩ := hk.2.1 e e1 t t1
          rw [hx] at x2
          rcases List.mem_cons.mp x2 with p | p
          · rw [p]; exact k1
          · exact k2 s p
        · rw [hA] at q
          cases q
    · cases hs
  intro s hs
  unfold stN at hs
  split at hs
  · cases hs
  · rename_i hne
    rw [if_neg hn4.1] at hs
    split at hs
    · rename_i h2
      split at hs
      · rename_i hd
        refine hpin hne ?_ s hs
        unfold stp
        rw [if_neg hne, if_neg hn4.1, if_pos h2, iCon_d, hd]
        rfl
      · split at hs
        · rename_i hd
          exact htag ⟨hne, Or.inl ⟨h2, hd⟩⟩ s hs
        · cases hs
    · rename_i h2
      split at hs
      · rename_i hd
        refine hpin hne ?_ s hs
        unfold stp
        rw [if_neg hne, if_neg hn4.1, if_neg h2, iOut_d, hd]
        rfl
      · split at hs
        · rename_i hd
          exact htag ⟨hne, Or.inr ⟨hn4.1, h2, hd⟩⟩ s hs
        · split at hs
          · rename_i hd
            exfalso
            obtain ⟨b', r', sk', m', z', h1, h3, -⟩ := h.nxt hc hrm hnd hne
            have : stp rm nd b = iDtd b := by
              unfold stp
              rw [if_neg hne, if_neg hn4.1, if_neg h2, iOut_d, hd]
              rfl
            rw [this] at h1
            unfold iDtd at h1
            split at h1
            · split at h1
              · cases h1
              · cases h1
                have := h3.1.2.2.1
                rw [adv_other.2.2.1] at this
                cases this
            · cases h1
          · cases hs
theorem evl_mono {l l' : List Evt} : evl l ≤ evl (l ++ l') := by rw [evl_app]; omega
/-- what an item violates -/
theorem RT.stVw (hc : RTc el at_ S) (hrm : N0 ≤ rm) (hnd : el.length + (flW el at_ el.length).length + pis S ≤ nd) (h : RT el at_ S N0 b r sk m z) (hs : stp rm nd b = .inr b') (k : Nat) : (aB b).length + (aL b).length + evl (aS b) + stV rm b k ≤ (aB b').length + (aL b').length + evl (aS b') := by
  have hn4 := h.n4
  have hD : aD b = [] := h.1.2.2.2.1
  -- the stream grows
  have hS : ∃ l, aS b' = aS b ++ l := by
    rcases stp_pi hs with z | z | ⟨l, -, l2, -⟩
    · obtain ⟨l, -, l2, -⟩ := iTag_n3 z
      exact ⟨l, l2⟩
    · unfold iPin at z
      split at z
      · cases z
      · split at z
        · cases z
        · cases z
          exact ⟨_, by rw [adv_other.2.2.2.2.2.2.2.2.1]; rfl⟩
    · exact ⟨l, l2⟩
  obtain ⟨l, hl⟩ := hS
  have hev : evl (aS b) ≤ evl (aS b') := by rw [hl]; exact evl_mono
  have hcl : ∀ A : AS, aD A = [] → clV A k ≤ 1 := fun A hA => by
    unfold clV
    split
    · omega
    · rw [hA]
      show (if k = 5 then 1 else 0) ≤ 1
      split <;> omega
  by_cases ht : isTg b
  · obtain ⟨b2, r', sk', m', z', n, c, mm, gv, h1, h2, y2, y8, z2, y11, y12, y13⟩ := h.tgw hc hrm hnd ht
    rw [hs] at h1
    cases h1
    have hLn : (aL b').length = (aL b).length + 1 := by
      have := congrArg List.length y11
      rw [List.length_map, List.length_append, List.length_map] at this
      exact this
    have hBn : (aB b').length = (aB b).length + gv.length := by rw [y12, List.length_append]
    obtain ⟨-, q2, -⟩ := tg_N (rm := rm) (nd := nd) ht
    have hA : aA b = [] := h.1.2.2.2.2.1
    have htz : tgs (aA b) gv k ≤ gv.length := by
      unfold tgs
      have : ∀ (g : List Att), (∀ x ∈ g, x.2.2 = none) → (g.map (fun z => tgz (aA b) z k)).sum ≤ g.length := fun g => by
        induction g with
        | nil => exact fun _ => Nat.le_refl _
        | cons x g ih =>
          intro hg
          rw [List.map_cons, List.sum_cons, List.length_cons]
          have h1 := ih (fun y hy => hg y (List.mem_cons_of_mem _ hy))
          have h2 : tgz (aA b) x k ≤ 1 := by
            unfold tgz
            rw [hg x List.mem_cons_self]
            dsimp only
            split <;> omega
          omega
      exact this gv y13
    have hdv : dvT rm b k ≤ gv.length + 1 := by
      unfold dvT
      split
      · rename_i kk n0 hk0 hn0
        rw [y2] at hn0
        cases hn0
        rw [y8]
        dsimp only
        have hrq : ∀ q : Str, rqN (aA b) q gv (aA b).length = 0 := fun q => by rw [hA]; rfl
        rw [hrq]
        have e0 : (if k = 9 then 0 else 0) = 0 := by split <;> rfl
        rw [e0]
        have := hcl (nel b (sl (gd (cur b)) 1 (n - 1)) gv (gv ++ dfl (aA b) (sl (gd (cur b)) 1 (n - 1)) gv) kk c mm) (nel_fl.2.2.2.1.trans hD)
        split <;> omega
      · omega
    have : stV rm b k ≤ gv.length + 1 := by
      unfold stV
      rw [if_neg ht.1, if_neg hn4.1]
      rcases ht.2 with ⟨q1, q2⟩ | ⟨q1, q2, q3⟩
      · rw [if_pos q1, q2]; exact hdv
      · rw [if_neg q2, q3]; exact hdv
    omega
  · have ht2 : ¬ isAl b := fun z => hn4.1 z.2.1
    obtain ⟨s1, s2, -⟩ := pl_S ht ht2 hs
    have hLn : (aL b').length = (aL b).length := by
      have := congrArg List.length s1
      rw [List.length_map, List.length_map] at this
      exact this
    rw [hLn, s2]
    by_cases c0 : cur b = []
    · have : stV rm b k = 0 := by unfold stV; rw [if_pos c0]
      omega
    by_cases c2 : aN b 4 = 2 ∧ dCon b = 2
    · have : stV rm b k = clV b k := by
        unfold stV
        rw [if_neg c0, if_neg hn4.1, if_pos c2.1, if_pos c2.2]
      have h1 := hcl b hD
      have hst : stp rm nd b = iEnd b := by
        unfold stp
        rw [if_neg c0, if_neg hn4.1, if_pos c2.1, iCon_d, c2.2]
        rfl
      rw [hst] at hs
      unfold iEnd at hs
      split at hs
      · rename_i k0 n0 e0 r0 f0 F0 h1 h2 h3 h4
        split at hs
        · cases hs
        · split at hs
          · cases hs
          · cases hs
            have hO : aO (adv b k0) = e0 :: r0 := by rw [adv_other.2.2.2.2.2.2.2.2.2, h3]
            rw [cls_S hO, adv_other.2.2.2.2.2.2.2.2.1, evl_app]
            show _ ≤ _ + _ + (evl (aS b) + (0 + 1))
            omega
      · cases hs
    · have : stV rm b k = 0 := by
        unfold stV
        rw [if_neg c0, if_neg hn4.1]
        by_cases c4 : aN b 4 = 2
        · rw [if_pos c4, if_neg (fun q => c2 ⟨c4, q⟩), if_neg (fun q => ht ⟨c0, Or.inl ⟨c4, q⟩⟩)]
        · rw [if_neg c4, if_neg (fun q => ht ⟨c0, Or.inr ⟨hn4.1, c4, q⟩⟩)]
      omega
theorem kNs_evm {d : List Evt} : kNs (d.map evm) = kNs d := by
  unfold kNs
  rw [List.foldl_map]
  congr 1
  funext s v
  cases v <;> rfl
theorem RT.gkw (hrm : N0 ≤ rm) (hnd : el.length + (flW el at_ el.length).length + pis S ≤ nd) (h : RT el at_ S N0 b r sk m z) : GK rm nd b := by
  have hL := h.len
  have hpb := h.pisB
  have hn := h.n4
  obtain ⟨⟨f1, f2, f3, f4, f5, f6, f7⟩, ⟨n0, n1, n3, n4, n5, n6, n8⟩, ⟨t1, t2, t3, t4⟩, ⟨d, d1, d2⟩, ⟨q1, q2⟩, ⟨e1, e2⟩, -⟩ := h
  have hrem : rem b = (txR el at_ z r sk m).length := by
    unfold rem
    rw [f1]
    rfl
  have hfl : (flW el at_ m).length ≤ (flW el at_ el.length).length := by
    have := flW_mono (el := el) (at_ := at_) (m := m) (el.length - m)
    rw [Nat.add_sub_cancel' t4] at this
    exact this
  refine ⟨⟨by omega, by omega⟩, ⟨by omega, by omega⟩, ⟨by rw [hL, n3]; omega, by rw [n3, t2]; omega⟩, ⟨?_, ?_⟩, by rw [f7]; exact t3, ?_, fun q => absurd n6 q, ⟨by rw [f2]; exact Nat.zero_le _, by rw [f4]; exact Nat.zero_le _, by rw [f5]; exact Nat.zero_le _, by rw [f6]; exact Nat.zero_le _⟩, ⟨?_, ?_⟩, ?_, by omega⟩
  · rw [n4]
    unfold phs
    split
    · split <;> omega
    · omega
  · rw [f7]
    exact ⟨fun q e => hn.2.1 e q, fun q => hn.2.2.1 q⟩
  · intro f hf
    rw [f1] at hf
    rw [List.mem_singleton.mp hf]
    exact Nat.zero_le _
  · rw [f1]
    exact List.pairwise_singleton _ _
  · intro f hf
    rw [f1] at hf
    rw [List.mem_singleton.mp hf]
    exact Nat.zero_le _
  · intro i hi
    rw [f1] at hi
    simp at hi
theorem RT.kww {L : Nat → Nat} {o : Nat} (hc : RTc el at_ S) (hrm : N0 ≤ rm) (hnd : el.length + (flW el at_ el.length).length + pis S ≤ nd) (hnd2 : nd ≤ 16384) (hk : (kNs S).1 + 2 ≤ 120000) (hL8 : 16500 ≤ L (rfo o 8)) (h : RT el at_ S N0 b r sk m z) : KW L o b := by
  have hn := h.n4
  have hL := h.len
  have htg : isTg b → (aB b).length + tgn b + (aA b).length ≤ L (rfo o 8) := fun ht => by
    obtain ⟨b', r', sk', m', z', n, c, mm, gv, h1, h2, y2, y8, z2, y11, y12, y13⟩ := h.tgw hc hrm hnd ht
    have hG := (h2.gkw (rm := rm) (nd := nd) hrm hnd).2.2.1
    have hA : aA b = [] := h.1.2.2.2.2.1
    have : tgn b = gv.length := by
      unfold tgn
      rw [y2]
      dsimp only
      have := congrArg List.length z2
      rw [List.length_map] at this
      unfold atN at this
      rw [List.length_map] at this
      exact this.symm
    have h4 : (aB b').length = (aB b).length + gv.length := by rw [y12, List.length_append]
    rw [hA, this]
    show _ + _ + 0 ≤ _
    omega
  have hpar : ∀ y ∈ aL b, -1 ≤ y.2.1 ∧ y.2.1 < ((aL b).length : Int) := fun y hy => by
    obtain ⟨i, i1, i2⟩ := List.getElem_of_mem hy
    have he : i < m := by omega
    have := (h.getN he).2.1
    rw [List.getD_eq_getElem?_getD, List.getElem?_eq_getElem i1] at this
    have h3 : y.2.1 = (el.getD i elD).2.1 := by rw [← i2]; exact this
    have := hc.1.1 i (by have := h.2.2.1.2.2.2; omega)
    omega
  obtain ⟨⟨f1, f2, f3, f4, f5, f6, f7⟩, ⟨n0, n1, n3, n4, n5, n6, n8⟩, ⟨t1, t2, t3, t4⟩, ⟨d, d1, d2⟩, -, -, -⟩ := h
  refine ⟨fun q => absurd q hn.1, ?_, ⟨fun y hy => (hpar y hy).2, fun y hy => (hpar y hy).1⟩, ?_, ⟨?_, ?_, ?_⟩, ⟨?_, ?_, ?_⟩, ⟨by rw [f4]; decide, by rw [f6]; decide, by rw [f2]; decide, fun q => absurd q hn.1⟩, fun q => absurd q hn.1, fun q => absurd q hn.1⟩
  · rw [d2, kNs_evm]
    have : (kNs d).1 ≤ (kNs S).1 := by rw [d1]; exact kNs_mono
    omega
  · intro q
    by_cases c0 : cur b = []
    · have : tgn b = 0 := by
        unfold tgn
        rw [c0]
        rfl
      have hfl : (flW el at_ m).length ≤ (flW el at_ el.length).length := by
        have := flW_mono (el := el) (at_ := at_) (m := m) (el.length - m)
        rw [Nat.add_sub_cancel' t4] at this
        exact this
      rw [this, f5, t2]
      show _ + 0 + 0 ≤ _
      omega
    · exact htg ⟨c0, q⟩
  · rw [f5]; intro d hd; exact absurd hd (Nat.not_lt_zero _)
  · rw [f5]; intro d hd; exact absurd hd (Nat.not_lt_zero _)
  · rw [f5]; intro d hd; exact absurd hd (Nat.not_lt_zero _)
  · rw [f4, f5]; exact Nat.zero_le _
  · rw [f4]; exact Nat.zero_le _
  · rw [f4]; intro x hx; cases hx
/-- what the loop of the reference keeps -/
def INVr (el : List Elm) (at_ : List Att) (S : List Evt) (N0 : Nat) (bk0 : List Str) (b : AS) (bk : List Str) (v : Nat → Nat) : Prop := bk = bk0 ∧ (∃ r sk m z, RT el at_ S N0 b r sk m z) ∧ ∀ k, k ≠ 22 → v k ≤ (aB b).length + (aL b).length + evl (aS b)
theorem INVr_1 {L : Nat → Nat} {o : Nat} {bk0 : List Str} (hc : RTc el at_ S) (hrm : N0 ≤ rm) (hrm2 : rm ≤ 262144) (hnd : el.length + (flW el at_ el.length).length + pis S ≤ nd) (hnd2 : nd ≤ 16384) (hk : (kNs S).1 + 2 ≤ 120000) (hL8 : 16500 ≤ L (rfo o 8)) (hw : KNW bk0 el at_ S) : ∀ a bk v, INVr el at_ S N0 bk0 a bk v → bk.Nodup → GK rm nd a ∧ KW L o a ∧ kcL bk (stN rm a) ∧ (∀ k, k ≠ 22 → v k ≤ 300000000) ∧ aN a 1 ≤ 300000000 ∧ (kNs (aS a)).1 ≤ 120000 := by
  rintro a bk v ⟨rfl, ⟨r, sk, m, z, h⟩, hv⟩ -
  have hG := h.gkw (rm := rm) (nd := nd) hrm hnd
  have hK := h.kww (o := o) hc hrm hnd hnd2 hk hL8
  have h0 := h.2.1.1
  refine ⟨hG, hK, (kcL_in (h.stNw hc hrm hnd hw)).1, fun k hk' => ?_, by rw [h.2.1.2.1]; omega, by have := hK.2.1; omega⟩
  have h1 := hv k hk'
  have h2 := hG.2.2.1
  have h3 := hG.2.1.1
  omega
theorem INVr_2 {bk0 : List Str} (hc : RTc el at_ S) (hrm : N0 ≤ rm) (hnd : el.length + (flW el at_ el.length).length + pis S ≤ nd) (hw : KNW bk0 el at_ S) : ∀ a bk v a', INVr el at_ S N0 bk0 a bk v → stp rm nd a = .inr a' → gmu rm a' < gmu rm a ∧ ∀ v', (∀ k, k ≠ 22 → v' k = v k + stV rm a k) → INVr el at_ S N0 bk0 a' (kpL bk (stN rm a)) v' := by
  rintro a bk v a' ⟨rfl, ⟨r, sk, m, z, h⟩, hv⟩ hs
  have hne : cur a ≠ [] := fun e => by
    unfold stp at hs
    rw [if_pos e] at hs
    unfold iFin at hs
    rw [h.1.1] at hs
    cases hs
  obtain ⟨b', r', sk', m', z', h1, h2, h3⟩ := h.nxt (rm := rm) (nd := nd) hc hrm hnd hne
  rw [hs] at h1
  cases h1
  refine ⟨?_, fun v' hv' => ⟨(kcL_in (h.stNw hc hrm hnd hw)).2, ⟨r', sk', m', z', h2⟩, fun k hk => ?_⟩⟩
  · unfold gmu
    rw [h2.2.1.1, h.2.1.1, h.1.1, h2.1.1]
    rw [h.txt, h2.txt] at h3
    show 2 * (rm - N0) + (2 * (txR el at_ z' r' sk' m').length + 1 + 0) < 2 * (rm - N0) + (2 * (txR el at_ z r sk m).length + 1 + 0)
    omega
  · have h4 := RT.stVw hc hrm hnd h hs k
    have h5 := hv k hk
    rw [hv' k hk]
    omega
end Rt15
