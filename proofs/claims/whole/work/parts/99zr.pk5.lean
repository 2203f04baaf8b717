/-! ===== items keep what holds (5): tags, and all ===== -/
section PK5
variable {rm nd : Nat} {a a' X : AS} {l : List Int} {g : Nat × Nat} {t : List Frm} {k : Nat}
def nl1 (b : AS) (c m n3 : Nat) (L' : List Elm) (B' : List Att) (S' : List Evt) (O' : List Nat) : AS := sO (sS (sB (sL (sN (sN (sN (sN b 0 c) 1 m) 3 n3) 4 2) L') B') S') O'
theorem nl1_get {b : AS} {c m n3 : Nat} {L' : List Elm} {B' : List Att} {S' : List Evt} {O' : List Nat} : aF (nl1 b c m n3 L' B' S' O') = aF b ∧ aE (nl1 b c m n3 L' B' S' O') = aE b ∧ (∀ j, j = 2 ∨ 5 ≤ j → aN (nl1 b c m n3 L' B' S' O') j = aN b j) ∧ (aN (nl1 b c m n3 L' B' S' O') 0 = c ∧ aN (nl1 b c m n3 L' B' S' O') 1 = m ∧ aN (nl1 b c m n3 L' B' S' O') 3 = n3 ∧ aN (nl1 b c m n3 L' B' S' O') 4 = 2) ∧ aR (nl1 b c m n3 L' B' S' O') = aR b ∧ aD (nl1 b c m n3 L' B' S' O') = aD b ∧ aA (nl1 b c m n3 L' B' S' O') = aA b ∧ aT (nl1 b c m n3 L' B' S' O') = aT b ∧ aL (nl1 b c m n3 L' B' S' O') = L' ∧ aB (nl1 b c m n3 L' B' S' O') = B' ∧ aS (nl1 b c m n3 L' B' S' O') = S' ∧ aO (nl1 b c m n3 L' B' S' O') = O' := by
  refine ⟨rfl, rfl, fun j hj => ?_, ⟨rfl, rfl, rfl, rfl⟩, rfl, rfl, rfl, rfl, rfl, rfl, rfl, rfl⟩
  show (if j = 4 then 2 else if j = 3 then n3 else if j = 1 then m else if j = 0 then c else aN b j) = _
  rw [if_neg (by omega), if_neg (by omega), if_neg (by omega), if_neg (by omega)]
theorem ncl_get {b : AS} {v : Nat} {S' : List Evt} {O' : List Nat} : aF (sN (sO (sS b S') O') 4 v) = aF b ∧ aE (sN (sO (sS b S') O') 4 v) = aE b ∧ (∀ j, j ≠ 4 → aN (sN (sO (sS b S') O') 4 v) j = aN b j) ∧ aN (sN (sO (sS b S') O') 4 v) 4 = v ∧ aR (sN (sO (sS b S') O') 4 v) = aR b ∧ aD (sN (sO (sS b S') O') 4 v) = aD b ∧ aA (sN (sO (sS b S') O') 4 v) = aA b ∧ aT (sN (sO (sS b S') O') 4 v) = aT b ∧ aL (sN (sO (sS b S') O') 4 v) = aL b ∧ aB (sN (sO (sS b S') O') 4 v) = aB b ∧ aS (sN (sO (sS b S') O') 4 v) = S' ∧ aO (sN (sO (sS b S') O') 4 v) = O' := by
  refine ⟨rfl, rfl, fun j hj => ?_, rfl, rfl, rfl, rfl, rfl, rfl, rfl, rfl, rfl⟩
  show (if j = 4 then v else aN b j) = _
  rw [if_neg hj]
/-- a new element, the text not gone on -/
def nl0 (a : AS) (nm : Str) (gv al : List Att) (c m : Nat) : AS := nl1 (tch a false) c m (aN a 3 + 1 + al.length) (aL (tch a false) ++ [(nm, par a, (aB a).length, al.length, gv.length, false, false)]) (aB a ++ al) (aS a ++ [.inl (-3 - ((aL a).length : Int))]) ((aL a).length :: aO a)
theorem nel_adv {nm : Str} {gv al : List Att} {c m : Nat} (hF : aF a = (l, g) :: t) : nel a nm gv al k c m = adv (nl0 a nm gv al c m) k := by
  have hFt : aF (tch a false) = (l, g) :: t := by rw [tch_other.1]; exact hF
  have hF0 : aF (nl0 a nm gv al c m) = (l, g) :: t := by unfold nl0; rw [nl1_get.1]; exact hFt
  rw [adv_of hF0]
  unfold nel nl0 nl1
  rw [adv_of hFt]
  generalize tch a false = b
  rfl
/-- what a new element leaves, whether it ends at once -/
theorem kI_nel {nm : Str} {gv al : List Att} {c m v : Nat} {S' : List Evt} {O' : List Nat} (hI : GI rm nd a) (hF : aF a = (l, g) :: t) (hk : 0 < k ∧ k ≤ l.length) (h4 : aN a 4 = 0 ∨ aN a 4 = 2) (hc : aN a 0 ≤ c ∧ c ≤ rm) (hm : m + aN a 0 ≤ aN a 1 + k + c) (hnd : aN a 3 + 1 + al.length ≤ nd) (hgv : gv.length ≤ al.length) (hX : X = nl0 a nm gv al c m ∨ X = sN (sO (sS (nl0 a nm gv al c m) S') O') 4 v)
    (hS : evl (aS X) ≤ evl (aS a) + k) (hO : (aO X = (aL a).length :: aO a ∧ aN X 4 = 2) ∨ (aO X = aO a ∧ aN X 4 = if aO a = [] then 3 else 2)) : SK rm nd a (adv X k) := by
  obtain ⟨⟨-, -, ⟨-, r2, -, -⟩, -, ⟨b1, b2⟩, ⟨p1, p2, p3, p4⟩, ho, ⟨gf1, gf2⟩, q1, q2, q3, -⟩, ⟨-, -, B3⟩, C1, C2⟩ := id hI
  obtain ⟨t1, t2, t3, t4, t5, t6, t7, t8, t9, t10⟩ := tch_other (a := a) (sp := false)
  have hg1 := nl1_get (b := tch a false) (c := c) (m := m) (n3 := aN a 3 + 1 + al.length) (L' := aL (tch a false) ++ [(nm, par a, (aB a).length, al.length, gv.length, false, false)]) (B' := aB a ++ al) (S' := aS a ++ [.inl (-3 - ((aL a).length : Int))]) (O' := (aL a).length :: aO a)
  have hg0 : aF X = aF a ∧ aE X = aE a ∧ (∀ j, j = 2 ∨ 5 ≤ j → aN X j = aN a j) ∧ (aN X 0 = c ∧ aN X 1 = m ∧ aN X 3 = aN a 3 + 1 + al.length) ∧ aR X = aR a ∧ aD X = aD a ∧ aA X = aA a ∧ aT X = aT a ∧ aL X = aL (tch a false) ++ [(nm, par a, (aB a).length, al.length, gv.length, false, false)] ∧ aB X = aB a ++ al := by
    obtain ⟨w1, w2, w3, ⟨w4, w5, w6, w7⟩, w8, w9, w10, w11, w12, w13, w14, w15⟩ := hg1
    rw [t1] at w1
    rw [t2] at w2
    rw [t4] at w8
    rw [t5] at w9
    rw [t6] at w10
    rw [t7] at w11
    rcases hX with hX | hX
    · rw [hX]
      unfold nl0
      exact ⟨w1, w2, fun j hj => by rw [w3 j hj, t3], ⟨w4, w5, w6⟩, w8, w9, w10, w11, w12, w13⟩
    · rw [hX]
      unfold nl0
      obtain ⟨x1, x2, x3, x4, x5, x6, x7, x8, x9, x10, -, -⟩ := ncl_get (b := nl1 (tch a false) c m (aN a 3 + 1 + al.length) (aL (tch a false) ++ [(nm, par a, (aB a).length, al.length, gv.length, false, false)]) (aB a ++ al) (aS a ++ [.inl (-3 - ((aL a).length : Int))]) ((aL a).length :: aO a)) (v := v) (S' := S') (O' := O')
      exact ⟨x1.trans w1, x2.trans w2, fun j hj => by rw [x3 j (by omega), w3 j hj, t3], ⟨(x3 0 (by decide)).trans w4, (x3 1 (by decide)).trans w5, (x3 3 (by decide)).trans w6⟩, x5.trans w8, x6.trans w9, x7.trans w10, x8.trans w11, x9.trans w12, x10.trans w13⟩
  obtain ⟨eF, eE, eN, ⟨eN0, eN1, eN3⟩, eR, eD, eA, eT, eL, eB⟩ := hg0
  have hln : (aL X).length = (aL a).length + 1 := by rw [eL, List.length_append, tch_ln, List.length_singleton]
  have hnew := och_new (x := (nm, par a, (aB a).length, al.length, gv.length, false, false)) ho rfl
  have hne : aO a = [] → ¬ 1 < (aF a).length := fun z z1 => by
    have := q3 z1
    have h2 : aN a 4 = 2 := by omega
    exact p2.mp h2 z
  refine SK.upd hI hF eF hk (Or.inl eE) (by rw [eD]; exact le_k) (by rw [eN0]; exact hc) (eN 8 (by omega)) (eN 7 (by omega)) (by rw [eA, eN0]; omega) (by rw [eN0]; omega) (by rw [eN1, eN0]; exact hm) (by rw [eN 2 (by omega)]; exact le_k) (by rw [eT]; exact le_k) (by rw [hln, eB, eN3, List.length_append]; exact ⟨by omega, hnd⟩) ?_ (by rw [eN 5 (by omega), eN 6 (by omega)]; exact ⟨p3, p4⟩) ?_ ?_ (fun z => ?_) (fun z => ?_) (fun z => ?_) (fun _ z => ?_) ?_ (fun z _ => ?_)
  · rcases hO with ⟨o1, o2⟩ | ⟨o1, o2⟩
    · rw [o1, o2]; exact ⟨by omega, ⟨fun _ => List.cons_ne_nil _ _, fun _ => rfl⟩⟩
    · rw [o1, o2]
      by_cases z : aO a = []
      · rw [if_pos z]; exact ⟨by omega, ⟨fun y => by omega, fun y => absurd z y⟩⟩
      · rw [if_neg z]; exact ⟨by omega, ⟨fun _ => z, fun _ => rfl⟩⟩
  · rw [eL]
    rcases hO with ⟨o1, o2⟩ | ⟨o1, o2⟩
    · rw [o1]; exact hnew
    · rw [o1]; exact hnew.2.2.2
  · rcases hO with ⟨o1, o2⟩ | ⟨o1, o2⟩
    · rw [o1, List.length_cons]; exact fun f hf => Nat.le_succ_of_le (gf1 f hf)
    · rw [o1]; exact gf1
  · exfalso
    rcases hO with ⟨o1, o2⟩ | ⟨o1, o2⟩
    · omega
    · rw [o2] at z
      split at z <;> omega
  · exfalso
    rcases hO with ⟨o1, o2⟩ | ⟨o1, o2⟩
    · omega
    · rw [o2] at z
      split at z <;> omega
  · right
    rcases hO with ⟨o1, o2⟩ | ⟨o1, o2⟩
    · exact o2
    · rw [o2, if_neg (fun y => hne y z)]
  · rw [z, List.length_nil] at hln
    omega
  · rw [eL, eB, List.length_append]
    intro x hx
    rcases List.mem_append.mp hx with hx | hx
    · have := tch_C1 C1 x hx
      exact ⟨by omega, this.2⟩
    · rw [List.mem_singleton.mp hx]
      exact ⟨Nat.le_refl _, hgv⟩
  · have := q3 z
    omega
theorem kI_tag (hI : GI rm nd a) (hF : aF a = (l, g) :: t) (hc : cur a = l) (h4 : aN a 4 = 0 ∨ aN a 4 = 2) (hs : iTag rm nd a = .inr a') : SK rm nd a a' := by
  obtain ⟨⟨-, -, ⟨-, r2, -, -⟩, -⟩, -⟩ := id hI
  unfold iTag at hs
  rw [hc] at hs
  split at hs
  · rename_i k n h1 h2
    split at hs
    · cases hs
    · rename_i c m gv h3
      split at hs
      · cases hs
      · rename_i hnd
        have g1 := nmg_lt h2
        have h1' : wd (gd l) l.length [62] (skp (gd l) l.length [47] (asp (gd l) l.length ((nmg (gd l) l.length true (some (0 + 1))).bind (atk (gd l) l.length (l.length + 1))))) = some k := h1
        rw [show 0 + 1 = 1 from rfl, h2, Option.bind_some] at h1'
        have hk := wd_end (by decide) h1'
        cases hz : atk (gd l) l.length (l.length + 1) n with
        | none => rw [hz] at h1'; cases h1'
        | some z =>
          rw [hz] at h1'
          have hn := gvs_num _ n z _ _ _ g1.2.2 r2 hz h3
          rw [List.length_nil] at hn
          have g5 : z ≤ sk isSp (gd l) l.length z := sk_gt
          have h1s : wd (gd l) l.length [62] (if mt (gd l) l.length (sk isSp (gd l) l.length z) [47] = true then some (sk isSp (gd l) l.length z + 1) else some (sk isSp (gd l) l.length z)) = some k := h1'
          have hzk : z < k := by
            split at h1s
            · have := wd1 (by decide) h1s; omega
            · have := wd1 (by decide) h1s; omega
          have hal : gv.length ≤ (gv ++ dfl (aA a) (sl (gd l) 1 (n - 1)) gv).length := by rw [List.length_append]; omega
          have ev1 : evl (aS a ++ [.inl (-3 - ((aL a).length : Int))]) = evl (aS a) + 1 := by rw [evl_app]; rfl
          have hS0 : aS (nl0 a (sl (gd l) 1 (n - 1)) gv (gv ++ dfl (aA a) (sl (gd l) 1 (n - 1)) gv) c m) = aS a ++ [.inl (-3 - ((aL a).length : Int))] := by unfold nl0; exact nl1_get.2.2.2.2.2.2.2.2.2.2.1
          have hO0 : aO (nl0 a (sl (gd l) 1 (n - 1)) gv (gv ++ dfl (aA a) (sl (gd l) 1 (n - 1)) gv) c m) = (aL a).length :: aO a := by unfold nl0; exact nl1_get.2.2.2.2.2.2.2.2.2.2.2
          have h40 : aN (nl0 a (sl (gd l) 1 (n - 1)) gv (gv ++ dfl (aA a) (sl (gd l) 1 (n - 1)) gv) c m) 4 = 2 := by unfold nl0; exact nl1_get.2.2.2.1.2.2.2
          have hF0 : aF (nl0 a (sl (gd l) 1 (n - 1)) gv (gv ++ dfl (aA a) (sl (gd l) 1 (n - 1)) gv) c m) = (l, g) :: t := by
            unfold nl0
            rw [nl1_get.1, tch_other.1]; exact hF
          have hs' := Sum.inr.inj hs
          rw [← hs']
          generalize gv ++ dfl (aA a) (sl (gd l) 1 (n - 1)) gv = al at *
          generalize sl (gd l) 1 (n - 1) = nm at *
          by_cases c47 : gd l (k - 2) = 47
          · rw [if_pos c47, nel_adv hF, cls_adv hF0 hO0]
            have hcl : cls (nl0 a nm gv al c m) = sN (sO (sS (nl0 a nm gv al c m) (aS (nl0 a nm gv al c m) ++ [.inl (-1)])) (aO a)) 4 (if aO a = [] then 3 else 2) := by unfold cls; rw [hO0]
            refine kI_nel hI hF hk h4 ⟨hn.1, hn.2.1⟩ (by omega) (by omega) hal (Or.inr hcl) ?_ (Or.inr ⟨by rw [hcl]; exact ncl_get.2.2.2.2.2.2.2.2.2.2.2, by rw [hcl]; exact ncl_get.2.2.2.1⟩)
            have : aS (cls (nl0 a nm gv al c m)) = (aS a ++ [.inl (-3 - ((aL a).length : Int))]) ++ [.inl (-1)] := by rw [hcl, ncl_get.2.2.2.2.2.2.2.2.2.2.1, hS0]
            rw [this, evl_app, ev1]
            show evl (aS a) + 1 + 1 ≤ _
            omega
          · rw [if_neg c47, nel_adv hF]
            refine kI_nel (S' := []) (O' := []) (v := 0) hI hF hk h4 ⟨hn.1, hn.2.1⟩ (by omega) (by omega) hal (Or.inl rfl) ?_ (Or.inl ⟨hO0, h40⟩)
            rw [hS0, ev1]
            omega
  · cases hs
theorem stk : STK rm nd := by
  intro a a' hI hs
  obtain ⟨⟨-, -, -, -, -, ⟨p1, p2, -, -⟩, -⟩, -⟩ := id hI
  unfold stp at hs
  by_cases c : cur a = []
  · rw [if_pos c] at hs
    exact SK.fin hI hs c
  · rw [if_neg c] at hs
    obtain ⟨l, g, t, hF⟩ : ∃ l g t, aF a = (l, g) :: t := by
      cases hF : aF a with
      | nil => exact absurd (by unfold cur; rw [hF]) c
      | cons f t => exact ⟨f.1, f.2, t, rfl⟩
    have hc : cur a = l := by unfold cur; rw [hF]
    have hl : l ≠ [] := by rw [← hc]; exact c
    by_cases c1 : aN a 4 = 1
    · rw [if_pos c1] at hs
      unfold iSub at hs
      rw [hc] at hs
      split at hs
      · rename_i h; exact kI_spc hI hF hc hl h hs
      · split at hs
        · exact kI_prf hI hF hc c1 hs
        · split at hs
          · rename_i h; exact kI_sbe hI hF hc c1 h.2 hs
          · split at hs
            · exact kI_cmt hI hF hc hs
            · split at hs
              · exact kI_pin hI hF hc hs
              · split at hs
                · rename_i h; exact kI_eld hI hF hc (wd_bad (l := [60, 33, 69, 76, 69, 77, 69, 78, 84]) ti_1028 (by decide) h) hs
                · split at hs
                  · rename_i h; exact kI_atl hI hF hc (wd_bad (l := [60, 33, 65, 84, 84, 76, 73, 83, 84]) ti_1029 (by decide) h) hs
                  · split at hs
                    · rename_i h; exact kI_ent hI hF hc (wd_bad (l := [60, 33, 69, 78, 84, 73, 84, 89]) ti_1030 (by decide) h) hs
                    · split at hs
                      · exact kI_not hI hF hc hs
                      · cases hs
    · rw [if_neg c1] at hs
      by_cases c2 : aN a 4 = 2
      · rw [if_pos c2] at hs
        unfold iCon at hs
        rw [hc] at hs
        split at hs
        · exact kI_ref hI hF hc c2 hs
        · rename_i h38
          split at hs
          · rename_i h60; exact kI_run hI hF hc hl h60 h38 hs
          · split at hs
            · exact kI_end hI hF hc c2 hs
            · split at hs
              · exact kI_cmt hI hF hc hs
              · split at hs
                · exact kI_pin hI hF hc hs
                · split at hs
                  · exact kI_sec hI hF hc hs
                  · split at hs
                    · cases hs
                    · exact kI_tag hI hF hc (Or.inr c2) hs
      · rw [if_neg c2] at hs
        unfold iOut at hs
        rw [hc] at hs
        split at hs
        · rename_i h; exact kI_spc hI hF hc hl h hs
        · split at hs
          · exact kI_cmt hI hF hc hs
          · split at hs
            · exact kI_pin hI hF hc hs
            · split at hs
              · cases hs
              · rename_i hn
                have h40 : aN a 4 = 0 := by
                  by_cases z : aN a 4 = 3
                  · exact absurd (Or.inl z) hn
                  · omega
                split at hs
                · exact kI_tag hI hF hc (Or.inl h40) hs
                · split at hs
                  · cases hs
                  · exact kI_dtd hI hF hc h40 hs
end PK5
