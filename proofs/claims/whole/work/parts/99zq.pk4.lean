/-! ===== items keep what holds (4): the others, and all of them ===== -/
section PK4
variable {rm nd : Nat} {a a' X : AS} {l : List Int} {g : Nat × Nat} {t : List Frm} {k : Nat}
theorem kI_ent (hI : GI rm nd a) (hF : aF a = (l, g) :: t) (hc : cur a = l) (h8 : 8 ≤ l.length) (hs : iEnt a = .inr a') : SK rm nd a a' := by
  obtain ⟨⟨-, -, ⟨-, r2, -, -⟩, -, ⟨b1, b2⟩, -⟩, ⟨B1, -, -⟩, -⟩ := id hI
  have hl8 : l.length ≤ aN a 8 := B1 (l, g) (by rw [hF]; exact List.mem_cons_self)
  unfold iEnt at hs
  rw [hc] at hs
  split at hs
  · rename_i f tt k h1 h2 h3
    split at hs
    · cases hs
    · rename_i hq
      split at hs
      · rename_i n m h4 h5
        split at hs
        · cases hs
        · rename_i tx h6
          cases hs
          have hf9 : 9 ≤ f := by
            unfold enF at h1
            split at h1
            · cases h1
            · rename_i s hs1
              have g1 := spc_gt (show 0 + 8 ≤ l.length by omega) hs1
              split at h1
              · rename_i cp
                have g2 := wd_bad (l := [37]) ti_1033 (by decide) cp
                have g3 : [(37 : Int)].length = 1 := rfl
                have := spc_gt (by omega) h1
                omega
              · cases h1; omega
          have g2 := nmg_lt h4
          have h2' : spc (gd l) l.length (nmg (gd l) l.length true (enF (gd l) l.length 0)) = some tt := h2
          rw [h1, h4] at h2'
          have g3 := spc_gt g2.2.2 h2'
          have hqt : isQt (lk (gd l) l.length tt) = true := by simpa using hq
          have h5' : (if isQt (lk (gd l) l.length tt) = true then etg (gd l) l.length (gd l tt) (l.length + 1) (tt + 1) else none) = some m := h5
          rw [if_pos hqt] at h5'
          have hq34 : lk (gd l) l.length tt = 34 ∨ lk (gd l) l.length tt = 39 := by simpa [isQt] using hqt
          have hqT : gd l tt = 34 ∨ gd l tt = 39 := by
            rcases hq34 with z | z
            · exact Or.inl (lk_lt (by decide) z).2
            · exact Or.inr (lk_lt (by decide) z).2
          have g5 := etg_ltl hqT _ _ _ h5'
          have h3' : wd (gd l) l.length [62] (asp (gd l) l.length (enB (gd l) l.length 0)) = some k := h3
          have hB : enB (gd l) l.length 0 = some m := by
            unfold enB
            rw [h2]
            dsimp only
            rw [if_pos hqt]
            exact h5
          rw [hB] at h3'
          have hk := wd_end (by decide) h3'
          have g6 : m ≤ sk isSp (gd l) l.length m := sk_gt
          have g7 := wd1 (by decide) (show wd (gd l) l.length [62] (some (sk isSp (gd l) l.length m)) = some k from h3')
          have hh := hasc_le (s := sl (gd l) f (n - f))
          have htx := enx_len _ _ _ h6
          rw [sl_len2, List.length_nil] at htx
          generalize hcl : aN a 2 + (hasc (sl (gd l) f (n - f))).toNat = cl at *
          by_cases ck : (eno (aE a) (sl (gd l) f (n - f)) (enP (gd l) l.length 0)).isSome = true
          · rw [if_pos ck]
            refine SK.lit (X := sN a 2 cl) hI hF rfl hk (Or.inl rfl) le_k ⟨Nat.le_refl _, r2⟩ le_kk le_kk le_kk ?_ le_k ⟨Nat.le_refl _, b2⟩ (fun j hj => ?_) rfl rfl rfl (Or.inl rfl)
            · show cl ≤ aN a 2 + k
              omega
            · show (if j = 2 then _ else aN a j) = _
              rw [if_neg (by omega)]
          · rw [if_neg ck]
            refine SK.lit (X := sN (sE a (aE a ++ [(sl (gd l) f (n - f), enP (gd l) l.length 0, tx)])) 2 cl) hI hF rfl hk (Or.inr ⟨_, rfl, ?_, ?_⟩) le_k ⟨Nat.le_refl _, r2⟩ le_kk le_kk le_kk ?_ le_k ⟨Nat.le_refl _, b2⟩ (fun j hj => ?_) rfl rfl rfl (Or.inl rfl)
            · show tx.length ≤ aN a 8
              omega
            · omega
            · show cl ≤ aN a 2 + k
              omega
            · show (if j = 2 then _ else aN a j) = _
              rw [if_neg (by omega)]
      · cases hs
  · cases hs
theorem kI_dtd (hI : GI rm nd a) (hF : aF a = (l, g) :: t) (hc : cur a = l) (hph : aN a 4 = 0) (hs : iDtd a = .inr a') : SK rm nd a a' := by
  obtain ⟨⟨-, -, ⟨-, r2, -, -⟩, -, ⟨b1, b2⟩, ⟨p1, p2, p3, p4⟩, ho, ⟨gf1, -⟩, q1, q2, q3, -⟩, -, C1, -⟩ := id hI
  unfold iDtd at hs
  rw [hc] at hs
  split at hs
  · rename_i n s k h1 h2 h3
    split at hs
    · cases hs
    · cases hs
      have hk : 0 < k ∧ k ≤ l.length := by
        have h3' : ((dtn (gd l) l.length 0).bind (dtE (gd l) l.length)).bind (dtb (gd l) l.length) = some k := h3
        cases hz : (dtn (gd l) l.length 0).bind (dtE (gd l) l.length) with
        | none => rw [hz] at h3'; cases h3'
        | some z =>
          rw [hz, Option.bind_some] at h3'
          unfold dtb at h3'
          split at h3'
          · rename_i c
            have := wd_bad (l := [91]) ti_1024 (by decide) c
            have g3 : [(91 : Int)].length = 1 := rfl
            cases h3'
            omega
          · exact wd_end (by decide) h3'
      have hO : aO a = [] := by
        cases hO : aO a with
        | nil => rfl
        | cons x r => have := p2.mpr (by rw [hO]; exact List.cons_ne_nil _ _); omega
      have hv : (if gd l (k - 1) = 91 then 1 else 0) ≤ 1 := by split <;> omega
      generalize (if gd l (k - 1) = 91 then 1 else 0) = v at *
      have hL := q1 (by omega)
      have hfl : ¬ 1 < (aF a).length := fun z => by have := q3 z; omega
      refine SK.upd (X := sN (sR a (some (sl (gd l) s (n - s)))) 4 v) hI hF rfl hk (Or.inl rfl) le_k ⟨Nat.le_refl _, r2⟩ rfl rfl le_kk le_kk le_kk le_k le_k ⟨b1, b2⟩ ⟨show v ≤ 3 by omega, ⟨fun z => ?_, fun z => absurd hO z⟩⟩ ⟨p3, p4⟩ ho gf1 (fun _ => hL) (fun _ => rfl) (fun z => absurd z hfl) (fun z => ?_) C1 (fun z => absurd z hfl)
      · have : v = 2 := z
        omega
      · have : v = 3 := z
        omega
  · cases hs
theorem kI_sbe (hI : GI rm nd a) (hF : aF a = (l, g) :: t) (hc : cur a = l) (hph : aN a 4 = 1) (hl1 : (aF a).length = 1) (hs : iSbe a = .inr a') : SK rm nd a a' := by
  obtain ⟨⟨-, -, ⟨-, r2, -, -⟩, -, ⟨b1, b2⟩, ⟨p1, p2, p3, p4⟩, ho, ⟨gf1, -⟩, q1, q2, q3, -⟩, -, C1, -⟩ := id hI
  unfold iSbe at hs
  rw [hc] at hs
  split at hs
  · cases hs
  · rename_i k hk'
    cases hs
    have hk := wd_end (by decide) hk'
    have hO : aO a = [] := by
      cases hO : aO a with
      | nil => rfl
      | cons x r => have := p2.mpr (by rw [hO]; exact List.cons_ne_nil _ _); omega
    have hL := q1 (by omega)
    exact SK.upd (X := sN a 4 0) hI hF rfl hk (Or.inl rfl) le_k ⟨Nat.le_refl _, r2⟩ rfl rfl le_kk le_kk le_kk le_k le_k ⟨b1, b2⟩ ⟨show 0 ≤ 3 by omega, ⟨fun z => (by cases z), fun z => absurd hO z⟩⟩ ⟨p3, p4⟩ ho gf1 (fun _ => hL) (fun z => (by cases z)) (fun z => (by omega)) (fun z => (by cases z)) C1 (fun z => by omega)
theorem eno_lt {en : List Ent} {s : Str} {b : Bool} {i : Nat} (h : eno en s b = some i) : i < en.length := by
  unfold eno at h
  exact (List.findIdx?_eq_some_iff_findIdx_eq.mp h).1
theorem SK.n6 (h : SK rm nd a a') : SK rm nd a (sN a' 6 1) := by
  obtain ⟨⟨⟨x1, x2, x3, x4, x5, ⟨y1, y2, y3, y4⟩, x7, x8, x9⟩, x10, x11⟩, x12, x13, x14⟩ := h
  exact ⟨⟨⟨x1, x2, x3, x4, x5, ⟨y1, y2, y3, Nat.le_refl _⟩, x7, x8, x9⟩, x10, x11⟩, x12, x13, x14⟩
theorem kI_prf (hI : GI rm nd a) (hF : aF a = (l, g) :: t) (hc : cur a = l) (hph : aN a 4 = 1) (hs : iPrf rm a = .inr a') : SK rm nd a a' := by
  obtain ⟨⟨-, -, -, -, -, -, ho, -⟩, -, C1, -⟩ := id hI
  unfold iPrf at hs
  rw [hc] at hs
  split at hs
  · rename_i n k h1 h2
    split at hs
    · cases hs
    · rename_i i hi
      split at hs
      · cases hs
      · rename_i a1 h3
        cases hs
        have hp := pcp_lt h2
        exact (SK.entd hI hF rfl ⟨by omega, hp.2.1⟩ rfl rfl rfl rfl rfl rfl rfl rfl rfl rfl ho C1 (eno_lt hi) (Or.inl hph) h3).n6
  · cases hs
theorem kI_chr {b : Bool} {w : List Int} (hI : GI rm nd a) (hF : aF a = (l, g) :: t) (hk : 0 < k ∧ k ≤ l.length) (hw : w.length ≤ k) : SK rm nd a (adv (chr (tch a b) w) k) := by
  obtain ⟨⟨-, -, ⟨-, r2, -, -⟩, -, ⟨b1, b2⟩, -⟩, -⟩ := id hI
  obtain ⟨t1, t2, t3, t4, t5, t6, t7, t8, t9, t10⟩ := tch_other (a := a) (sp := b)
  have hev : ∀ w : List Int, evl (w.map (fun c => (Sum.inl c : Evt))) = w.length := by
    intro w
    induction w with
    | nil => rfl
    | cons c r ih => show evl (r.map (fun c => (Sum.inl c : Evt))) + 1 = r.length + 1; rw [ih]
  refine SK.lit hI hF t1 hk (Or.inl t2) (show 16 * (aD (tch a b)).length ≤ _ by rw [t5]; exact le_k) (show aN a 0 ≤ aN (tch a b) 0 ∧ aN (tch a b) 0 ≤ rm by rw [t3]; exact ⟨Nat.le_refl _, r2⟩) (show 8 * (aA (tch a b)).length + aN a 0 ≤ 8 * (aA a).length + k + aN (tch a b) 0 by rw [t3, t6]; exact le_kk) ?_ (show aN (tch a b) 1 + aN a 0 ≤ aN a 1 + k + aN (tch a b) 0 by rw [t3]; exact le_kk) (show aN (tch a b) 2 ≤ _ by rw [t3]; exact le_k) (show (aT (tch a b)).length ≤ _ by rw [t7]; exact le_k) (show aN a 3 ≤ aN (tch a b) 3 ∧ aN (tch a b) 3 ≤ nd by rw [t3]; exact ⟨Nat.le_refl _, b2⟩) (fun j hj => ?_) t4 t8 t10 (Or.inr ⟨b, rfl⟩)
  · show evl (aS (tch a b) ++ w.map (fun c => Sum.inl c)) + aN a 0 ≤ evl (aS a) + k + aN (tch a b) 0
    rw [evl_app, hev, t9, t3]
    omega
  · show aN (tch a b) j = _
    rw [t3]
theorem kI_sec (hI : GI rm nd a) (hF : aF a = (l, g) :: t) (hc : cur a = l) (hs : iSec a = .inr a') : SK rm nd a a' := by
  unfold iSec at hs
  rw [hc] at hs
  split at hs
  · cases hs
  · rename_i k hk'
    cases hs
    have h1 := sek_lt hk'
    have h2 := wd_bad (l := [93, 93, 62]) ti_1057 (by decide) h1.2.2
    have g3 : [(93 : Int), 93, 62].length = 3 := rfl
    exact kI_chr hI hF ⟨by omega, by omega⟩ (by rw [sl_len2]; omega)
theorem kI_run (hI : GI rm nd a) (hF : aF a = (l, g) :: t) (hc : cur a = l) (hl : l ≠ []) (h60 : gd l 0 ≠ 60) (h38 : gd l 0 ≠ 38) (hs : iRun a = .inr a') : SK rm nd a a' := by
  have hlp := List.length_pos_iff.mpr hl
  unfold iRun at hs
  rw [hc] at hs
  split at hs
  · cases hs
  · cases hs
    have hr : isRn (gd l 0) = true := by
      unfold isRn
      rw [Bool.and_eq_true, Bool.not_eq_true', Bool.not_eq_true', beq_eq_false_iff_ne, beq_eq_false_iff_ne]
      exact ⟨h60, h38⟩
    have h1 := sk_go (e := l.length) hlp hr
    have h2 : 0 + 1 ≤ sk isRn (gd l) l.length (0 + 1) := sk_gt
    have h3 := sk_le (p := isRn) (T := gd l) (Nat.zero_le l.length)
    exact kI_chr hI hF ⟨by omega, h3.2⟩ (by rw [sl_len2]; omega)
theorem kI_ref (hI : GI rm nd a) (hF : aF a = (l, g) :: t) (hc : cur a = l) (hph : aN a 4 = 2) (hs : iRef rm a = .inr a') : SK rm nd a a' := by
  obtain ⟨⟨-, -, ⟨-, r2, -, -⟩, -, ⟨b1, b2⟩, -, ho, -⟩, -, C1, -⟩ := id hI
  obtain ⟨t1, t2, t3, t4, t5, t6, t7, t8, t9, t10⟩ := tch_other (a := a) (sp := false)
  unfold iRef at hs
  rw [hc] at hs
  split at hs
  · cases hs
  · rename_i k hk'
    have hp := rfp_pos hk'
    split at hs
    · cases hs
      exact kI_chr hI hF ⟨by omega, hp.2⟩ (by rw [List.length_singleton]; omega)
    · split at hs
      · cases hs
      · split at hs
        · split at hs
          · cases hs
          · cases hs
            refine SK.lit (X := sN (tch a false) 1 (aN a 1 + 1)) hI hF t1 ⟨by omega, hp.2⟩ (Or.inl t2) (show 16 * (aD (tch a false)).length ≤ _ by rw [t5]; exact le_k) (show aN a 0 ≤ aN (tch a false) 0 ∧ aN (tch a false) 0 ≤ rm by rw [t3]; exact ⟨Nat.le_refl _, r2⟩) (show 8 * (aA (tch a false)).length + aN a 0 ≤ 8 * (aA a).length + k + aN (tch a false) 0 by rw [t3, t6]; exact le_kk) (show evl (aS (tch a false)) + aN a 0 ≤ evl (aS a) + k + aN (tch a false) 0 by rw [t3, t9]; exact le_kk) (show aN a 1 + 1 + aN a 0 ≤ aN a 1 + k + aN (tch a false) 0 by rw [t3]; omega) (show aN (tch a false) 2 ≤ _ by rw [t3]; exact le_k) (show (aT (tch a false)).length ≤ _ by rw [t7]; exact le_k) (show aN a 3 ≤ aN (tch a false) 3 ∧ aN (tch a false) 3 ≤ nd by rw [t3]; exact ⟨Nat.le_refl _, b2⟩) (fun j hj => ?_) t4 t8 t10 (Or.inr ⟨false, rfl⟩)
            show (if j = 1 then _ else aN (tch a false) j) = _
            rw [if_neg (by omega), t3]
        · rename_i i hi
          exact SK.entd hI hF t1 ⟨by omega, hp.2⟩ t2 t3 t4 t5 t6 t7 t8 t9 t10 tch_ln (by rw [t10]; exact tch_och ho) (by rw [t8]; exact tch_C1 C1) (eno_lt hi) (Or.inr hph) hs
theorem cls_adv {e : Nat} {r : List Nat} (hF : aF X = (l, g) :: t) (hO : aO X = e :: r) : cls (adv X k) = adv (cls X) k := by
  have h1 : cls X = sN (sO (sS X (aS X ++ [.inl (-1)])) r) 4 (if r = [] then 3 else 2) := by unfold cls; rw [hO]
  have h2 : aF (cls X) = (l, g) :: t := by rw [h1]; exact hF
  rw [adv_of hF, adv_of h2, h1]
  unfold cls
  have h3 : aO (sF X ((l.drop k, g) :: t)) = e :: r := hO
  rw [h3]
  rfl
theorem kI_end (hI : GI rm nd a) (hF : aF a = (l, g) :: t) (hc : cur a = l) (hph : aN a 4 = 2) (hs : iEnd a = .inr a') : SK rm nd a a' := by
  obtain ⟨⟨-, -, ⟨-, r2, -, -⟩, -, ⟨b1, b2⟩, ⟨p1, p2, p3, p4⟩, ho, ⟨gf1, gf2⟩, q1, q2, q3, -⟩, ⟨-, -, B3⟩, C1, C2⟩ := id hI
  unfold iEnd at hs
  rw [hc, hF] at hs
  split at hs
  · rename_i k n e r f t' h1 h2 h3 h4
    have h4' : (l, g) = f := (List.cons.inj h4).1
    split at hs
    · cases hs
    · split at hs
      · cases hs
      · rename_i hn1 hn2
        cases hs
        have hk := wd_end (by decide) (show wd (gd l) l.length [62] _ = some k from h1)
        rw [cls_adv hF h3]
        have hcl : cls a = sN (sO (sS a (aS a ++ [.inl (-1)])) r) 4 (if r = [] then 3 else 2) := by unfold cls; rw [h3]
        rw [hcl]
        have hg2 : g.2 ≤ r.length := by
          rw [← h4', List.length_cons] at hn2
          have : ¬ r.length + 1 ≤ g.2 := hn2
          omega
        have hv : (if r = [] then 3 else 2) ≤ 3 ∧ ((if r = [] then 3 else 2) = 2 ↔ r ≠ []) ∧ 2 ≤ (if r = [] then 3 else 2) := by
          by_cases z : r = []
          · rw [if_pos z]; exact ⟨by omega, ⟨fun y => by omega, fun y => absurd z y⟩, by omega⟩
          · rw [if_neg z]; exact ⟨by omega, ⟨fun _ => z, fun _ => rfl⟩, by omega⟩
        generalize hvv : (if r = [] then 3 else 2) = v at *
        rw [h3] at ho
        obtain ⟨X, hX⟩ : ∃ X, X = sN (sO (sS a (aS a ++ [.inl (-1)])) r) 4 v := ⟨_, rfl⟩
        rw [← hX]
        have eF : aF X = aF a := by rw [hX]; rfl
        have eE : aE X = aE a := by rw [hX]; rfl
        have eN : ∀ j, j ≠ 4 → aN X j = aN a j := fun j hj => by rw [hX]; show (if j = 4 then v else aN a j) = _; rw [if_neg hj]
        have eN4 : aN X 4 = v := by rw [hX]; rfl
        have eD : aD X = aD a := by rw [hX]; rfl
        have eA : aA X = aA a := by rw [hX]; rfl
        have eT : aT X = aT a := by rw [hX]; rfl
        have eL : aL X = aL a := by rw [hX]; rfl
        have eB : aB X = aB a := by rw [hX]; rfl
        have eS : aS X = aS a ++ [.inl (-1)] := by rw [hX]; rfl
        have eO : aO X = r := by rw [hX]; rfl
        refine SK.upd hI hF eF hk (Or.inl eE) (by rw [eD]; exact le_k) (by rw [eN 0 (by decide)]; exact ⟨Nat.le_refl _, r2⟩) (eN 8 (by decide)) (eN 7 (by decide)) (by rw [eA, eN 0 (by decide)]; exact le_kk) ?_ (by rw [eN 1 (by decide), eN 0 (by decide)]; exact le_kk) (by rw [eN 2 (by decide)]; exact le_k) (by rw [eT]; exact le_k) (by rw [eL, eB, eN 3 (by decide)]; exact ⟨b1, b2⟩) (by rw [eN4, eO]; exact ⟨hv.1, hv.2.1⟩) (by rw [eN 5 (by decide), eN 6 (by decide)]; exact ⟨p3, p4⟩) (by rw [eL, eO]; exact ho.2.2.2) ?_ (fun z => ?_) (fun z => ?_) (fun z => ?_) (fun _ z => ?_) (by rw [eL, eB]; exact C1) (fun _ _ => hph)
        · rw [eS, eN 0 (by decide), evl_app]
          show evl (aS a) + 1 + aN a 0 ≤ _
          omega
        · rw [eO]
          intro f' hf'
          rw [hF] at hf' gf2
          rcases List.mem_cons.mp hf' with rfl | hf'
          · exact hg2
          · have := (List.pairwise_cons.mp gf2).1 f' hf'
            have h5 : f'.2.2 ≤ g.2 := this
            omega
        · rw [eN4] at z
          omega
        · rw [eN4] at z
          omega
        · right
          rw [eN4]
          have h6 := C2 hph 0 (by omega)
          rw [hF] at h6
          have h7 : 0 < g.2 := h6
          refine hv.2.1.mpr (fun z0 => ?_)
          rw [z0, List.length_nil] at hg2
          omega
        · have h6 := ho.1
          rw [eL] at z
          rw [z, List.length_nil] at h6
          omega
  · cases hs
end PK4
