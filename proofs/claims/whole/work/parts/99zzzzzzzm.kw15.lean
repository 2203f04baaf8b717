/-! ===== room (15): events, item by item; all that the reference wants of the pure state ===== -/
section KwF
variable {rm nd : Nat} {a a' : AS}
theorem kNs_app {st l : List Evt} : kNs (st ++ l) = l.foldl kN2 (kNs st) := by unfold kNs; rw [List.foldl_append]
theorem kN_let : ∀ (l : List Int) (s : Nat × Bool), (∀ c ∈ l, 0 ≤ c) → (l.map (fun c => (Sum.inl c : Evt))).foldl kN2 s = if l = [] then s else (if s.2 = true then s.1 else s.1 + 3, true)
  | [], s, _ => rfl
  | c :: l, s, h => by
    have h0 := h c List.mem_cons_self
    have e1 : kN2 s (Sum.inl c) = (if s.2 = true then s.1 else s.1 + 3, true) := by
      show (if 0 ≤ c then (if s.2 = true then s.1 else s.1 + 3, true) else (s.1 + 1, false)) = _
      rw [if_pos h0]
    rw [List.map_cons, List.foldl_cons, e1, kN_let l _ (fun x hx => h x (List.mem_cons_of_mem _ hx)), if_neg (List.cons_ne_nil _ _)]
    split
    · rfl
    · rw [if_pos rfl]
theorem kN_neg {s : Nat × Bool} {c : Int} (h : c < 0) : kN2 s (Sum.inl c) = (s.1 + 1, false) := by
  show (if 0 ≤ c then (if s.2 = true then s.1 else s.1 + 3, true) else (s.1 + 1, false)) = _
  rw [if_neg (by omega)]
def EV (a a' : AS) (k : Nat) : Prop := 6 * (kNs (aS a')).1 + (if (kNs (aS a)).2 = true then 11 else 0) ≤ 6 * (kNs (aS a)).1 + 7 * k + (if (kNs (aS a')).2 = true then 11 else 0) ∧ ((kNs (aS a')).2 = true → (kNs (aS a)).2 = true ∨ aN a 4 = 2)
theorem EV.same {k : Nat} (h : aS a' = aS a) : EV a a' k := by
  unfold EV
  rw [h]
  exact ⟨by omega, fun z => Or.inl z⟩
theorem EV.lets {k : Nat} {l : List Int} (h : aS a' = aS a ++ l.map (fun c => Sum.inl c)) (hl : ∀ c ∈ l, 0 ≤ c) (hk : 0 < k) (h4 : aN a 4 = 2) : EV a a' k := by
  unfold EV
  rw [h, kNs_app, kN_let l _ hl]
  refine ⟨?_, fun _ => Or.inr h4⟩
  split
  · omega
  · dsimp only
    rw [if_pos rfl]
    split <;> omega
theorem EV.tar {k : Nat} {q : Str × Str} (h : aS a' = aS a ++ [.inr q]) (hk : 5 ≤ k) : EV a a' k := by
  unfold EV
  rw [h, kNs_app]
  have e1 : [(Sum.inr q : Evt)].foldl kN2 (kNs (aS a)) = ((kNs (aS a)).1 + 4, false) := rfl
  rw [e1]
  refine ⟨?_, fun z => (by cases z)⟩
  show 6 * ((kNs (aS a)).1 + 4) + _ ≤ _ + 7 * k + 0
  split <;> omega
theorem EV.neg {k : Nat} {c : Int} (h : aS a' = aS a ++ [.inl c]) (hc : c < 0) (hk : 3 ≤ k) : EV a a' k := by
  unfold EV
  rw [h, kNs_app]
  have e1 : [(Sum.inl c : Evt)].foldl kN2 (kNs (aS a)) = ((kNs (aS a)).1 + 1, false) := kN_neg hc
  rw [e1]
  refine ⟨?_, fun z => (by cases z)⟩
  show 6 * ((kNs (aS a)).1 + 1) + _ ≤ _ + 7 * k + 0
  split <;> omega
theorem cls_S {X : AS} {e : Nat} {r : List Nat} (h : aO X = e :: r) : aS (cls X) = aS X ++ [.inl (-1)] := by
  unfold cls
  rw [h]
  rfl
theorem EV.neg2 {k : Nat} {c d : Int} (h : aS a' = aS a ++ [.inl c, .inl d]) (hc : c < 0) (hd : d < 0) (hk : 4 ≤ k) : EV a a' k := by
  unfold EV
  rw [h, kNs_app]
  have e1 : [(Sum.inl c : Evt), Sum.inl d].foldl kN2 (kNs (aS a)) = ((kNs (aS a)).1 + 2, false) := by
    show kN2 (kN2 (kNs (aS a)) (Sum.inl c)) (Sum.inl d) = _
    rw [kN_neg hc, kN_neg hd]
  rw [e1]
  refine ⟨?_, fun z => (by cases z)⟩
  show 6 * ((kNs (aS a)).1 + 2) + _ ≤ _ + 7 * k + 0
  split <;> omega
theorem sl_gdm {l : List Int} {i n : Nat} (h : i + n ≤ l.length) : ∀ c ∈ sl (gd l) i n, c ∈ l := by
  intro c hc
  unfold sl at hc
  obtain ⟨j, h1, h2⟩ := List.mem_map.mp hc
  rw [List.mem_range] at h1
  rw [← h2]
  unfold gd
  exact getD_mem (by omega)
/-- the events of an item -/
theorem stp_evs (hs : stp rm nd a = .inr a') (hc : cur a ≠ []) (hp : ∀ c ∈ cur a, 0 ≤ c) {k : Nat} (hk : itK a = some k) : EV a a' k := by
  have hl : 0 < (cur a).length := List.length_pos_iff.mpr hc
  obtain ⟨hk0, hkl⟩ := iw_k (itm_W hc) hk
  have advS : ∀ X j, aS (adv X j) = aS X := fun X j => adv_other.2.2.2.2.2.2.2.2.1
  have tchS : ∀ b, aS (tch a b) = aS a := fun b => tch_other.2.2.2.2.2.2.2.2.1
  have hent : ∀ X i j b, ent rm X i j = .inr b → aS b = aS X := by
    intro X i j b h
    unfold ent at h
    split at h
    · cases h
    · split at h
      · cases h
      · split at h
        · cases h
        · cases h; rfl
  have hcmt : iCmt a = .inr a' → EV a a' k := by
    intro h
    unfold iCmt at h
    split at h
    · cases h
    · cases h
      exact EV.same (by rw [advS, tchS])
  have hpin : ∀ cn, itK a = (pin (gd (cur a)) (cur a).length 0).map (fun z => z.2.2) → iPin nd cn a = .inr a' → EV a a' k := by
    intro cn hK h
    unfold iPin at h
    split at h
    · cases h
    · rename_i n f q hz
      split at h
      · cases h
      · cases h
        rw [hz, hk] at hK
        have hkq : k = q := Option.some.inj hK
        have := pin_lt hz
        cases cn with
        | true => exact EV.tar (by rw [advS]; rfl) (by omega)
        | false => exact EV.same (by rw [advS]; rfl)
  have htag : itK a = tgk (gd (cur a)) (cur a).length 0 → iTag rm nd a = .inr a' → EV a a' k := by
    intro hK h
    unfold iTag at h
    split at h
    · rename_i kk n hz hn
      rw [hz, hk] at hK
      have hkk : k = kk := Option.some.inj hK
      subst hkk
      obtain ⟨n', κ, h1, h2, h3, h4, h5, h6⟩ := tgk_at hz
      rw [hn] at h1
      cases h1
      split at h
      · cases h
      · rename_i c m gv hg
        split at h
        · cases h
        · have hr := Sum.inr.inj h
          split at hr
          · rename_i h47
            rw [← hr]
            refine EV.neg2 (c := -3 - ((aL a).length : Int)) (d := -1) ?_ (by omega) (by omega) ?_
            · rw [cls_S (e := (aL a).length) (r := aO a) rfl]
              show (aS a ++ [.inl (-3 - ((aL a).length : Int))]) ++ [.inl (-1)] = _
              rw [List.append_assoc]; rfl
            · have hst := nmg_at hn
              have hlk : lk (gd (cur a)) (cur a).length 1 = gd (cur a) 1 := lk_b (by omega)
              rw [hlk] at hst
              refine Classical.byContradiction (fun z => ?_)
              have hk3 : k = 3 := by omega
              rw [hk3] at h47
              have h47' : gd (cur a) 1 = 47 := h47
              rw [h47'] at hst
              exact absurd hst (by decide)
          · rw [← hr]
            exact EV.neg (c := -3 - ((aL a).length : Int)) rfl (by omega) (by omega)
    · cases h
  have h0 : stp rm nd a = if aN a 4 = 1 then iSub rm nd a else if aN a 4 = 2 then iCon rm nd a else iOut rm nd a := by unfold stp; rw [if_neg hc]
  rw [h0] at hs
  by_cases p1 : aN a 4 = 1
  · rw [if_pos p1, iSub_d] at hs
    rcases dSub_c (a := a) with ⟨d, h⟩ | ⟨d, h⟩ | ⟨d, h⟩ | d | ⟨d, h⟩ | ⟨d, h⟩ | ⟨d, h⟩ | ⟨d, h⟩ | ⟨d, h⟩ | d
    · rw [d] at hs
      have hs' : iSpc a = .inr a' := hs
      unfold iSpc at hs'
      cases hs'
      exact EV.same (advS _ _)
    · rw [d] at hs
      have hs' : iPrf rm a = .inr a' := hs
      unfold iPrf at hs'
      split at hs'
      · split at hs'
        · cases hs'
        · split at hs'
          · cases hs'
          · rename_i b hb
            cases hs'
            have hb' := hent _ _ _ _ hb
            exact EV.same (a' := sN b 6 1) hb'
      · cases hs'
    · rw [d] at hs
      have hs' : iSbe a = .inr a' := hs
      unfold iSbe at hs'
      split at hs'
      · cases hs'
      · cases hs'
        exact EV.same (by rw [advS]; rfl)
    · rw [d] at hs
      exact hcmt hs
    · have hK : itK a = (pin (gd (cur a)) (cur a).length 0).map (fun z => z.2.2) := by
        unfold itK; rw [if_neg hc, if_pos p1, d]; rfl
      rw [d] at hs
      exact hpin false hK hs
    · rw [d] at hs
      have hs' : iEld a = .inr a' := hs
      unfold iEld at hs'
      split at hs'
      · split at hs'
        · split at hs'
          · cases hs'
          · cases hs'
            exact EV.same (by rw [advS]; rfl)
        · cases hs'
      · cases hs'
    · rw [d] at hs
      have hs' : iAtl rm a = .inr a' := hs
      unfold iAtl at hs'
      split at hs'
      · split at hs'
        · split at hs'
          · cases hs'
          · cases hs'
            exact EV.same (by rw [advS]; rfl)
        · cases hs'
      · cases hs'
    · rw [d] at hs
      have hs' : iEnt a = .inr a' := hs
      have h8 := mt_at (by decide) (Nat.zero_le _) h
      have e8 : [60, 33, 69, 78, 84, 73, 84, 89].length = 8 := rfl
      obtain ⟨f, n, t', m, k', tx, h1, h2, h3, h4, h5, h6, h7, h9, h10, h11, h12, h13⟩ := iEnt_at (by omega) hs'
      refine EV.same ?_
      rw [h12, advS]
      split <;> rfl
    · rw [d] at hs
      have hs' : iNot a = .inr a' := hs
      unfold iNot at hs'
      split at hs'
      · split at hs'
        · cases hs'
          exact EV.same (by rw [advS]; rfl)
        · cases hs'
      · cases hs'
    · rw [d] at hs; cases hs
  · rw [if_neg p1] at hs
    by_cases p2 : aN a 4 = 2
    · rw [if_pos p2, iCon_d] at hs
      rcases dCon_c (a := a) with ⟨d, h⟩ | ⟨d, n38, n60⟩ | ⟨d, h⟩ | d | ⟨d, h⟩ | ⟨d, h⟩ | d | ⟨d, h⟩
      · rw [d] at hs
        have hs' : iRef rm a = .inr a' := hs
        unfold iRef at hs'
        split at hs'
        · cases hs'
        · rename_i kk hkk
          split at hs'
          · rename_i h0
            cases hs'
            refine EV.lets (l := [rfK (cur a) kk]) ?_ (fun c hc => by rw [List.mem_singleton] at hc; rw [hc]; exact h0) hk0 p2
            rw [advS]
            show aS (tch a true) ++ _ = _
            rw [tchS]
          · split at hs'
            · cases hs'
            · split at hs'
              · split at hs'
                · cases hs'
                · cases hs'
                  exact EV.same (by rw [advS]; exact tchS false)
              · exact EV.same ((hent _ _ _ _ hs').trans (tchS false))
      · rw [d] at hs
        have hs' : iRun a = .inr a' := hs
        unfold iRun at hs'
        split at hs'
        · cases hs'
        · cases hs'
          refine EV.lets (l := sl (gd (cur a)) 0 (sk isRn (gd (cur a)) (cur a).length 0)) ?_ (fun c hc => hp c (sl_gdm (by have := sk_le (p := isRn) (T := gd (cur a)) (e := (cur a).length) (i := 0) (Nat.zero_le _); omega) c hc)) hk0 p2
          rw [advS]
          show aS (tch a _) ++ _ = _
          rw [tchS]
      · rw [d] at hs
        have hs' : iEnd a = .inr a' := hs
        have hK : itK a = etk (gd (cur a)) (cur a).length 0 := by
          unfold itK; rw [if_neg hc, if_neg p1, if_pos p2, d]; rfl
        unfold iEnd at hs'
        split at hs'
        · rename_i kk n e r f _ hkk hn hO _
          split at hs'
          · cases hs'
          · split at hs'
            · cases hs'
            · cases hs'
              rw [hkk, hk] at hK
              have := Option.some.inj hK
              have hnl := nmg_lt hn
              have hw : wd (gd (cur a)) (cur a).length [62] (asp (gd (cur a)) (cur a).length (some n)) = some kk := by
                have : etk (gd (cur a)) (cur a).length 0 = wd (gd (cur a)) (cur a).length [62] (asp (gd (cur a)) (cur a).length (nmg (gd (cur a)) (cur a).length true (some (0 + 2)))) := rfl
                rw [show (0 + 2) = 2 from rfl, hn] at this
                rw [← this]; exact hkk
              have := wd_asp (by decide) hnl.2.2 hw
              refine EV.neg (c := -1) ?_ (by omega) (by omega)
              have hO' : aO (adv a kk) = e :: r := by rw [adv_other.2.2.2.2.2.2.2.2.2]; exact hO
              rw [cls_S hO', advS]
        · cases hs'
      · rw [d] at hs
        exact hcmt hs
      · have hK : itK a = (pin (gd (cur a)) (cur a).length 0).map (fun z => z.2.2) := by
          unfold itK; rw [if_neg hc, if_neg p1, if_pos p2, d]; rfl
        rw [d] at hs
        exact hpin true hK hs
      · rw [d] at hs
        have hs' : iSec a = .inr a' := hs
        unfold iSec at hs'
        split at hs'
        · cases hs'
        · rename_i kk hkk
          cases hs'
          have := sek_lt hkk
          refine EV.lets (l := sl (gd (cur a)) 9 (kk - 9)) ?_ (fun c hc => hp c (sl_gdm (by omega) c hc)) hk0 p2
          rw [advS]
          show aS (tch a true) ++ _ = _
          rw [tchS]
      · rw [d] at hs; cases hs
      · have hK : itK a = tgk (gd (cur a)) (cur a).length 0 := by
          unfold itK; rw [if_neg hc, if_neg p1, if_pos p2, d]; rfl
        rw [d] at hs
        exact htag hK hs
    · rw [if_neg p2, iOut_d] at hs
      rcases dOut_c (a := a) with ⟨d, h⟩ | d | ⟨d, h⟩ | d | ⟨d, h⟩ | ⟨d, h, -⟩
      · rw [d] at hs
        have hs' : iSpc a = .inr a' := hs
        unfold iSpc at hs'
        cases hs'
        exact EV.same (advS _ _)
      · rw [d] at hs
        exact hcmt hs
      · have hK : itK a = (pin (gd (cur a)) (cur a).length 0).map (fun z => z.2.2) := by
          unfold itK; rw [if_neg hc, if_neg p1, if_neg p2, d]; rfl
        rw [d] at hs
        exact hpin true hK hs
      · rw [d] at hs; cases hs
      · have hK : itK a = tgk (gd (cur a)) (cur a).length 0 := by
          unfold itK; rw [if_neg hc, if_neg p1, if_neg p2, d]; rfl
        rw [d] at hs
        exact htag hK hs
      · rw [d] at hs
        have hs' : iDtd a = .inr a' := hs
        unfold iDtd at hs'
        split at hs'
        · split at hs'
          · cases hs'
          · cases hs'
            exact EV.same (by rw [advS]; rfl)
        · cases hs'
/-- declarations and events -/
def GQ (a : AS) : Prop := 12 * (aT a).length + rem a ≤ aN a 0 ∧ 2 * (nNd (aD a) + nLs (aD a) (aA a)) + rem a ≤ aN a 0 ∧ 6 * (kNs (aS a)).1 + 7 * rem a ≤ 7 * aN a 0 + (if (kNs (aS a)).2 = true then 11 else 0) ∧ (∀ x ∈ aD a, x.2.1 ≤ 3) ∧ ((kNs (aS a)).2 = true → aL a ≠ []) ∧ 2 * ((aD a).map (fun x => (mxN x).length)).sum + rem a ≤ aN a 0
theorem GQ.stpE (hG : GI rm nd a) (hW : ∀ c, ltA a c → isCh c = true) (h : GQ a) (hs : stp rm nd a = .inr a') : GQ a' := by
  obtain ⟨q1, q2, q3, q4, q5, q6⟩ := h
  have hLl : (aL a).length ≤ (aL a').length := by
    rcases stp_tre hs with ⟨z, -⟩ | ⟨nm, gv, z, -⟩
    · have := congrArg List.length z
      rw [List.length_map, List.length_map] at this
      omega
    · have := congrArg List.length z
      rw [List.length_append, List.length_map, List.length_map] at this
      omega
  have hLn : aL a ≠ [] → aL a' ≠ [] := fun z w => by
    have := List.length_pos_iff.mpr z
    rw [w, List.length_nil] at hLl
    omega
  by_cases hc : cur a = []
  · have hs' : iFin a = .inr a' := by unfold stp at hs; rw [if_pos hc] at hs; exact hs
    unfold iFin at hs'
    cases hF : aF a with
    | nil => rw [hF] at hs'; cases hs'
    | cons f t =>
      cases t with
      | nil => rw [hF] at hs'; cases hs'
      | cons x r =>
        rw [hF] at hs'
        dsimp only at hs'
        split at hs'
        · cases hs'
        · cases hs'
          have hf : f.1 = [] := by unfold cur at hc; rw [hF] at hc; exact hc
          have hrm : rem (sF a (x :: r)) = rem a := by
            unfold rem
            rw [hF]
            show ((x :: r).map _).sum = _
            simp [hf]
          unfold GQ
          rw [hrm]
          exact ⟨q1, q2, q3, q4, q5, q6⟩
  · obtain ⟨q, t, hF⟩ := cur_F hc
    obtain ⟨k, hkk, -, -, -, hbud⟩ := stp_frm hs hc hF
    have hp : ∀ c ∈ cur a, 0 ≤ c := by
      intro c hcc
      have := hW c (Or.inl ⟨_, by rw [hF]; exact List.mem_cons_self, hcc⟩)
      unfold isCh inI at this
      simp only [Bool.or_eq_true, beq_iff_eq, Bool.and_eq_true, decide_eq_true_eq] at this
      omega
    obtain ⟨e1, e2⟩ := stp_evs hs hc hp hkk
    obtain ⟨d1, d2⟩ := stp_dcl hs hc hkk
    refine ⟨?_, ?_, by omega, ?_, fun z => ?_, ?_⟩
    · rcases d1 with d1 | ⟨s, d1, d3⟩
      · rw [d1]; omega
      · rw [d1, List.length_append, List.length_singleton]; omega
    · rcases d2 with ⟨y1, y2⟩ | ⟨x, y1, y2, y3, y4, y5, -⟩ | ⟨y1, -, new, y2, y3⟩
      · rw [y1, y2]; omega
      · rw [y1, y2, nNd_s, nLs_s]
        split
        · omega
        · split
          · split <;> omega
          · split <;> omega
      · rw [y1, y2]
        unfold nLs at q2 ⊢
        rw [List.map_append, List.sum_append]
        omega
    · rcases d2 with ⟨y1, y2⟩ | ⟨x, y1, y2, y3, y4, y5, -⟩ | ⟨y1, -, new, y2, y3⟩
      · rw [y1]; exact q4
      · rw [y1]
        intro z hz
        rcases List.mem_append.mp hz with hz | hz
        · exact q4 z hz
        · rw [List.mem_singleton] at hz; rw [hz]; exact y3
      · rw [y1]; exact q4
    · refine hLn ?_
      rcases e2 z with w | w
      · exact q5 w
      · intro hL
        obtain ⟨⟨-, -, -, -, -, ⟨p1, p2, -, -⟩, p6, -⟩, -, -⟩ := id hG
        have hO := p2.mp w
        cases hO' : aO a with
        | nil => exact hO hO'
        | cons e r =>
          rw [hO', hL] at p6
          exact absurd p6.1 (Nat.not_lt_zero _)
    · rcases d2 with ⟨y1, y2⟩ | ⟨x, y1, y2, y3, y4, y5, -⟩ | ⟨y1, -, new, y2, y3⟩
      · rw [y1]; omega
      · rw [y1, List.map_append, List.sum_append, List.map_singleton, List.sum_singleton]; omega
      · rw [y1]; omega
theorem GQ_a0 {l : List Int} : GQ (a0 l) := by
  refine ⟨?_, ?_, ?_, fun x hx => (by cases hx), fun z => (by cases z), by show 2 * 0 + rem (a0 l) ≤ l.length; rw [rem_a0]; omega⟩
  · show 12 * 0 + rem (a0 l) ≤ l.length; rw [rem_a0]; omega
  · show 2 * (0 + (0 + 0)) + rem (a0 l) ≤ l.length; rw [rem_a0]; omega
  · show 6 * 0 + 7 * rem (a0 l) ≤ 7 * l.length + 0; rw [rem_a0]; omega
theorem GQ_hd {l : List Int} {st k : Nat} : GQ (adv (sN (a0 l) 5 st) k) := by
  have hr : rem (adv (sN (a0 l) 5 st) k) = l.length - k := by
    show (l.drop k).length + 0 = _
    rw [List.length_drop, Nat.add_zero]
  refine ⟨?_, ?_, ?_, fun x hx => (by cases hx), fun z => (by cases z), by show 2 * 0 + rem (adv (sN (a0 l) 5 st) k) ≤ l.length; rw [hr]; omega⟩
  · show 12 * 0 + rem (adv (sN (a0 l) 5 st) k) ≤ l.length; rw [hr]; omega
  · show 2 * (0 + (0 + 0)) + rem (adv (sN (a0 l) 5 st) k) ≤ l.length; rw [hr]; omega
  · show 6 * 0 + 7 * rem (adv (sN (a0 l) 5 st) k) ≤ 7 * l.length + 0; rw [hr]; omega
end KwF
