/-! ===== room (16): all that the reference wants of the pure state ===== -/
section KwG
variable {rm nd : Nat} {a a' : AS} {bk : List Str}
/-- parameters were seen only behind a declaration of the type -/
def G6 (a : AS) : Prop := aN a 6 ≠ 0 → (aR a).isSome = true
theorem adv_R6 {X : AS} {k : Nat} : aR (adv X k) = aR X ∧ aN (adv X k) 6 = aN X 6 := ⟨adv_other.2.2.1, by rw [adv_other.2.1]⟩
theorem tch_R6 {b : Bool} : aR (tch a b) = aR a ∧ aN (tch a b) 6 = aN a 6 := ⟨tch_other.2.2.2.1, by rw [tch_other.2.2.1]⟩
theorem cls_R6 {X : AS} : aR (cls X) = aR X ∧ aN (cls X) 6 = aN X 6 := by unfold cls; split <;> exact ⟨rfl, rfl⟩
theorem ent_R6 {X b : AS} {i k : Nat} (h : ent rm X i k = .inr b) : aR b = aR X ∧ aN b 6 = aN X 6 := by
  unfold ent at h
  split at h
  · cases h
  · split at h
    · cases h
    · split at h
      · cases h
      · cases h; exact ⟨rfl, rfl⟩
theorem G6.stpE (hG : GI rm nd a) (h : G6 a) (hs : stp rm nd a = .inr a') : G6 a' := by
  have same : ∀ {b : AS}, aR b = aR a ∧ aN b 6 = aN a 6 → G6 b := fun {b} z => by unfold G6; rw [z.1, z.2]; exact h
  have hadv : ∀ {X : AS} {k : Nat}, (aR X = aR a ∧ aN X 6 = aN a 6) → G6 (adv X k) := fun {X k} z => same ⟨adv_R6.1.trans z.1, adv_R6.2.trans z.2⟩
  have hcmt : iCmt a = .inr a' → G6 a' := by
    intro h
    unfold iCmt at h
    split at h
    · cases h
    · cases h; exact hadv tch_R6
  have hpin : ∀ cn, iPin nd cn a = .inr a' → G6 a' := by
    intro cn h
    unfold iPin at h
    split at h
    · cases h
    · split at h
      · cases h
      · cases h
        cases cn with
        | true => exact hadv (tch_R6 (a := a) (b := false))
        | false => exact hadv ⟨rfl, rfl⟩
  have htag : iTag rm nd a = .inr a' → G6 a' := by
    intro h
    unfold iTag at h
    split at h
    · rename_i kk n hz hn
      split at h
      · cases h
      · rename_i c m gv hg
        split at h
        · cases h
        · have hr := Sum.inr.inj h
          have key : ∀ al, aR (nel a (sl (gd (cur a)) 1 (n - 1)) gv al kk c m) = aR a ∧ aN (nel a (sl (gd (cur a)) 1 (n - 1)) gv al kk c m) 6 = aN a 6 := fun al => ⟨(adv_R6 (X := tch a false) (k := kk)).1.trans tch_R6.1, (adv_R6 (X := tch a false) (k := kk)).2.trans tch_R6.2⟩
          rw [← hr]
          split
          · exact same ⟨cls_R6.1.trans (key _).1, cls_R6.2.trans (key _).2⟩
          · exact same (key _)
    · cases h
  unfold stp at hs
  by_cases hc : cur a = []
  · rw [if_pos hc] at hs
    unfold iFin at hs
    split at hs
    · cases hs
    · cases hs
    · split at hs
      · cases hs
      · cases hs; exact h
  · rw [if_neg hc] at hs
    by_cases p1 : aN a 4 = 1
    · have hR : (aR a).isSome = true := hG.1.2.2.2.2.2.2.2.2.2.1 p1
      rw [if_pos p1, iSub_d] at hs
      rcases dSub_c (a := a) with ⟨d, h⟩ | ⟨d, h⟩ | ⟨d, h⟩ | d | ⟨d, h⟩ | ⟨d, h⟩ | ⟨d, h⟩ | ⟨d, h⟩ | ⟨d, h⟩ | d <;> rw [d] at hs
      · have hs' : iSpc a = .inr a' := hs
        unfold iSpc at hs'
        cases hs'; exact hadv ⟨rfl, rfl⟩
      · have hs' : iPrf rm a = .inr a' := hs
        unfold iPrf at hs'
        split at hs'
        · split at hs'
          · cases hs'
          · split at hs'
            · cases hs'
            · rename_i b hb
              cases hs'
              intro _
              have := (ent_R6 hb).1
              show (aR b).isSome = true
              rw [this]; exact hR
        · cases hs'
      · have hs' : iSbe a = .inr a' := hs
        unfold iSbe at hs'
        split at hs'
        · cases hs'
        · cases hs'; exact hadv (X := sN a 4 0) ⟨rfl, rfl⟩
      · exact hcmt hs
      · exact hpin false hs
      · have hs' : iEld a = .inr a' := hs
        unfold iEld at hs'
        split at hs'
        · split at hs'
          · split at hs'
            · cases hs'
            · cases hs'; exact hadv (X := sD a _) ⟨rfl, rfl⟩
          · cases hs'
        · cases hs'
      · have hs' : iAtl rm a = .inr a' := hs
        unfold iAtl at hs'
        split at hs'
        · split at hs'
          · split at hs'
            · cases hs'
            · cases hs'; exact hadv (X := sN (sN (sA a _) 0 _) 1 _) ⟨rfl, rfl⟩
          · cases hs'
        · cases hs'
      · have hs' : iEnt a = .inr a' := hs
        have h8 := mt_at (by decide) (Nat.zero_le _) h
        have e8 : [60, 33, 69, 78, 84, 73, 84, 89].length = 8 := rfl
        obtain ⟨f, n, t', m, k', tx, h1, h2, h3, h4, h5, h6, h7, h9, h10, h11, h12, h13⟩ := iEnt_at (by omega) hs'
        rw [h12]
        refine hadv ⟨?_, ?_⟩ <;> split <;> rfl
      · have hs' : iNot a = .inr a' := hs
        unfold iNot at hs'
        split at hs'
        · split at hs'
          · cases hs'; exact hadv (X := sN (sT a _) 2 _) ⟨rfl, rfl⟩
          · cases hs'
        · cases hs'
      · cases hs
    · rw [if_neg p1] at hs
      by_cases p2 : aN a 4 = 2
      · rw [if_pos p2, iCon_d] at hs
        rcases dCon_c (a := a) with ⟨d, h⟩ | ⟨d, n38, n60⟩ | ⟨d, h⟩ | d | ⟨d, h⟩ | ⟨d, h⟩ | d | ⟨d, h⟩ <;> rw [d] at hs
        · have hs' : iRef rm a = .inr a' := hs
          unfold iRef at hs'
          split at hs'
          · cases hs'
          · split at hs'
            · cases hs'; exact hadv (X := chr (tch a true) _) (tch_R6 (a := a) (b := true))
            · split at hs'
              · cases hs'
              · split at hs'
                · split at hs'
                  · cases hs'
                  · cases hs'; exact hadv (X := sN (tch a false) 1 _) (tch_R6 (a := a) (b := false))
                · exact same ⟨(ent_R6 hs').1.trans tch_R6.1, (ent_R6 hs').2.trans tch_R6.2⟩
        · have hs' : iRun a = .inr a' := hs
          unfold iRun at hs'
          split at hs'
          · cases hs'
          · cases hs'; exact hadv (X := chr (tch a _) _) (tch_R6 (a := a))
        · have hs' : iEnd a = .inr a' := hs
          unfold iEnd at hs'
          split at hs'
          · split at hs'
            · cases hs'
            · split at hs'
              · cases hs'
              · cases hs'; exact same ⟨cls_R6.1.trans adv_R6.1, cls_R6.2.trans adv_R6.2⟩
          · cases hs'
        · exact hcmt hs
        · exact hpin true hs
        · have hs' : iSec a = .inr a' := hs
          unfold iSec at hs'
          split at hs'
          · cases hs'
          · cases hs'; exact hadv (X := chr (tch a true) _) (tch_R6 (a := a) (b := true))
        · cases hs
        · exact htag hs
      · rw [if_neg p2, iOut_d] at hs
        rcases dOut_c (a := a) with ⟨d, h⟩ | d | ⟨d, h⟩ | d | ⟨d, h⟩ | ⟨d, h, -⟩ <;> rw [d] at hs
        · have hs' : iSpc a = .inr a' := hs
          unfold iSpc at hs'
          cases hs'; exact hadv ⟨rfl, rfl⟩
        · exact hcmt hs
        · exact hpin true hs
        · cases hs
        · exact htag hs
        · have hs' : iDtd a = .inr a' := hs
          unfold iDtd at hs'
          split at hs'
          · split at hs'
            · cases hs'
            · cases hs'
              intro _
              rw [adv_R6.1]; rfl
          · cases hs'
/-- all that holds of the pure machine while the reference reads a document -/
def GZ (rm nd : Nat) (a : AS) (bk : List Str) : Prop := GI rm nd a ∧ GV a ∧ GS a ∧ GDl a ∧ GW a ∧ GN a ∧ GQ a ∧ G6 a ∧ ∃ X M V U, GT a X ∧ GR a bk X M V U
theorem GZ.stpE (h : GZ rm nd a bk) (hs : stp rm nd a = .inr a') : GZ rm nd a' (kpL bk (stN rm a)) := by
  obtain ⟨h1, h2, h3, h4, h5, h6, h7, h8, X, M, V, U, h9, h10⟩ := h
  obtain ⟨X', g1, g2, g3⟩ := h9.stpE h1 hs
  obtain ⟨M', V', U', g4⟩ := h10.stpE h1 g2 g3 hs
  exact ⟨(stk a a' h1 hs).1, h2.stpE h1 hs, h3.stpE hs, h4.stpE hs, h5.stpE h1 hs, h6.stpE hs, h7.stpE h1 h5.1 hs, h8.stpE h1 hs, X', M', V', U', g1, g4⟩
theorem GZ.cap (h : GZ rm nd a bk) (hrm : rm ≤ 98304) (hn : bk.Nodup) : kcL bk (stN rm a) := by
  obtain ⟨h1, -, -, -, -, -, -, -, X, M, V, U, h9, h10⟩ := h
  obtain ⟨X', g1, g2, g3, g4⟩ := h9.tok h1
  have := h1.1.2.2.1.2.2.2
  exact h10.cap h1 g1 g2 (by omega) hrm hn
theorem GZ.prs (h : GZ rm nd a bk) : ∃ P, PQ P (aA a) ∧ 8 * P.length + 5 * tkG a ≤ 65536 ∧ ∀ x ∈ tkP a, x ∈ P := by
  obtain ⟨h1, -, -, -, -, h6, -, -, X, M, V, U, h9, h10⟩ := h
  obtain ⟨X', g1, g2, g3, g4⟩ := h9.tok h1
  have h8 := h1.1.2.2.1.2.2.2
  have e2 : tw2 X' = 8 * X'.2.1.length + 5 * X'.2.2 := rfl
  have e3 : tkG a ≤ X'.2.2 := g2.2.2
  exact ⟨X'.2.1, ⟨h6.1, fun x hx => g1.2.1 _ (h10.2.2.2.1 x hx).1.2.2.2.2, by omega⟩, by omega, g2.2.1⟩
theorem GZ.gk (h : GZ rm nd a bk) (hrm : rm ≤ 98304) : GK rm nd a := by
  obtain ⟨P, p1, p2, -⟩ := h.prs
  have p3 := p1.len
  obtain ⟨h1, h2, h3, h4, h5, h6, h7, h8, -⟩ := h
  obtain ⟨⟨gO, gw, ⟨r1, r2, r3, r4⟩, ⟨c1, c2, c3, c4, c5, c6, c7⟩, g3, ⟨g5, g5', -, -⟩, g6, ⟨gf1, gf2⟩, -⟩, -, -⟩ := h1
  have q1 := h7.1
  exact ⟨⟨r1, r2⟩, ⟨c4, c6⟩, g3, ⟨g5, g5'⟩, g6, gf1, h8, ⟨by omega, by omega, by omega, by omega⟩, gO, gw, c5⟩
theorem GZ.ev (h : GZ rm nd a bk) (hrm : rm ≤ 98304) : (kNs (aS a)).1 + 2 ≤ 120000 := by
  have h3 := h.2.2.2.2.2.2.1.2.2.1
  have := h.1.1.2.2.1
  split at h3 <;> omega
theorem GZ.kw {L : Nat → Nat} {o : Nat} (h : GZ rm nd a bk) (hrm : rm ≤ 98304) (hnd : nd ≤ 16384) (hL : 32768 ≤ L (rfo o 8)) : KW L o a := by
  have hev := h.ev hrm
  obtain ⟨P, p1, p2, p4⟩ := h.prs
  have p3 := nd_len _ P p1.1.nd (fun s hs => by
    obtain ⟨x, h1, h2⟩ := List.mem_map.mp hs
    rw [← h2]; exact p1.2.1 x h1)
  rw [List.length_map] at p3
  obtain ⟨h1, h2, h3, h4, h5, h6, ⟨q1, q2, q3, q4, q5, -⟩, h8, X, M, V, U, h9, h10⟩ := h
  obtain ⟨⟨gO, gw, ⟨r1, r2, r3, r4⟩, ⟨c1, c2, c3, c4, c5, c6, c7⟩, g3, ⟨g5, g5', -, -⟩, g6, ⟨gf1, gf2⟩, gL, -⟩, ⟨B1, -, -⟩, -⟩ := h1
  have hcl : (cur a).length ≤ rem a ∧ (cur a).length ≤ 65536 := by
    cases hF : aF a with
    | nil => have : cur a = [] := by unfold cur; rw [hF]
             rw [this]; exact ⟨Nat.zero_le _, by show 0 ≤ _; omega⟩
    | cons f t =>
      have e1 : cur a = f.1 := by unfold cur; rw [hF]
      have e2 := B1 f (by rw [hF]; exact List.mem_cons_self)
      rw [e1]
      refine ⟨?_, by omega⟩
      unfold rem
      rw [hF, List.map_cons, List.sum_cons]
      omega
  have hA : ∀ d, d < (aA a).length → (∀ c ∈ ((aA a).getD d adD).2.1, isNm c = true) ∧ ((aA a).getD d adD).2.2.2.1 ≤ 4 ∧ ((aA a).getD d adD).2.2.1 ≤ 9 := fun d hd => by
    have := (h10.2.2.2.1 _ (getD_mem (d := adD) hd)).2
    exact ⟨this.2.2, this.2.1, this.1⟩
  refine ⟨fun p => ⟨?_, ?_, hcl.2⟩, hev, ⟨fun y hy => ?_, fun y hy => ?_⟩, fun ht => ?_, ⟨fun d hd => (hA d hd).1, fun d hd => (hA d hd).2.1, fun d hd => (hA d hd).2.2⟩, ⟨by omega, by omega, fun x hx => ⟨h4 x hx, q4 x hx⟩⟩, ⟨by omega, by omega, by omega, fun _ => by omega⟩, fun p d => ⟨?_, ?_⟩, fun p d => ⟨?_, fun s n k y1 y2 y3 => ?_⟩⟩
  · have := h3.1
    rw [gL (by omega)] at this
    have h0 := congrArg List.length this
    rw [List.length_map, List.length_range] at h0
    exact List.length_eq_zero_iff.mp h0.symm
  · cases hz : (kNs (aS a)).2 with
    | false => rfl
    | true => exact absurd (gL (by omega)) (q5 hz)
  · obtain ⟨i, hi, he⟩ := List.mem_iff_getElem.mp hy
    have := h2.2 i (e5 y) (by rw [List.getElem?_map, List.getElem?_eq_getElem hi, he]; rfl)
    have e0 : (e5 y).2.1 = y.2.1 := rfl
    rw [e0] at this
    omega
  · obtain ⟨i, hi, he⟩ := List.mem_iff_getElem.mp hy
    have := h2.2 i (e5 y) (by rw [List.getElem?_map, List.getElem?_eq_getElem hi, he]; rfl)
    have e0 : (e5 y).2.1 = y.2.1 := rfl
    rw [e0] at this
    omega
  · have hg : tgn a = tkG a ∨ tgn a = 0 := by
      by_cases hc : cur a = []
      · refine Or.inr ?_
        unfold tgn
        rw [hc]
        rfl
      · exact Or.inl (tg_N (rm := rm) (nd := nd) ⟨hc, ht⟩).2.2.2.1.symm
    rcases hg with hg | hg <;> rw [hg] <;> omega
  · have : 2 * elB a ≤ (cur a).length + 1 := by
      unfold elB
      split
      · rename_i kk c hk hc
        split
        · have h9 : 9 ≤ (cur a).length := by
            rcases dSub_c (a := a) with ⟨y, -⟩ | ⟨y, -⟩ | ⟨y, -⟩ | y | ⟨y, -⟩ | ⟨y, z⟩ | ⟨y, -⟩ | ⟨y, -⟩ | ⟨y, -⟩ | y <;> try omega
            have := mt_at (by decide) (Nat.zero_le _) z
            have e9 : [60, 33, 69, 76, 69, 77, 69, 78, 84].length = 9 := rfl
            omega
          have hkl := ((nmEl_W h9).2.2 kk hk).2.1
          have := bldN_2 (x := ([], 3, sl (gd (cur a)) c (kk - c)))
          dsimp only at this
          rw [sl_ln] at this
          omega
        · omega
      · omega
    omega
  · have : 2 * (nmX (gd (cur a)) (cur a).length (elc (gd (cur a)) (cur a).length 0)).length ≤ (cur a).length := by
      unfold nmX
      split
      · exact Nat.zero_le _
      · rename_i c hc
        split
        · exact Nat.zero_le _
        · have hce : c ≤ (cur a).length := by
            unfold elc at hc
            cases hn : nmg (gd (cur a)) (cur a).length true (spc (gd (cur a)) (cur a).length (some (0 + 9))) with
            | none => rw [hn] at hc; cases hc
            | some n =>
              rw [hn] at hc
              have h1 : n ≤ (cur a).length := nmg_le n hn
              exact (spc_gt h1 hc).2.1
          have hw := mxW_W (T := gd (cur a)) hce
          have := Wn_2 hw.2
          omega
    omega
  · have : 2 * (adWo (gd (cur a)) (cur a).length (nmg (gd (cur a)) (cur a).length true (spc (gd (cur a)) (cur a).length (some 9)))).length ≤ (cur a).length := by
      have h9 : 9 ≤ (cur a).length := by
        rcases dSub_c (a := a) with ⟨y, -⟩ | ⟨y, -⟩ | ⟨y, -⟩ | y | ⟨y, -⟩ | ⟨y, -⟩ | ⟨y, z⟩ | ⟨y, -⟩ | ⟨y, -⟩ | y <;> try omega
        have := mt_at (by decide) (Nat.zero_le _) z
        have e9 : [60, 33, 65, 84, 84, 76, 73, 83, 84].length = 9 := rfl
        omega
      have hi := iw_atl h9
      have hsub : ∀ s ∈ adWo (gd (cur a)) (cur a).length (nmg (gd (cur a)) (cur a).length true (spc (gd (cur a)) (cur a).length (some 9))), s ≠ [] := by
        intro s hs
        refine hi.2.2 s (nmAl_s h9 s ?_)
        unfold nmAl
        exact List.mem_append_left _ hs
      have hw : Wn (adWo (gd (cur a)) (cur a).length (nmg (gd (cur a)) (cur a).length true (spc (gd (cur a)) (cur a).length (some 9)))) ≤ (cur a).length := by
        cases hn : nmg (gd (cur a)) (cur a).length true (spc (gd (cur a)) (cur a).length (some 9)) with
        | none => exact Nat.zero_le _
        | some n =>
          have h1 : n ≤ (cur a).length := nmg_le n hn
          have := adW_W (T := gd (cur a)) ((cur a).length + 1) n h1
          show Wn (adW _ _ _ n) ≤ _
          omega
      have := Wn_2 hsub
      omega
    omega
  · have hn := nmg_lt y2
    have := adXn_W0 (T := gd (cur a)) ((cur a).length + 1) n hn.2.2
    refine ⟨by omega, P, p1, fun x hx => p4 _ ?_⟩
    have hc : cur a ≠ [] := fun z => by rw [z] at hn; exact absurd hn.1 (Nat.not_lt_zero _)
    unfold tkP
    rw [if_neg hc, if_pos p, if_pos d]
    unfold prA
    rw [y1, y3]
    dsimp only
    rw [y2]
    exact List.mem_map.mpr ⟨x, hx, rfl⟩
/-- at the begin of a text, and behind its head -/
theorem GR_0 {b : AS} (h1 : aA b = []) (h2 : aL b = []) (h3 : aB b = []) (hr : rem b ≤ aN b 0) : GR b [] tt0 [] [] [] := by
  refine ⟨⟨List.nodup_nil, fun s hs => (by cases hs)⟩, fun s hs => (by cases hs), ⟨by rw [ltS_nil]; omega, by rw [List.length_nil]; omega⟩, ?_, ?_, ?_⟩
  · rw [h1]; exact fun x hx => (by cases hx)
  · rw [h2]; exact fun x hx => (by cases hx)
  · rw [h3]; exact fun x hx => (by cases hx)
theorem GZ_a0 {l : List Int} (hr : l.length ≤ rm) (h6 : l.length ≤ 65536) (hch : ∀ c ∈ l, isCh c = true) : GZ rm nd (a0 l) [] := by
  have hlt : ∀ c, ltA (a0 l) c → isCh c = true := fun c hc => by
    rcases hc with ⟨f, hf, hcf⟩ | ⟨x, hx, -⟩
    · have hf' : f ∈ [(l, 0, 0)] := hf
      rw [List.mem_singleton.mp hf'] at hcf
      exact hch c hcf
    · cases hx
  exact ⟨GI_a0 hr h6, GV_a0, GS_a0, fun x hx => (by cases hx), ⟨hlt, rfl, fun v hv => (by cases hv)⟩, ⟨fun i j _ hj => (by cases hj), fun x hx => (by cases hx)⟩, GQ_a0, fun z => absurd rfl z, tt0, [], [], [], GT_a0, GR_0 rfl rfl rfl (by rw [rem_a0]; exact Nat.le_refl _)⟩
theorem GZ_hd {l : List Int} {st k : Nat} (hr : l.length ≤ rm) (h6 : l.length ≤ 65536) (hch : ∀ c ∈ l, isCh c = true) (hst : st ≤ 1) (hk : 0 < k ∧ k ≤ l.length) : GZ rm nd (adv (sN (a0 l) 5 st) k) [] := by
  obtain ⟨g1, g2, g3, g4, g5, g6, g7, g8, -⟩ := GZ_a0 (rm := rm) (nd := nd) hr h6 hch
  have hGn : GI rm nd (sN (a0 l) 5 st) := g1.n5 hst
  obtain ⟨⟨-, -, ⟨-, r2, -, -⟩, -, ⟨b1, b2⟩, -⟩, -⟩ := id hGn
  have hsk := SK.lit (X := sN (a0 l) 5 st) (k := k) (l := l) (g := (0, 0)) (t := []) hGn rfl rfl hk (Or.inl rfl) le_k ⟨Nat.le_refl _, r2⟩ le_kk le_kk le_kk le_k le_k ⟨Nat.le_refl _, b2⟩ (fun _ _ => rfl) rfl rfl rfl (Or.inl rfl)
  have q := S0.advE (a := a0 l) (X := sN (a0 l) 5 st) (k := k) ⟨rfl, rfl, rfl, rfl⟩
  refine ⟨hsk.1, g2.of_S0 q, ?_, ?_, ?_, ?_, GQ_hd, fun z => absurd rfl z, tt0, [], [], [], GT_hd, GR_0 rfl rfl rfl ?_⟩
  · exact ⟨rfl, fun z hz => (by cases hz)⟩
  · intro x hx
    rw [q.2.2.2] at hx
    exact g4 x hx
  · obtain ⟨t1, t2, t3, t4⟩ := TRs.advE (a := a0 l) (X := sN (a0 l) 5 st) (k := k) (l := []) ⟨fun _ h => Or.inl h, rfl, rfl, rfl⟩
    refine ⟨fun c hc => (t1 c hc).elim (g5.1 c) id, rfl, fun v hv => ?_⟩
    rw [t4] at hv
    cases hv
  · exact ⟨fun i j _ hj => (by cases hj), fun x hx => (by cases hx)⟩
  · show (l.drop k).length + 0 ≤ l.length
    rw [List.length_drop]
    omega
end KwG
