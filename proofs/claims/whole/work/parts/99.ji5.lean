/-! ===== items of the class: ends of elements, ends of texts ===== -/
section JI5
variable {L : Nat → Nat} {rm nd : Nat} {σ τ : IS} {a : AS} {Q : IS → Prop}
theorem els_cons {e k : Nat} {r : List Nat} (h : k ≤ r.length) : els (e :: r) k = els r k := by
  unfold els
  by_cases c : k = 0
  · rw [if_pos c, if_pos c]
  · rw [if_neg c, if_neg c, List.length_cons, show r.length + 1 - k = (r.length - k) + 1 by omega]
    rfl
theorem els_all {e : Nat} {r : List Nat} : els (e :: r) (r.length + 1) = (e : Int) := by
  unfold els
  rw [if_neg (by omega), List.length_cons, Nat.sub_self]
  rfl
/-- the element that was open is another one, unless as many are open -/
theorem els_ne {e k : Nat} {r : List Nat} (hr : ∀ x ∈ r, x < e) (hk : k ≤ r.length) : els (e :: r) k ≠ (e : Int) := by
  rw [els_cons hk]
  unfold els
  by_cases c : k = 0
  · rw [if_pos c]; omega
  · rw [if_neg c]
    have hlt : r.length - k < r.length := by omega
    have : r.getD (r.length - k) 0 ∈ r := by
      rw [List.getD_eq_getElem?_getD, List.getElem?_eq_getElem hlt]
      exact List.getElem_mem hlt
    have := hr _ this
    omega
theorem lvl_mem {fr : List Frm} {i : Nat} (h : i < fr.length) : lvl fr i ∈ fr := by
  unfold lvl
  have hlt : fr.length - 1 - i < fr.length := by omega
  rw [List.getD_eq_getElem?_getD, List.getElem?_eq_getElem hlt]
  exact List.getElem_mem hlt
/-- the innermost element ends -/
theorem sp_end {e : Nat} {r : List Nat} (hln : JLn L rm nd) (h : RJ L rm nd σ a) (hO : aO a = e :: r) (ho : och (aL a) (aO a)) (hn : (aL a).length ≤ nd) (hs : evl (aS a) < rm) (hfr : ∀ f ∈ aF a, f.2.2 ≤ r.length) (hph : aN a 4 = 2) (hq : ∀ σ', RJ L rm nd σ' (cls a) → (∀ o k, o ≠ 6 → σ'.1 o k = σ.1 o k) → Q σ') : w_Tree_endElement L Q σ := by
  have hEl := h.2.2.2.2.2.2.2.2.1
  have hSt := h.2.2.2.2.2.2.2.2.2.2.1
  have hNu := h.2.2.2.1
  have h129 := hln.2.2.2.2.2.2.2.2.2.2.1.1 129 (by omega) (by omega)
  have h136 : L 136 = rm := hln.2.2.2.2.2.2.2.2.2.2.2
  have hrm := hln.2.1
  rw [hO] at ho
  have he := ho.1
  have hop : σ.1 6 3 = (e : Int) := by rw [hEl.2.1, hO]; rfl
  unfold w_Tree_endElement
  refine WJ_dir ?_
  dsimp only
  rw [hop, if_neg (by omega)]
  refine sp_put_x (n := evl (aS a)) hSt.1 (by omega) (by omega) ?_
  have e63 : (pf (pr σ 136 (evl (aS a)) (-1)) 6 15 ((evl (aS a) + 1 : Nat) : Int)).1 6 3 = (e : Int) := by rw [pf_nk (by decide), pr_1]; exact hop
  rw [e63, show Int.toNat (e : Int) = e by omega]
  refine ⟨⟨by omega, by omega⟩, ?_⟩
  have e129 : (pf (pr σ 136 (evl (aS a)) (-1)) 6 15 ((evl (aS a) + 1 : Nat) : Int)).2 129 e = opn r := by
    rw [pf_2, pr_2, if_neg (by omega), (hEl.2.2 e he).2.1]
    exact ho.2.1
  rw [e129]
  generalize hφ : pf (pf (pr σ 136 (evl (aS a)) (-1)) 6 15 ((evl (aS a) + 1 : Nat) : Int)) 6 3 (opn r) = φ
  have hA : ∀ (F : Nat → Nat → Bool) (R : Nat → Bool), F 6 15 = false → F 6 3 = false → R 136 = false → ag F R σ φ := by
    intro F R x1 x2 x3
    rw [← hφ]
    exact ((ag.refl.pr x3).pf x1).pf x2
  have hφf : ∀ o k, ¬ (o = 6 ∧ (k = 3 ∨ k = 15)) → φ.1 o k = σ.1 o k := fun o k hk => by rw [← hφ, pf_1, if_neg (by omega), pf_1, if_neg (by omega), pr_1]
  have hφr : ∀ r', r' ≠ 136 → φ.2 r' = σ.2 r' := fun r' hr' => by rw [← hφ]; funext j; rw [pf_2, pf_2, pr_2, if_neg (fun z => hr' z.1)]
  obtain ⟨hZ, hg⟩ := h.1.out (σ' := φ) (fun o k hk => hφf o k (by omega)) (fun r' hr' => hφr r' (by omega))
  have hcls : cls a = sN (sO (sS a (aS a ++ [.inl (-1)])) r) 4 (if r = [] then 3 else 2) := by unfold cls; rw [hO]
  rw [hcls] at hq
  refine hq φ (h.mk' hln hZ hg (Or.inr ?_) (Or.inl ⟨hA _ _ rfl rfl rfl, rfl, rfl⟩) (Or.inr ?_) (Or.inl ⟨hA _ _ rfl rfl rfl, rfl⟩) (Or.inl ⟨hA _ _ rfl rfl rfl, rfl⟩) (Or.inl ⟨hA _ _ rfl rfl rfl, rfl⟩) (Or.inl ⟨hA _ _ rfl rfl rfl, rfl⟩) (Or.inr ?_) (Or.inl ⟨hA _ _ rfl rfl rfl, rfl⟩) (Or.inr ?_) ⟨?_, ?_⟩) (fun o k ho' => hφf o k (by omega))
  · have h1 := h.2.1
    rw [hO] at h1
    have h2 := h1.dep hg (hA _ _ rfl rfl rfl)
    show JFr φ (aF a) r
    refine ⟨h2.1, h2.2.1, h2.2.2.1, fun i hi => ?_⟩
    have := h2.2.2.2 i hi
    rw [els_cons (hfr _ (lvl_mem hi))] at this
    exact this
  · obtain ⟨n1, n2, n3, n4, n5, n6⟩ := hNu
    refine ⟨by rw [hφf 3 13 (by omega)]; exact n1, by rw [hφf 3 14 (by omega)]; exact n2, by rw [hφf 6 1 (by omega)]; exact n3, by rw [hφf 3 15 (by omega)]; exact n4, by rw [hφf 3 16 (by omega)]; exact n5, ?_⟩
    rw [hφf 5 6 (by omega), n6, hph]
    show (if 2 = 1 then (1 : Int) else 0) = if (if r = [] then 3 else 2) = 1 then (1 : Int) else 0
    rw [if_neg (by decide)]
    by_cases hr0 : r = []
    · rw [if_pos hr0]; rfl
    · rw [if_neg hr0]; rfl
  · show JEl φ (aL a) r
    refine ⟨by rw [hφf 6 2 (by omega)]; exact hEl.1, by rw [← hφ, pf_eq], fun i hi => ?_⟩
    have := hEl.2.2 i hi
    rw [hφr 146 (by decide), hφr 129 (by decide), hφr 130 (by decide), hφr 131 (by decide), hφr 132 (by decide), hφr 133 (by decide)]
    exact ⟨this.1.gr hg, this.2⟩
  · show JSt φ (aS a ++ [.inl (-1)])
    refine ⟨?_, ?_, ?_⟩
    · rw [← hφ, pf_nk (by decide), pf_eq, evl_app]
      rfl
    · rw [hφf 6 16 (by omega), hSt.2.1, ltr_app]
      rfl
    · rw [evl_app]
      exact jev_app hg (aS a) 0 (by omega) hSt.2.2 (fun k hk => by rw [← hφ, pf_2, pf_2, pr_2, if_neg (by omega)]) (by rw [← hφ, pf_2, pf_2, pr_2, if_pos ⟨rfl, rfl⟩])
  · rw [hφf 2 4 (by omega)]; exact h.2.2.2.2.2.2.2.2.2.2.2.1
  · rw [hφf 2 6 (by omega)]; exact h.2.2.2.2.2.2.2.2.2.2.2.2
/-- the element that was open where the text began -/
theorem sp_before {Q : Int → IS → Prop} {l : List Int} {g : Nat × Nat} {t : List Frm} (hln : JLn L rm nd) (hF : JFr σ ((l, g) :: t) (aO a)) (hd : t.length < rm / 14 + 2) (h0 : t = [] → g.2 = 0) (hq : Q (els (aO a) g.2) σ) : w_Entities_elementBefore L Q σ := by
  obtain ⟨b1, -, -, b4⟩ := hF.get
  have h113 := hln.2.2.2.2.1 113 (by omega) (by omega)
  have hrm := hln.2.1
  unfold w_Entities_elementBefore
  rw [b1]
  refine ⟨fun c => ⟨⟨by omega, by omega⟩, ⟨by omega, by omega⟩⟩, ?_⟩
  cases ht : t with
  | nil =>
    rw [List.length_nil, if_neg (by decide)]
    have : els (aO a) g.2 = -1 := by rw [h0 ht]; rfl
    rw [this] at hq
    exact hq
  | cons f t' =>
    rw [if_pos (by rw [List.length_cons]; omega)]
    have h3 := (b4 t'.length (by rw [ht, List.length_cons]; omega)).2.2.2
    rw [ht, show t'.length + 1 = (f :: t').length from rfl, lvl_top] at h3
    rw [show Int.toNat (((f :: t').length : Nat) - 1 : Int) = t'.length by rw [List.length_cons]; omega, h3]
    exact hq
set_option maxHeartbeats 1000000 in
theorem jI_end (hln : JLn L rm nd) (h : RJ L rm nd σ a) (hG : GA rm nd a) (hC : JC L σ a) (hph : aN a 4 = 2) (hm : mt (gd (cur a)) (cur a).length 0 [60, 47] = true) (hq : JO L rm nd σ Q (iEnd a)) : w_Content_readEnd L Q σ := by
  obtain ⟨p, g, t, hF, hp, hS, hT, htp, hj⟩ := h.at hln
  have hts := h.ts hln hG
  have hm' : mt (σ.2 101) (p + (cur a).length) p [60, 47] = true := by
    have := sh_mt hT [60, 47] 0
    rw [show p + 0 = p by omega] at this
    rw [this]; exact hm
  have hjl := h.1.1.jtp_le
  have h9 : L 101 < 1000000 := hln.1.2.2.2.2.2.2.2
  obtain ⟨gO, gw, ⟨r1, r2, r3, r4⟩, ⟨c1, c2, c3, c4, c5, c6⟩, ⟨b1, b2⟩, gp, ho, ⟨gf1, gf2⟩, g1, g2, g3, g4⟩ := id hG
  have hrm := hln.2.1
  have hremc : (cur a).length ≤ rem a := by
    unfold rem
    rw [hF]
    simp only [List.map_cons, List.sum_cons]
    omega
  have hne : aO a ≠ [] := gp.2.1.mp hph
  cases hO : aO a with
  | nil => exact absurd hO hne
  | cons e r =>
  have hlen := gO.len
  rw [hF, List.length_cons] at hlen
  have hg0 : t = [] → g.2 = 0 := by
    intro ht
    rw [hF, ht] at g4
    have : g = (0, 0) := g4
    rw [this]
  have h146 : L 146 = nd := hln.2.2.2.2.2.2.2.2.2.2.1.2.1
  rw [hO] at ho
  have he := ho.1
  have hid : iEnd a = match etk (gd (cur a)) (cur a).length 0, nmg (gd (cur a)) (cur a).length true (some 2), aO a, aF a with
    | some k, some n, e :: r, f :: _ => if ((aL a).getD e elD).1 ≠ sl (gd (cur a)) 2 (n - 2) then .inl 7 else if (e :: r).length ≤ f.2.2 then .inl 14 else .inr (cls (adv a k))
    | _, _, _, _ => .inl 5 := rfl
  unfold w_Content_readEnd
  refine p_need hS (by omega) ti_1015 (by decide) hj (fun τ1 h1 => ?_)
  rw [wd_of hm'] at h1
  refine p_readName hS (by omega) h1 (fun v4 τ3 h3 hv4 hr => ?_)
  obtain ⟨rr, hr1, hr2⟩ := h3.pos
  obtain ⟨q5, hq51, hq52, hq53⟩ := hr
  have hq5 := hq53 rr hr1
  refine ⟨⟨by omega, by omega⟩, ?_⟩
  refine p_skipSpace hS (by omega) h3 (fun v6 τ5 h5 _ _ => p_need hS (by omega) ti_1018 (by decide) h5 (fun τ7 h7 => ?_))
  have h7' : jp (p + (cur a).length) 0 σ (etk (σ.2 101) (p + (cur a).length) p) τ7 := h7
  have hek := sh_etk hT 0
  rw [show p + 0 = p by omega] at hek
  rw [hek] at h7'
  have hfind : 0 ≤ v4 ∧ 0 ≤ τ3.1 2 2 - v4 ∧ v4 + (τ3.1 2 2 - v4) ≤ (L 101 : Int) := by omega
  -- in a bad state
  have hbadgo : ∀ (f : Nat) (v : Int) (ρ : IS), iEnd a = .inl f → JBd L rm nd ρ f (σ.1 2 5) → JTs L nd 100000 ρ → (∀ o k, o ≠ 2 → o ≠ 1 → ρ.1 o k = σ.1 o k) → (∀ r', 106 < r' → ρ.2 r' = σ.2 r') → (inL L 146 (ρ.1 6 3) ∧ WJ (fun (s13 : Unit) (σ14 : IS) => w_Entities_elementBefore L (fun v16 σ15 => WJ (fun (s19 : Unit) (σ20 : IS) => w_Tree_endElement L (fun σ21 => Q σ21) σ20) (fun J17 => if (σ14.1 6 3) = v16 then w_Reader_fail L 14 (fun σ24 => J17 () σ24) σ15 else J17 () σ15)) σ14) (fun J11 => if v = (ρ.2 146 (Int.toNat (ρ.1 6 3))) then J11 () ρ else w_Reader_fail L 7 (fun σ27 => J11 () σ27) ρ)) := by
    intro f v ρ hf hB hT' hfo hro
    have hop : ρ.1 6 3 = (e : Int) := by rw [hfo 6 3 (by decide) (by decide), h.2.2.2.2.2.2.2.2.1.2.1, hO]; rfl
    rw [hop]
    refine ⟨⟨by omega, by omega⟩, ?_⟩
    have hne0 : ρ.1 2 4 ≠ 0 := by rw [hB.2.1]; have := hB.2.2.1; omega
    refine WJ_of (fun _ ρ1 => ρ = ρ1) (fun J hJ => ?_) ?_
    · split
      · exact hJ _ _ rfl
      · refine sp_Reader_fail ?_
        rw [flt_ne hne0]
        exact hJ _ _ rfl
    · rintro _ _ rfl
      unfold w_Entities_elementBefore
      have hdp : ρ.1 3 12 = (t.length : Int) := by
        rw [hfo 3 12 (by decide) (by decide)]
        have := h.2.1
        rw [hF] at this
        exact this.get.1
      have h113 := hln.2.2.2.2.1 113 (by omega) (by omega)
      rw [hdp]
      refine ⟨fun c => ⟨⟨by omega, by omega⟩, ⟨by omega, by omega⟩⟩, ?_⟩
      generalize (if (0 : Int) < ((t.length : Nat) : Int) then ρ.2 113 (Int.toNat (((t.length : Nat) : Int) - 1)) else (-1 : Int)) = zz
      refine WJ_of (fun _ ρ1 => ρ = ρ1) (fun J hJ => ?_) ?_
      · split
        · refine sp_Reader_fail ?_
          rw [flt_ne hne0]
          exact hJ _ _ rfl
        · exact hJ _ _ rfl
      · rintro _ _ rfl
        exact sp_end_w hln hB hT' (fun σ' hB' => hq.1 f hf σ' hB')
  cases hk : etk (gd (cur a)) (cur a).length 0 with
  | none =>
    rw [hk] at h7' hid
    have hid' : iEnd a = .inl 5 := hid
    refine p_find h.1.1 hln.1 h7' hfind (fun w τ9 h9' _ _ => ?_) (fun τ9 h9' _ => ?_)
    · exact hbadgo 5 w τ9 hid' (h.bad h9') (hts.same (fun k => h9'.keep (by omega) (by omega))) (fun o k h1 h2 => h9'.keep (by omega) (by omega)) (fun r' _ => by rw [h9'.row])
    · exact hbadgo 5 (-1) τ9 hid' (h.bad h9') (hts.same (fun k => h9'.keep (by omega) (by omega))) (fun o k h1 h2 => h9'.keep (by omega) (by omega)) (fun r' _ => by rw [h9'.row])
  | some k =>
    rw [hk] at h7'
    have h7s : jp (p + (cur a).length) 0 σ (some (p + k)) τ7 := h7'
    have hkl : k ≤ (cur a).length := by have := h7s.at.2; omega
    cases hn : nmg (gd (cur a)) (cur a).length true (some 2) with
    | none =>
      exfalso
      unfold etk at hk
      rw [show 0 + 2 = 2 from rfl, hn] at hk
      cases hk
    | some n =>
      have hnl := nmg_lt hn
      have hk2 : n < k := by
        unfold etk at hk
        rw [show 0 + 2 = 2 from rfl, hn] at hk
        have hw := wd1 (by decide) (show wd (gd (cur a)) (cur a).length [62] (some (sk isSp (gd (cur a)) (cur a).length n)) = some k from hk)
        have := sk_le (p := isSp) (T := gd (cur a)) hnl.2.2
        omega
      rw [hk, hn, hO, hF] at hid
      dsimp only at hid
      have ev4 : v4 = ((p + 2 : Nat) : Int) := hv4 (p + 2) rfl
      have ev3 : τ3.1 2 2 = ((p + n : Nat) : Int) := by
        have h3' : jp (p + (cur a).length) 0 σ (nmg (σ.2 101) (p + (cur a).length) true (some (p + 2))) τ3 := h3
        rw [sh_nmgs hT, hn] at h3'
        exact h3'.at.1
      have hstr : sl (σ.2 101) v4.toNat (τ3.1 2 2 - v4).toNat = sl (gd (cur a)) 2 (n - 2) := by
        rw [ev4, ev3, show ((p + 2 : Nat) : Int).toNat = p + 2 by omega, show (((p + n : Nat) : Int) - ((p + 2 : Nat) : Int)).toNat = n - 2 by omega]
        exact sh_sl hT (by omega)
      have hEle := (h.2.2.2.2.2.2.2.2.1.2.2 e he).1
      -- whatever was found
      have hgo : ∀ (v : Int) (τ9 : IS), jp (p + (cur a).length) 0 σ (some (p + k)) τ9 → (v = σ.2 146 e ↔ ((aL a).getD e elD).1 = sl (gd (cur a)) 2 (n - 2)) → (inL L 146 (τ9.1 6 3) ∧ WJ (fun (s13 : Unit) (σ14 : IS) => w_Entities_elementBefore L (fun v16 σ15 => WJ (fun (s19 : Unit) (σ20 : IS) => w_Tree_endElement L (fun σ21 => Q σ21) σ20) (fun J17 => if (σ14.1 6 3) = v16 then w_Reader_fail L 14 (fun σ24 => J17 () σ24) σ15 else J17 () σ15)) σ14) (fun J11 => if v = (τ9.2 146 (Int.toNat (τ9.1 6 3))) then J11 () τ9 else w_Reader_fail L 7 (fun σ27 => J11 () σ27) τ9)) := by
        intro v τ9 h9' hv
        obtain ⟨hR, hg1⟩ := h.rd hln hp hkl h9'
        obtain ⟨s1, s2, s3, s4, s5⟩ := h9'.store
        have hfo : ∀ o k, o ≠ 2 → o ≠ 1 → τ9.1 o k = σ.1 o k := fun o k h1 h2 => h9'.keep (by omega) (by omega)
        by_cases cn : ((aL a).getD e elD).1 = sl (gd (cur a)) 2 (n - 2)
        · rw [if_neg (fun z => z cn)] at hid
          have hop : τ9.1 6 3 = (e : Int) := by rw [hfo 6 3 (by decide) (by decide), h.2.2.2.2.2.2.2.2.1.2.1, hO]; rfl
          rw [hop, show Int.toNat (e : Int) = e by omega, h9'.row, hv.mpr cn]
          refine ⟨⟨by omega, by omega⟩, WJ_dir ?_⟩
          dsimp only
          rw [if_pos rfl]
          have hF9 := hR.2.1
          rw [adv_of hF] at hF9
          refine sp_before (a := a) (l := (cur a).drop k) (g := g) (t := t) hln hF9 (by omega) hg0 ?_
          rw [hop, hO]
          have hcm : (e : Int) = els (e :: r) g.2 ↔ (e :: r).length ≤ g.2 := by
            have hgle : g.2 ≤ (aO a).length := gf1 (cur a, g) (by rw [hF]; exact List.mem_cons_self)
            rw [hO, List.length_cons] at hgle
            rw [List.length_cons]
            constructor
            · intro hz
              by_cases c : g.2 ≤ r.length
              · exact absurd hz.symm (els_ne ho.2.2.1 c)
              · omega
            · intro hz
              rw [show g.2 = r.length + 1 by omega, els_all]
          by_cases cf : (e :: r).length ≤ g.2
          · rw [if_pos cf] at hid
            refine WJ_dir ?_
            dsimp only
            rw [if_pos (hcm.mpr cf)]
            refine sp_Reader_fail ?_
            have hB := hR.ft (n := 14) (by decide)
            rw [s5] at hB
            have h49 : τ9.1 2 4 = 0 := hR.2.2.2.2.2.2.2.2.2.2.2.1
            refine sp_end_w (n := 100000) hln hB (hts.same (fun k => ?_)) (fun σ' hB' => hq.1 14 hid σ' hB')
            rw [flt_val h49, pf_no (by decide), hfo 6 k (by decide) (by decide)]
          · rw [if_neg cf] at hid
            refine WJ_dir ?_
            dsimp only
            rw [if_neg (fun z => cf (hcm.mp z))]
            have hphA : aN (adv a k) 4 = 2 := by rw [adv_other.2.1]; exact hph
            have hOA : aO (adv a k) = e :: r := by rw [adv_other.2.2.2.2.2.2.2.2.2]; exact hO
            refine sp_end hln hR hOA ?_ ?_ ?_ ?_ hphA (fun σ' hR' hf' => ?_)
            · rw [hOA, adv_other.2.2.2.2.2.2.1]; exact ho
            · rw [adv_other.2.2.2.2.2.2.1]; omega
            · rw [adv_other.2.2.2.2.2.2.2.2.1]; omega
            · intro f hf
              rw [adv_of hF] at hf
              have hf' : f ∈ ((cur a).drop k, g) :: t := hf
              have hgle : g.2 ≤ r.length := by rw [List.length_cons] at cf; omega
              rcases List.mem_cons.mp hf' with rfl | hf'
              · exact hgle
              · rw [hF] at gf2
                have := (List.pairwise_cons.mp gf2).1 f hf'
                have h2 : f.2.2 ≤ g.2 := this
                omega
            · refine hq.2 _ hid σ' hR' ?_ (by rw [hf' 2 5 (by decide)]; exact s5)
              have hc := hC.ad (τ := σ') hkl (by unfold jw; rw [hf' 1 14 (by decide)]; exact s1) (by unfold jtp; rw [hf' 1 3 (by decide)]; exact s2) (by rw [hf' 1 2 (by decide)]; exact s3) (by rw [hf' 4 16 (by decide)]; exact s4) (by rw [hf' 1 16 (by decide)]; exact h9'.keep (by omega) (by omega))
              have hrem := rem_adv hkl
              have hremC : rem (cls (adv a k)) = rem (adv a k) := by
                unfold rem cls
                rw [hOA]
                rfl
              have hcN : ∀ j, j ≠ 4 → aN (cls (adv a k)) j = aN (adv a k) j := by
                intro j hj
                unfold cls
                rw [hOA]
                show (if j = 4 then _ else aN (adv a k) j) = _
                rw [if_neg hj]
              have hcO : aO (cls (adv a k)) = r := by unfold cls; rw [hOA]; rfl
              have hcL : aL (cls (adv a k)) = aL (adv a k) := by unfold cls; rw [hOA]; rfl
              have hcB : aB (cls (adv a k)) = aB (adv a k) := by unfold cls; rw [hOA]; rfl
              have hcA : aA (cls (adv a k)) = aA (adv a k) := by unfold cls; rw [hOA]; rfl
              obtain ⟨d1, d2, d3⟩ := hC
              unfold JC at hc ⊢
              have hcR : rsv (cls (adv a k)) = rsv (adv a k) := rsv_eq (by rw [hcL]) hcB hcA (by unfold cls; rw [hOA]; rfl)
              have hrA : rsv (adv a k) = rsv a := rsv_eq (by rw [adv_other.2.2.2.2.2.2.1]) adv_other.2.2.2.2.2.2.2.1 adv_other.2.2.2.2.1 adv_other.2.2.2.1
              rw [hremC, hcN 0 (by decide), hcN 8 (by decide), hcN 3 (by decide), hcO, hcR]
              have hjw : jw σ' = jw σ := by unfold jw; rw [hf' 1 14 (by decide)]; exact s1
              rw [adv_other.2.1, hrA] at hc ⊢
              refine ⟨?_, hc.2.1, hc.2.2⟩
              rw [hO, List.length_cons] at d1
              rw [hjw]
              omega
        · have hid7 : iEnd a = .inl 7 := by rw [hid, if_pos cn]
          have h49 : τ9.1 2 4 = 0 := hR.2.2.2.2.2.2.2.2.2.2.2.1
          have hop : τ9.1 6 3 = (e : Int) := by rw [hfo 6 3 (by decide) (by decide), h.2.2.2.2.2.2.2.2.1.2.1, hO]; rfl
          have hB := hR.ft (n := 7) (by decide)
          rw [s5] at hB
          have hb7 := hbadgo 7 v (flt τ9 7) hid7 hB (hts.same (fun k => by rw [flt_val h49, pf_no (by decide), hfo 6 k (by decide) (by decide)])) (fun o k h1 h2 => by rw [flt_val h49, pf_no h1, hfo o k h1 h2]) (fun r' hr' => by rw [flt_val h49, pf_2, h9'.row])
          have e63 : (flt τ9 7).1 6 3 = τ9.1 6 3 := by rw [flt_val h49, pf_no (by decide)]
          have e146 : (flt τ9 7).2 = τ9.2 := by rw [flt_val h49]; rfl
          rw [e63, e146] at hb7
          refine ⟨hb7.1, ?_⟩
          have hvn : ¬ v = τ9.2 146 (Int.toNat (τ9.1 6 3)) := by
            rw [hop, show Int.toNat (e : Int) = e by omega, h9'.row]
            exact fun z => cn (hv.mp z)
          have hb72 := hb7.2
          refine WJ_dir ?_
          have hb73 : (if v = (τ9.2 146 (Int.toNat (τ9.1 6 3))) then _ else _ : Prop) := hb72
          rw [if_neg hvn] at hb73
          dsimp only
          rw [if_neg hvn]
          refine sp_Reader_fail ?_
          have hne0 : (flt τ9 7).1 2 4 ≠ 0 := by rw [flt_val h49, pf_eq]; decide
          have hb74 : w_Reader_fail L 7 (fun σ27 => w_Entities_elementBefore L (fun v16 σ15 => WJ (fun (s19 : Unit) (σ20 : IS) => w_Tree_endElement L (fun σ21 => Q σ21) σ20) (fun J17 => if (σ27.1 6 3) = v16 then w_Reader_fail L 14 (fun σ24 => J17 () σ24) σ15 else J17 () σ15)) σ27) (flt τ9 7) := hb73
          unfold w_Reader_fail WJ at hb74
          dsimp only at hb74
          rw [if_neg hne0] at hb74
          unfold w_Reader_fail WJ
          exact hb74
      have hJnE := hEle.rng h.1.1
      refine p_find h.1.1 hln.1 h7s hfind (fun w τ9 h9' hw hws => hgo w τ9 h9' ?_) (fun τ9 h9' hno => hgo (-1) τ9 h9' ?_)
      · rw [hstr] at hws
        have hjwl := h.1.1.jw_le
        have hJw : Jn σ (w : Int) (sl (gd (cur a)) 2 (n - 2)) := ⟨w, rfl, by omega, hws⟩
        constructor
        · intro hz
          rw [hz] at hJw
          exact hEle.fun hJw
        · intro hz
          rw [hz] at hEle
          exact hJw.inj h.1.1 hEle
      · rw [hstr] at hno
        constructor
        · intro hz; omega
        · intro hz
          exfalso
          rw [hz] at hEle
          obtain ⟨w, hw1, hw2, hw3⟩ := hEle
          have hjwl := h.1.1.jw_le
          exact hno w (by omega) hw3
end JI5
