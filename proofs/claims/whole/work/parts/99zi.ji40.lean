/-! ===== items of the class: tags (9): the second time through ===== -/
section JI40
variable {L : Nat → Nat} {rm nd : Nat} {ρ σ τ : IS} {a : AS} {Q : IS → Prop}
/-- room after a tag -/
theorem JC.tag {l : List Int} {g : Nat × Nat} {t : List Frm} {nm : Str} {gv : List Att} {k c m i : Nat} (hF : aF a = (l, g) :: t) (hk : k ≤ l.length) (hi : i < k) (h1 : 2 * jw ρ + rsv (XT a nm gv 0) + rem a ≤ c + 38 + (aO a).length + 2 + i) (h2 : jtp ρ + rem a ≤ (ρ.1 1 2).toNat + aN a 8 + c + i) (h3 : 2 * (ρ.1 4 16).toNat + rem a ≤ c + i) (h4 : 2 * jw ρ + rem a ≤ c + 38 + i) (h5 : ρ.1 1 16 ≤ (L 999 : Int) + (aN a 3 : Int) + 1) : JC L ρ (nel a nm gv (gv ++ dfl (aA a) nm gv) k c m) ∧ (i + 1 < k → JC L ρ (cls (nel a nm gv (gv ++ dfl (aA a) nm gv) k c m))) := by
  obtain ⟨t1, t2, t3, t4, t5, t6, t7, t8, t9, t10⟩ := tch_other (a := a) (sp := false)
  have hFt : aF (tch a false) = (l, g) :: t := by rw [t1]; exact hF
  have hrs := rsv_nel (a := a) (nm := nm) (gv := gv) (k := k) (c := c) (m := m)
  generalize hal : gv ++ dfl (aA a) nm gv = al at *
  have eF : aF (nel a nm gv al k c m) = (l.drop k, g) :: t := by
    unfold nel
    rw [adv_of hFt]
    rfl
  have hrem : rem (nel a nm gv al k c m) + k = rem a := by
    unfold rem
    rw [eF, hF]
    simp only [List.map_cons, List.sum_cons, List.length_drop]
    omega
  have e0 : aN (nel a nm gv al k c m) 0 = c := rfl
  have e8 : aN (nel a nm gv al k c m) 8 = aN a 8 := by
    show aN (adv (tch a false) k) 8 = _
    rw [adv_other.2.1, t3]
  have e3 : aN (nel a nm gv al k c m) 3 = aN a 3 + 1 + al.length := rfl
  have eO : aO (nel a nm gv al k c m) = (aL a).length :: aO a := rfl
  refine ⟨?_, fun hi2 => ?_⟩
  · unfold JC
    rw [e0, e8, e3, eO, List.length_cons]
    exact ⟨by omega, by omega, by omega, by omega, by omega⟩
  · have hc : cls (nel a nm gv al k c m) = sN (sO (sS (nel a nm gv al k c m) (aS (nel a nm gv al k c m) ++ [.inl (-1)])) (aO a)) 4 (if aO a = [] then 3 else 2) := by
      unfold cls
      rw [eO]
    have f0 : aN (cls (nel a nm gv al k c m)) 0 = c := by rw [hc]; rfl
    have f8 : aN (cls (nel a nm gv al k c m)) 8 = aN a 8 := by rw [hc]; exact e8
    have f3 : aN (cls (nel a nm gv al k c m)) 3 = aN a 3 + 1 + al.length := by rw [hc]; rfl
    have fO : aO (cls (nel a nm gv al k c m)) = aO a := by rw [hc]; rfl
    have fR : rem (cls (nel a nm gv al k c m)) = rem (nel a nm gv al k c m) := by rw [hc]; rfl
    have fs : rsv (cls (nel a nm gv al k c m)) = rsv (nel a nm gv al k c m) := by rw [hc]; rfl
    unfold JC
    rw [f0, f8, f3, fO, fR, fs]
    exact ⟨by omega, by omega, by omega, by omega, by omega⟩
set_option maxHeartbeats 4000000 in
/-- a tag, up to behind its name -/
theorem j_tagBeg {l : List Int} {g : Nat × Nat} {t : List Frm} {p n : Nat} {nm : Str} {RS : Int → Int → IS → Prop} (hln : JLn L rm nd) (h : RJ L rm nd σ a) (hG : GA rm nd a) (hGc : GC a) (hC : JC L σ a) (hF : aF a = (l, g) :: t) (hp : σ.1 2 2 = (p : Int)) (hS : JS L σ (p + l.length)) (hT : SHT (gd l) (σ.2 101) l.length p) (htp : p + l.length ≤ jtp σ) (hj : jp (p + l.length) 0 σ (some p) σ) (hm' : mt (σ.2 101) (p + l.length) p [60] = true) (hn1 : nmg (gd l) l.length true (some 1) = some n) (hel : sl (gd l) 1 (n - 1) = nm) (hremc : l.length ≤ rem a) (hrest : ∀ xe s11 ρ, TJ L rm nd (σ.1 2 5) a l p nm xe s11 n n (aN a 0) (aN a 1) [] ρ → RS xe s11 ρ) :
    w_Reader_need L 1019 (fun σ1 => w_Reader_readName L (fun v4 σ3 => WJ (fun (s7 : Int) (σ8 : IS) => WJ (fun (s11 : Int) (σ12 : IS) => WJ (fun (s15 : Unit) (σ16 : IS) => RS s7 s11 σ16) (fun J13 => if (1 : Int) = 0 then J13 () σ12 else w_Tree_beginElement L s7 (fun σ118 => J13 () σ118) σ12)) (fun J9 => if (1 : Int) = 0 then J9 0 σ8 else w_Store_newMark L (fun v122 σ121 => J9 v122 σ121) σ8)) (fun J5 => if (1 : Int) = 0 then J5 (-1) σ3 else inR ((σ3.1 2 2) - v4) ∧ w_Store_intern L v4 ((σ3.1 2 2) - v4) (fun v125 σ124 => J5 v125 σ124) σ3)) σ1) σ := by
  have hjl := h.1.1.jtp_le
  have h9 : L 101 < 1000000 := hln.1.2.2.2.2.2.2.2
  have hcap := hC.cap hln hG
  have hcl : cur a = l := by unfold cur; rw [hF]
  obtain ⟨-, ⟨-, -, -, hnd2, h999⟩, -⟩ := id hln
  obtain ⟨gO, gw, ⟨r1, r2, r3, r4⟩, ⟨c1, c2, c3, c4, c5, c6⟩, ⟨b1', b2⟩, gp, ho, ⟨gf1, gf2⟩, g1, g2, g3, g4⟩ := id hG
  obtain ⟨d1, d2, d3, d4, d5⟩ := id hC
  have hnl := nmg_lt hn1
  have hspn : (if spt nm = true then 4 else 0) ≤ n := by
    by_cases c : spt nm = true
    · rw [if_pos c]
      have := spt_len c
      rw [← hel, sl_len2] at this
      omega
    · rw [if_neg c]; omega
  refine p_need hS (by omega) ti_1019 (by decide) hj (fun τ1 h1 => ?_)
  have hw : wd (σ.2 101) (p + l.length) [60] (some p) = some (p + 1) := by
    show (if mt (σ.2 101) (p + l.length) p [60] = true then some (p + 1) else none) = _
    rw [if_pos hm']
  rw [hw] at h1
  refine p_readName hS (by omega) h1 (fun v4 τ3 h3 hv4 _ => ?_)
  rw [sh_nmgs hT, hn1, mvo_some] at h3
  have hv4' := hv4 (p + 1) rfl
  obtain ⟨hR, hg0⟩ := h.rd hln hp (show n ≤ (cur a).length by rw [hcl]; omega) h3
  obtain ⟨s1, s2, s3, s4, s5⟩ := h3.store
  have hstr : sl (τ3.2 101) (p + 1) (n - 1) = nm := by rw [h3.row, ← hel]; exact sh_sl hT (by omega)
  refine WJ_of (fun xe ρ => RJ L rm nd ρ (adv a n) ∧ sgr σ ρ ∧ Jn ρ xe nm ∧ jw ρ ≤ jw σ + 1 ∧ jtp ρ = jtp σ ∧ (∀ o k, ¬ (o = 1 ∧ (k = 13 ∨ k = 14)) → ¬ (o = 2 ∧ (k = 2 ∨ (7 ≤ k ∧ k ≤ 11))) → ρ.1 o k = σ.1 o k) ∧ (∀ r, 106 < r → ρ.2 r = σ.2 r) ∧ ρ.1 2 2 = ((p + n : Nat) : Int)) (fun J hJ => ?_) ?_
  · rw [if_neg (by decide), h3.at.1, hv4']
    refine ⟨⟨by omega, by omega⟩, ?_⟩
    refine sp_int (s := p + 1) (n := n - 1) hln hR (by omega) (by omega) rfl (by omega) (fun x ρb hRb hgb hJn hjwb hjtb hfr => hJ _ _ ⟨hRb, hg0.trans hgb, by rw [hstr] at hJn; exact hJn, by omega, by omega, fun o k k1 k2 => ?_, fun r hr => ?_, by rw [hfr.1 2 2 (by omega)]; exact h3.at.1⟩)
    · rw [hfr.1 o k k1]
      exact h3.cells.1 o k k2 (by omega)
    · rw [hfr.2 r (by omega), h3.row]
  · rintro xe ρ8 ⟨hR8, hg8, hJ8, hjw8, hjt8, hf8, hr8, hp8⟩
    have e16 : ρ8.1 1 16 = σ.1 1 16 := hf8 1 16 (by omega) (by omega)
    have h016 := hR8.1.2.2.2.2.1
    refine WJ_of (fun s11 ρ => s11 = ρ8.1 1 16 + 1 ∧ ρ = pf ρ8 1 16 s11) (fun J hJ => ?_) ?_
    · rw [if_neg (by decide)]
      unfold w_Store_newMark
      exact ⟨⟨by omega, by omega⟩, hJ _ _ ⟨rfl, rfl⟩⟩
    · rintro s11 _ ⟨hs11, rfl⟩
      obtain ⟨hR9, hg9⟩ := hR8.stamp (v := s11) hln (by omega) (by omega)
      have hF9 : ∀ o k, ¬ (o = 1 ∧ k = 16) → (pf ρ8 1 16 s11).1 o k = ρ8.1 o k := fun o k hk => by rw [pf_1, if_neg hk]
      refine WJ_of (fun _ ρ => TJ L rm nd (σ.1 2 5) a l p nm xe s11 n n (aN a 0) (aN a 1) [] ρ) (fun J hJ => ?_) ?_
      · rw [if_neg (by decide)]
        have hFa : adv a n = sF a ((l.drop n, g) :: t) := adv_of hF
        obtain ⟨o1, o2, o3, o4, o5, o6, o7, o8, o9, o10⟩ := adv_other (a := a) (k := n)
        refine sp_begin (nm := nm) hln hR9 (by rw [o7, o10]; exact ho) (by rw [o7]; omega) (by rw [o2]; omega) (by rw [o9]; omega) (fun f hf => ?_) ((hJ8.gr hg9)) (fun ρ16 L' B' S' O' hR16 hst1 hst0 hf16 hr16 => hJ _ _ ?_)
        · rw [o10]
          rw [hFa] at hf
          rw [hF] at gf1
          rcases List.mem_cons.mp hf with rfl | hf
          · exact gf1 (l, g) List.mem_cons_self
          · exact gf1 f (List.mem_cons_of_mem _ hf)
        · have et : aL (tch (adv a n) false) = aL (tch a false) := by rw [hFa, tch_sF]; rfl
          have ep : par (adv a n) = par a := by rw [hFa]; rfl
          rw [o7, o8, o9, o10, et, ep] at hst1
          rw [o7, o8, o9, o10, et] at hst0
          have hTX := TX.begin (nm := nm) hG hGc hst1 hst0
          rw [o2, trr_adv hF] at hR16
          have e2 : sN (sN (trr a (aN a 3 + 1) L' B' S' O') 0 (aN a 0)) 1 (aN a 1) = trr a (aN a 3 + 1) L' B' S' O' := sN_id2
          have hsg : sgr (pf ρ8 1 16 s11) ρ16 := (hR9.1.out (σ' := ρ16) (fun o k hk => by
            rcases hk with hk | hk | hk | hk
            · exact hf16 o k (by omega)
            · exact hf16 o k (by omega)
            · rw [hk.1, hk.2, hR16.1.2.2.2.1.2.2]; exact hR9.1.2.2.2.1.2.2.symm
            · exact hf16 o k (by omega)) (fun r hr => hr16 r (by omega))).2
          have hgall : sgr σ ρ16 := (hg8.trans hg9).trans hsg
          have hjw16 : jw ρ16 = jw ρ8 ∧ jtp ρ16 = jtp ρ8 := by unfold jw jtp; rw [hf16 1 14 (by decide), hf16 1 3 (by decide), hF9 1 14 (by omega), hF9 1 3 (by omega)]; exact ⟨rfl, rfl⟩
          have hkeep : ∀ o k, ¬ (o = 1 ∧ (k = 13 ∨ k = 14 ∨ k = 16)) → ¬ (o = 2 ∧ (k = 2 ∨ (7 ≤ k ∧ k ≤ 11))) → o ≠ 6 → ρ16.1 o k = σ.1 o k := fun o k k1 k2 k3 => by rw [hf16 o k k3, hF9 o k (by omega)]; exact hf8 o k (by omega) k2
          have hrs0 := rsv_XT0 (a := a) (nm := nm) (g := 0)
          have e16' : ρ16.1 1 16 = s11 := by rw [hf16 1 16 (by decide), pf_eq]
          refine ⟨⟨aN a 3 + 1, L', B', S', O', by rw [e2]; exact hR16, hTX⟩, ⟨by rw [hf16 2 2 (by decide), hF9 2 2 (by omega)]; exact hp8, by rw [hkeep 2 3 (by omega) (by omega) (by decide)]; exact hS.1, hT.gr htp hgall, by rw [hjw16.2]; omega, (hJ8.gr hg9).gr hsg⟩, ⟨e16', fun w hw => ?_, fun s hs => by cases hs⟩, ⟨hnl.2.2, Nat.le_refl _, r2, by omega, Nat.zero_le _⟩, ⟨by omega, by rw [hkeep 1 2 (by omega) (by omega) (by decide)]; omega, by rw [hkeep 4 16 (by omega) (by omega) (by decide)]; omega, by omega⟩, hkeep 2 5 (by omega) (by omega) (by decide), by rw [e16']; omega⟩
          exfalso
          rw [hr16 155 (by omega)] at hw
          have := h016.2 w
          have hw2 : ρ8.2 155 w = s11 := hw
          omega
      · rintro _ ρ16 hTJ0
        exact hrest _ _ _ hTJ0
set_option maxHeartbeats 4000000 in
/-- a tag, from behind its last attribute on -/
theorem j_tagX {l : List Int} {g : Nat × Nat} {t : List Frm} {p i c m k : Nat} {pl xe s11 : Int} {nm : Str} {acc : List Att} (hln : JLn L rm nd) (hG : GA rm nd a) (hF : aF a = (l, g) :: t) (h4 : aN a 4 ≠ 1) (hes : evl (aS a) + 1 < rm) (hll : l.length ≤ 200000) (hTJ : TJ L rm nd pl a l p nm xe s11 i (sk isSp (gd l) l.length i) c m acc ρ) (hi : i ≤ l.length) (hi1 : 1 ≤ i) (hwd : wd (gd l) l.length [62] (skp (gd l) l.length [47] (some (sk isSp (gd l) l.length i))) = some k) (hla : gd l (i - 1) ≠ 47)
    (hq4 : nd < aN a 3 + 1 + (acc ++ dfl (aA a) nm acc).length → ∀ ρ', JBd L rm nd ρ' 4 pl → Q ρ')
    (hq : ¬ nd < aN a 3 + 1 + (acc ++ dfl (aA a) nm acc).length → ∀ a', a' = (if gd l (k - 2) = 47 then cls (nel a nm acc (acc ++ dfl (aA a) nm acc) k c m) else nel a nm acc (acc ++ dfl (aA a) nm acc) k c m) → ∀ ρ', RJ L rm nd ρ' a' → JC L ρ' a' → ρ'.1 2 5 = pl → Q ρ') :
    w_Reader_skip L 1020 (fun v28 σ27 => w_Reader_need L 1018 (fun σ29 => WJ (fun (s33 : Unit) (σ34 : IS) => Q σ34) (fun J31 => if ¬ (1 : Int) = 0 ∧ ((σ29.1 2 4) = 0) then w_Content_finishTag L xe s11 v28 (fun σ35 => J31 () σ35) σ29 else J31 () σ29)) σ27) ρ := by
  obtain ⟨hJS, hjs⟩ := hTJ.js hln
  have hTρ := hTJ.2.1.2.2.1
  have hyl := sk_le (p := isSp) (T := gd l) hi
  generalize hy : sk isSp (gd l) l.length i = y at *
  refine p_skip hJS (by omega) ti_1020 (by decide) hjs (fun v28 ρ2 h2 _ hv28 => p_need hJS (by omega) ti_1018 (by decide) h2 (fun ρ3 h3 => ?_))
  have hsk := sh_skp hTρ (l := [47]) (some y)
  rw [mvo_some] at hsk
  rw [hsk, sh_wd hTρ, hwd, mvo_some] at h3
  have hv28' := hv28 (p + y) rfl
  rw [sh_mt hTρ] at hv28'
  have hkl : k ≤ l.length := by have := h3.at.2; omega
  -- a slash or none
  have hsl : y < k ∧ (v28 = 0 ↔ ¬ gd l (k - 2) = 47) ∧ (gd l (k - 2) = 47 → i + 1 < k) := by
    have hwd2 : wd (gd l) l.length [62] (if mt (gd l) l.length y [47] = true then some (y + 1) else some y) = some k := hwd
    by_cases c47 : mt (gd l) l.length y [47] = true
    · rw [if_pos c47] at hwd2
      have hw1 := wd1 (by decide) hwd2
      have hlk : lk (gd l) l.length y = 47 := by rw [mt1] at c47; simpa using c47
      have hlt := lk_lt (by decide) hlk
      have e1 : gd l (k - 2) = 47 := by rw [hw1.1, show y + 1 + 1 - 2 = y by omega]; exact hlt.2
      refine ⟨by omega, ⟨fun z => ?_, fun z => absurd e1 z⟩, fun _ => by omega⟩
      rw [hv28', c47] at z
      exact absurd z (by decide)
    · rw [if_neg c47] at hwd2
      have hw1 := wd1 (by decide) hwd2
      have e1 : gd l (k - 2) ≠ 47 := by
        rw [hw1.1, show y + 1 - 2 = y - 1 by omega]
        by_cases cy : i < y
        · exact sp_last hy cy
        · rw [show y = i by omega]
          exact hla
      have c47' : mt (gd l) l.length y [47] = false := by simpa using c47
      refine ⟨by omega, ⟨fun _ => e1, fun _ => ?_⟩, fun z => absurd z e1⟩
      rw [hv28', c47']
      rfl
  have hTJ3 := hTJ.mv hln hF (by omega) hkl h3
  obtain ⟨⟨n3, L', B', S', O', hRi, hTX⟩, ⟨h22, h23, hTρ3, htρ, hJe⟩, hMK, ⟨u1, u2, u3, u4, u5⟩, ⟨k1, k2, k3, k4⟩, hpl, h16⟩ := hTJ3
  refine WJ_dir ?_
  dsimp only
  rw [if_pos ⟨by decide, hRi.2.2.2.2.2.2.2.2.2.2.2.1⟩]
  refine j_finish hln hG hF h4 (by omega) hRi hTX hJe (fun w hw => ?_) (by omega) (fun hov ρ' hB => ?_) (fun hov h30 ρ' hR' hf' => ?_) (fun hov h31 ρ' hR' hf' => ?_)
  · have hJw : Jn ρ3 (w : Int) (wst ρ3 w) := ⟨w, rfl, hw, rfl⟩
    have := hMK.hit hRi.1.1 hJw
    rw [show Int.toNat (w : Int) = w by omega] at this
    exact this
  · rw [hpl] at hB
    exact hq4 hov ρ' hB
  · skip
    have hj' : jw ρ' = jw ρ3 ∧ jtp ρ' = jtp ρ3 := by unfold jw jtp; rw [hf' 1 14 (by decide), hf' 1 3 (by decide)]; exact ⟨rfl, rfl⟩
    exact hq hov _ (by rw [if_neg (hsl.2.1.mp h30)]) ρ' hR' (JC.tag (ρ := ρ') (i := i) hF hkl (by omega) (by rw [hj'.1]; exact k1) (by rw [hj'.2, hf' 1 2 (by decide)]; exact k2) (by rw [hf' 4 16 (by decide)]; exact k3) (by rw [hj'.1]; exact k4) (by rw [hf' 1 16 (by decide)]; exact h16)).1 (by rw [hf' 2 5 (by decide)]; exact hpl)
  · have h47 : gd l (k - 2) = 47 := Classical.byContradiction (fun z => h31 (hsl.2.1.mpr z))
    have hj' : jw ρ' = jw ρ3 ∧ jtp ρ' = jtp ρ3 := by unfold jw jtp; rw [hf' 1 14 (by decide), hf' 1 3 (by decide)]; exact ⟨rfl, rfl⟩
    exact hq hov _ (by rw [if_pos h47]) ρ' hR' ((JC.tag (ρ := ρ') (i := i) hF hkl (by omega) (by rw [hj'.1]; exact k1) (by rw [hj'.2, hf' 1 2 (by decide)]; exact k2) (by rw [hf' 4 16 (by decide)]; exact k3) (by rw [hj'.1]; exact k4) (by rw [hf' 1 16 (by decide)]; exact h16)).2 (hsl.2.2 h47)) (by rw [hf' 2 5 (by decide)]; exact hpl)
end JI40
