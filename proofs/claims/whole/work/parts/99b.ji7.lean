/-! ===== items of the class: parameter references, ends of texts, notations ===== -/
section JI7
variable {L : Nat → Nat} {rm nd : Nat} {σ τ : IS} {a : AS} {Q : IS → Prop}
set_option maxHeartbeats 1000000 in
theorem jI_prf (hln : JLn L rm nd) (h : RJ L rm nd σ a) (hG : GA rm nd a) (hC : JC L σ a) (hph : aN a 4 = 1) (hm : mt (gd (cur a)) (cur a).length 0 [37] = true) (hq : JO L rm nd σ Q (iPrf rm a)) : w_Doctype_readParameterReference L Q σ := by
  obtain ⟨p, g, t, hF, hp, hS, hT, htp, hj⟩ := h.at hln
  have hjl := h.1.1.jtp_le
  have h9 : L 101 < 1000000 := hln.1.2.2.2.2.2.2.2
  obtain ⟨gO, gw, ⟨r1, r2, r3, r4⟩, ⟨c1, c2, c3, c4, c5, c6⟩, ⟨b1, b2⟩, gp, ho, ⟨gf1, gf2⟩, g1, g2, g3, g4⟩ := id hG
  have hrm := hln.2.1
  have hO : aO a = [] := by
    by_cases c : aO a = []
    · exact c
    · have := gp.2.1.mpr c; omega
  have hm' : mt (σ.2 101) (p + (cur a).length) p [37] = true := by
    have := sh_mt hT [37] 0
    rw [show p + 0 = p by omega] at this
    rw [this]; exact hm
  have hpc := sh_pcp hT 0
  rw [show p + 0 = p by omega] at hpc
  have hnm := sh_nmgs hT (b := true) 1
  have hid : iPrf rm a = match nmg (gd (cur a)) (cur a).length true (some 1), pcp (gd (cur a)) (cur a).length 0 with
    | some n, some k => match eno (aE a) (sl (gd (cur a)) 1 (n - 1)) true with
      | none => .inl 9
      | some i => match ent rm a i k with
        | .inl f => .inl f
        | .inr a' => .inr (sN a' 6 1)
    | _, _ => .inl 5 := rfl
  refine j_paramRef hS hm' hj (fun n' k' τ hn hk hτ => ?_) (fun hno τ hτ => ?_)
  · rw [hnm] at hn
    rw [hpc] at hk
    obtain ⟨n, hn1, rfl⟩ := mvo_eq_some.mp hn
    obtain ⟨k, hk1, rfl⟩ := mvo_eq_some.mp hk
    have hnl := nmg_lt hn1
    have hkl := pcp_lt hk1
    rw [hn1, hk1] at hid
    dsimp only at hid
    obtain ⟨hR, -⟩ := h.rd hln hp hkl.2.1 hτ
    obtain ⟨s1, s2, s3, s4, s5⟩ := hτ.store
    rw [adv_of hF] at hR
    generalize hX : ((cur a).drop k, g) :: t = X at *
    have hstr : sl (σ.2 101) ((p + 1 : Nat) : Int).toNat (((p + n : Nat) : Int) - ((p + 1 : Nat) : Int)).toNat = sl (gd (cur a)) 1 (n - 1) := by
      rw [show ((p + 1 : Nat) : Int).toNat = p + 1 by omega, show (((p + n : Nat) : Int) - ((p + 1 : Nat) : Int)).toNat = n - 1 by omega]
      exact sh_sl hT (by omega)
    have hW := h.2.2.1.2.2.2
    have hL115 : L 115 = L 102 := hln.2.2.2.2.2.1.2.1
    have hjwl := h.1.1.jw_le
    have hFe : aF (sF a X) = X := rfl
    have hbA : bsy (sF a X) = bsy a := by
      show X.map (fun f => f.2.1) = (aF a).map (fun f => f.2.1)
      rw [← hX, hF]
      rfl
    have hGA2 : GO (aE (sF a X)) (aF (sF a X)) := by
      show GO (aE a) X
      rw [← hX]
      rw [hF] at gO
      refine ⟨gO.1, fun f hf => ?_⟩
      rcases List.mem_cons.mp hf with rfl | hf
      · exact gO.2 (cur a, g) List.mem_cons_self
      · exact gO.2 f (List.mem_cons_of_mem _ hf)
    -- whatever was found
    have hgo : ∀ (v : Int) (τ9 : IS), jp (p + (cur a).length) 0 σ (some (p + k)) τ9 → (v = -1 ∨ 0 ≤ v ∧ v < (L 102 : Int)) → (if v = -1 then (0 : Int) else τ9.2 115 v.toNat) = en1 (eno (aE a) (sl (gd (cur a)) 1 (n - 1)) true) → w_Entities_enterParameter L v (fun σ14 => Q σ14) τ9 := by
      intro v τ9 h9' hv hlk
      obtain ⟨hR9, -⟩ := h.rd hln hp hkl.2.1 h9'
      rw [adv_of hF, hX] at hR9
      obtain ⟨s1, s2, s3, s4, s5⟩ := h9'.store
      have s16 : τ9.1 1 16 = σ.1 1 16 := h9'.keep (by omega) (by omega)
      unfold w_Entities_enterParameter
      refine ⟨fun c => ⟨by omega, by omega⟩, ?_⟩
      rw [hlk]
      cases hE : eno (aE a) (sl (gd (cur a)) 1 (n - 1)) true with
      | none =>
        rw [hE] at hid
        rw [if_pos (show en1 none = 0 from rfl)]
        have hB := hR9.ft (n := 9) (by decide)
        rw [s5] at hB
        exact sp_Reader_fail (hq.1 9 hid _ hB)
      | some i =>
        rw [hE] at hid
        dsimp only at hid
        have e1 : en1 (some i) = (i : Int) + 1 := rfl
        have hin : i < (aE a).length := (List.findIdx?_eq_some_iff_getElem.mp hE).1
        rw [e1, if_neg (by omega), show (i : Int) + 1 - 1 = (i : Int) by omega]
        refine ⟨⟨by omega, by omega⟩, ?_⟩
        have hent : ent rm a i k = if rm < aN a 0 + (((aE a).getD i ([], false, [])).2.2).length then .inl 4 else if (i + 1) ∈ bsy a then .inl 10 else .inr (sN (sN (sF a ((((aE a).getD i ([], false, [])).2.2, i + 1, (aO a).length) :: X)) 0 (aN a 0 + (((aE a).getD i ([], false, [])).2.2).length)) 7 (if t = [] then aN a 8 - (cur a).length else aN a 7)) := by
          unfold ent
          rw [hF, ← hX]
        rw [hent] at hid
        -- parameters seen
        have hZ' := hR9.1.out (σ' := pf τ9 3 16 1) (fun o k hk' => by rw [pf_1, if_neg (by omega)]) (fun _ _ => rfl)
        have hA : ∀ (F : Nat → Nat → Bool) (R : Nat → Bool), F 3 16 = false → ag F R τ9 (pf τ9 3 16 1) := fun F R x => ag.refl.pf x
        have hRp : RJ L rm nd (pf τ9 3 16 1) (sN (sF a X) 6 1) := by
          refine hR9.mk' hln hZ'.1 hZ'.2 (Or.inl ⟨hA _ _ rfl, rfl, rfl⟩) (Or.inl ⟨hA _ _ rfl, rfl, rfl⟩) (Or.inr ?_) (Or.inl ⟨hA _ _ rfl, rfl⟩) (Or.inl ⟨hA _ _ rfl, rfl⟩) (Or.inl ⟨hA _ _ rfl, rfl⟩) (Or.inl ⟨hA _ _ rfl, rfl⟩) (Or.inl ⟨hA _ _ rfl, rfl, rfl⟩) (Or.inl ⟨hA _ _ rfl, rfl⟩) (Or.inl ⟨hA _ _ rfl, rfl⟩) ⟨by rw [pf_no (by decide)]; exact hR9.2.2.2.2.2.2.2.2.2.2.2.1, by rw [pf_no (by decide)]; exact hR9.2.2.2.2.2.2.2.2.2.2.2.2⟩
          obtain ⟨n1, n2, n3, n4, n5, n6⟩ := hR9.2.2.2.1
          exact ⟨by rw [pf_nk (by decide)]; exact n1, by rw [pf_nk (by decide)]; exact n2, by rw [pf_no (by decide)]; exact n3, by rw [pf_nk (by decide)]; exact n4, by rw [pf_eq]; rfl, by rw [pf_no (by decide)]; exact n6⟩
        have hb5 : (pf τ9 3 16 1).1 2 5 = σ.1 2 5 := by rw [pf_no (by decide)]; exact s5
        have hEA : aE (sN (sF a X) 6 1) = aE a := rfl
        have hNA : aN (sN (sF a X) 6 1) 0 = aN a 0 := rfl
        have hOA : aO (sN (sF a X) 6 1) = aO a := rfl
        have hbA' : bsy (sN (sF a X) 6 1) = bsy a := hbA
        refine sp_ent (A := sN (sF a X) 6 1) (k0 := (aO a).length) hln hRp hGA2 (show (aE a).length < rm / 14 + 2 by omega) (show aN a 0 ≤ rm by omega) hin (by rw [hOA, hO]; rfl) (fun hlt σ' hB => ?_) (fun hlt hb σ' hB => ?_) (fun hlt hb σ' hR' hag => ?_)
        · rw [hEA, hNA] at hlt
          rw [if_pos hlt] at hid
          rw [hb5] at hB
          exact hq.1 4 hid σ' hB
        · rw [hEA, hNA] at hlt
          rw [hbA'] at hb
          rw [if_neg hlt, if_pos hb] at hid
          rw [hb5] at hB
          exact hq.1 10 hid σ' hB
        · rw [hEA, hNA] at hlt
          rw [hbA'] at hb
          rw [if_neg hlt, if_neg hb] at hid
          have hR'' := hR' (if t = [] then aN a 8 - (cur a).length else aN a 7)
          rw [hEA, hNA] at hR''
          have hst : jw σ' = jw σ ∧ jtp σ' = jtp σ ∧ σ'.1 1 2 = σ.1 1 2 ∧ σ'.1 4 16 = σ.1 4 16 := by
            refine ⟨?_, ?_, ?_, ?_⟩
            · unfold jw; rw [hag.1 1 14 rfl, pf_no (by decide)]; exact s1
            · unfold jtp; rw [hag.1 1 3 rfl, pf_no (by decide)]; exact s2
            · rw [hag.1 1 2 rfl, pf_no (by decide)]; exact s3
            · rw [hag.1 4 16 rfl, pf_no (by decide)]; exact s4
          have hc1 := hC.ad (τ := σ') hkl.2.1 hst.1 hst.2.1 hst.2.2.1 hst.2.2.2 (by rw [hag.1 1 16 rfl, pf_no (by decide)]; exact s16)
          rw [adv_of hF, hX] at hc1
          generalize hlen : (((aE a).getD i ([], false, [])).2.2) = tx at *
          have heq : sN (sN (sN (sF a ((tx, i + 1, (aO a).length) :: X)) 0 (aN a 0 + tx.length)) 7 (if t = [] then aN a 8 - (cur a).length else aN a 7)) 6 1 = sN (sN (sF (sN (sF a X) 6 1) ((tx, i + 1, (aO a).length) :: aF (sN (sF a X) 6 1))) 0 (aN a 0 + tx.length)) 7 (if t = [] then aN a 8 - (cur a).length else aN a 7) := by
            unfold sN sF
            dsimp only
            congr 3
            funext j
            by_cases j6 : j = 6
            · subst j6; rfl
            · by_cases j7 : j = 7
              · subst j7; rfl
              · by_cases j0 : j = 0
                · subst j0; rfl
                · simp [j6, j7, j0]
          rw [← heq] at hR''
          refine hq.2 _ hid σ' hR'' ?_ (by rw [hag.1 2 5 rfl]; exact hb5)
          obtain ⟨d1, d2, d3⟩ := hc1
          have hrm2 : rem (sN (sN (sN (sF a ((tx, i + 1, (aO a).length) :: X)) 0 (aN a 0 + tx.length)) 7 (if t = [] then aN a 8 - (cur a).length else aN a 7)) 6 1) = tx.length + rem (sF a X) := by
            unfold rem
            have e1 : aF (sN (sN (sN (sF a ((tx, i + 1, (aO a).length) :: X)) 0 (aN a 0 + tx.length)) 7 (if t = [] then aN a 8 - (cur a).length else aN a 7)) 6 1) = (tx, i + 1, (aO a).length) :: X := rfl
            rw [e1, hFe, List.map_cons, List.sum_cons]
          have e0 : aN (sF a X) = aN a := rfl
          have eO : aO (sF a X) = aO a := rfl
          have eL : aL (sF a X) = aL a := rfl
          have eB : aB (sF a X) = aB a := rfl
          have eA : aA (sF a X) = aA a := rfl
          have eR : rsv (sF a X) = rsv a := rfl
          rw [e0, eO, eR] at d1
          rw [e0] at d2 d3
          have f0 : aN (sN (sN (sN (sF a ((tx, i + 1, (aO a).length) :: X)) 0 (aN a 0 + tx.length)) 7 (if t = [] then aN a 8 - (cur a).length else aN a 7)) 6 1) 0 = aN a 0 + tx.length := rfl
          have f8 : aN (sN (sN (sN (sF a ((tx, i + 1, (aO a).length) :: X)) 0 (aN a 0 + tx.length)) 7 (if t = [] then aN a 8 - (cur a).length else aN a 7)) 6 1) 8 = aN a 8 := rfl
          have f3 : aN (sN (sN (sN (sF a ((tx, i + 1, (aO a).length) :: X)) 0 (aN a 0 + tx.length)) 7 (if t = [] then aN a 8 - (cur a).length else aN a 7)) 6 1) 3 = aN a 3 := rfl
          have fO : aO (sN (sN (sN (sF a ((tx, i + 1, (aO a).length) :: X)) 0 (aN a 0 + tx.length)) 7 (if t = [] then aN a 8 - (cur a).length else aN a 7)) 6 1) = aO a := rfl
          have fL : aL (sN (sN (sN (sF a ((tx, i + 1, (aO a).length) :: X)) 0 (aN a 0 + tx.length)) 7 (if t = [] then aN a 8 - (cur a).length else aN a 7)) 6 1) = aL a := rfl
          have fB : aB (sN (sN (sN (sF a ((tx, i + 1, (aO a).length) :: X)) 0 (aN a 0 + tx.length)) 7 (if t = [] then aN a 8 - (cur a).length else aN a 7)) 6 1) = aB a := rfl
          have fA : aA (sN (sN (sN (sF a ((tx, i + 1, (aO a).length) :: X)) 0 (aN a 0 + tx.length)) 7 (if t = [] then aN a 8 - (cur a).length else aN a 7)) 6 1) = aA a := rfl
          unfold JC
          rw [f0, f8, f3, fO, rsv_eq (a := a) (by rw [fL]) fB fA rfl, hrm2]
          omega
    refine p_find h.1.1 hln.1 hτ ⟨by omega, by omega, by omega⟩ (fun w τ9 h9' hw hws => hgo w τ9 h9' (Or.inr ⟨by omega, by omega⟩) ?_) (fun τ9 h9' hno => hgo (-1) τ9 h9' (Or.inl rfl) ?_)
    · rw [hstr] at hws
      rw [if_neg (by omega), show ((w : Int)).toNat = w by omega, h9'.row, hW.1 w (by omega), hws]
    · rw [hstr] at hno
      rw [if_pos rfl]
      refine Classical.byContradiction (fun hz => ?_)
      obtain ⟨w, hw1, hw2⟩ := hW.2.2 _ (fun e => hz e.symm)
      exact hno w (by omega) hw2
  · rw [hpc] at hno
    have hk0 := mvo_eq_none.mp hno
    rw [hk0] at hid
    have hid' : iPrf rm a = .inl 5 := by
      rw [hid]
      cases nmg (gd (cur a)) (cur a).length true (some 1) <;> rfl
    exact hq.1 5 hid' τ (h.bad hτ)
end JI7
