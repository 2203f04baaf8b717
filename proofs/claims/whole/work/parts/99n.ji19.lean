/-! ===== items of the class: types of attributes, kept (2) ===== -/
section JI19
variable {L : Nat → Nat} {rm nd : Nat} {ρ0 ρ ρ' ρ'' σ : IS} {A : AS}
theorem tyT_ti : ∀ t, t < 9 → tyT.getD t [] = ti (1064 + (10 + t)) := by decide +kernel
theorem JZ.ty (h : JZ L rm nd σ) : jty σ := by
  have hj := h.1.jw_le
  have h3 := h.2.2.1
  exact ⟨by omega, fun t ht => by rw [h3.2 (10 + t) (by omega), tyT_ti t ht]⟩
theorem AP.ty {P : Int} {b : Nat} {ls : List Str} (h : AP L rm nd A P b ls ρ) : jty ρ := by
  obtain ⟨t1, t2⟩ := h.1.1.ty
  refine ⟨by rw [pf_no (by decide), pf_no (by decide)] at t1; exact t1, fun t ht => ?_⟩
  exact t2 t ht
set_option maxRecDepth 10000 in
set_option maxHeartbeats 1000000 in
theorem j_readType1 {Q : Int → IS → Prop} {P : Int} {b e q k : Nat} {all : List Str} (hln : JLn L rm nd) (hAP : AP L rm nd A P b [] ρ0) (h3 : ρ0.1 2 3 = (e : Int)) (h2 : ρ0.1 2 2 = (q : Int)) (hqe : q ≤ e) (he : e ≤ jtp ρ0) (hk : typ (ρ0.2 101) e q = some k) (hall : all = (atyL (ρ0.2 101) e q).map (fun z => sl (ρ0.2 101) z.1 (z.2 - z.1))) (hw : jw ρ0 + all.length < L 102) (hl : b + all.length < L 124) (hb : b + all.length ≤ 200000)
    (hq : ∀ ρ, AP L rm nd A P b all ρ → AK ρ0 ρ → ρ.1 2 2 = (k : Int) → jw ρ ≤ jw ρ0 + all.length → Q ((atyN (ρ0.2 101) e q : Int) + 10) ρ) : w_Doctype_readType L 1 Q ρ0 := by
  have hS := hAP.js hln h3 he
  have he1 : e < 1000000 := by have := hS.2.1; have := hS.2.2.1; omega
  have hj : jp e 0 ρ0 (some q) ρ0 := jp.start' hS hqe h2
  unfold w_Doctype_readType
  refine p_peek hS (by omega) hj (fun v2 hv2 => ?_)
  have hv := hv2 q rfl
  by_cases c : v2 = 40
  · rw [if_pos c]
    have c' : lk (ρ0.2 101) e q = 40 := by rw [← hv]; exact c
    have hN : atyN (ρ0.2 101) e q = 9 := by unfold atyN; rw [if_pos c']
    rw [hN] at hq
    unfold typ at hk
    rw [if_pos c'] at hk
    unfold atyL at hall
    rw [if_pos c'] at hall
    exact j_readList1 hln false rfl hAP h3 h2 hqe he hk hall hw hl hb hq
  · rw [if_neg c]
    have c' : ¬ lk (ρ0.2 101) e q = 40 := by rw [← hv]; exact c
    unfold typ at hk
    rw [if_neg c'] at hk
    unfold atyL at hall
    rw [if_neg c'] at hall
    have hN : atyN (ρ0.2 101) e q = (match nmg (ρ0.2 101) e true (some q) with
      | none => 0
      | some n => (tyn (sl (ρ0.2 101) q (n - q))).getD 0) := by unfold atyN; rw [if_neg c']; rfl
    cases hn : nmg (ρ0.2 101) e true (some q) with
    | none => rw [hn] at hk; cases hk
    | some n =>
    rw [hn] at hk hall hN
    dsimp only at hk hall hN
    cases ht : tyn (sl (ρ0.2 101) q (n - q)) with
    | none => rw [ht] at hk; cases hk
    | some t =>
    rw [ht] at hk hall hN
    dsimp only at hk hall
    have hN' : atyN (ρ0.2 101) e q = t := hN
    rw [hN'] at hq
    have ht9 := (tyn_some ht).1
    have hnl := nmg_lt hn
    refine p_readName hS (by omega) hj (fun v5 ρ1 h1 hv5 _ => ?_)
    have e5 := hv5 q rfl
    rw [hn] at h1
    have hL1 := hS.2.1
    rw [e5, h1.at.1]
    refine ⟨⟨by omega, by omega⟩, ?_⟩
    have hI := hAP.si.1
    have hstr : sl (ρ0.2 101) ((q : Int)).toNat ((n : Int) - (q : Int)).toNat = sl (ρ0.2 101) q (n - q) := by rw [show ((q : Int)).toNat = q by omega, show ((n : Int) - (q : Int)).toNat = n - q by omega]
    have hgo : ∀ (v7 : Int) (ρ2 : IS), jp e 0 ρ0 (some n) ρ2 → v7 = (t : Int) + 10 → WJ (fun (s10 : Unit) (σ11 : IS) => WJ (fun (s14 : Unit) (σ15 : IS) => Q v7 σ15) (fun J12 => if v7 = 18 then w_Reader_needSpace L (fun σ17 => w_Doctype_readList L 1 1 (fun σ19 => J12 () σ19) σ17) σ11 else J12 () σ11)) (fun J8 => if v7 < 10 ∨ (18 < v7) then w_Reader_fail L 5 (fun σ21 => J8 () σ21) ρ2 else J8 () ρ2) := by
      intro v7 ρ2 hρ2 hv7
      refine WJ_dir ?_
      dsimp only
      rw [if_neg (by omega)]
      refine WJ_dir ?_
      dsimp only
      by_cases c2 : v7 = 18
      · rw [if_pos c2]
        have ht8 : t = 8 := by omega
        rw [if_pos ht8] at hk hall
        refine p_needSpace hS (by omega) hρ2 (fun ρ3 h3' => ?_)
        cases hsp : spc (ρ0.2 101) e (some n) with
        | none => rw [hsp] at hk; cases hk
        | some x =>
          rw [hsp] at hk hall h3'
          dsimp only at hall
          have hA3 := hAP.mv hln h3'
          have hK3 := AK.jpp hAP h3'
          have hx := spc_gt hnl.2.2 hsp
          have hw3 : jw ρ3 = jw ρ0 := h3'.store.1
          refine j_readList1 hln true rfl hA3 (by rw [hK3.2.2.2 2 3 (by omega) (by omega) (by omega)]; exact h3) h3'.at.1 hx.2.1 (by rw [hK3.2.1]; exact he) (by rw [hK3.2.2.1]; exact hk) (by rw [hK3.2.2.1]; exact hall) (by rw [hw3]; exact hw) hl hb (fun ρ4 hA4 hK4 h24 hw4 => ?_)
          have := hq ρ4 hA4 (hK3.trans hK4) h24 (by rw [hw3] at hw4; exact hw4)
          rw [← hv7] at this
          exact this
      · rw [if_neg c2]
        have ht8 : ¬ t = 8 := by omega
        rw [if_neg ht8] at hk hall
        have hkn : n = k := Option.some.inj hk
        have hall' : all = [] := hall
        have := hq ρ2 (by rw [hall']; exact hAP.mv hln hρ2) (AK.jpp hAP hρ2) (by rw [hρ2.at.1, hkn]) (by rw [hρ2.store.1]; exact Nat.le_add_right _ _)
        rw [← hv7] at this
        exact this
    refine p_find hI hln.1 h1 ⟨by omega, by omega, by omega⟩ (fun w ρ2 hρ2 hw' hws => hgo _ ρ2 hρ2 ?_) (fun ρ2 hρ2 hno => ?_)
    · rw [hstr] at hws
      by_cases c2 : 10 ≤ w ∧ w ≤ 18
      · have := jty_word hI hAP.ty hw' hws c2
        rw [ht] at this
        have := Option.some.inj this
        omega
      · have := jty_no hI hAP.ty hw' hws c2
        rw [ht] at this
        cases this
    · rw [hstr] at hno
      have := jty_nf hAP.ty hno
      rw [ht] at this
      cases this
end JI19
