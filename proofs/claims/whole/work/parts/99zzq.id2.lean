/-! ===== the validator: identities, the loops ===== -/
/-- the class after the attributes l -/
def VI (σ : IS) (ad : List ADc) (at_ : List Att) (v : Int) (q : IDs) (p : Nat → Nat) (ρ : IS) : Prop := VW σ ρ ∧ ρ.1 1 16 = v ∧ ρ.1 8 13 = v ∧ (∀ k, ρ.2 149 k = σ.2 149 k + if k = 11 then (q.2.1 : Int) else 0) ∧ (∀ w, w < jw σ → (ρ.2 155 w = v ↔ wst σ w ∈ q.1)) ∧ ∀ d, d < ad.length → ρ.2 154 d = (p d : Int)
section VIs
variable {L : Nat → Nat} {σ : IS} {el : List Elm} {at_ : List Att} {ad : List ADc} {Q : IS → Prop}
set_option maxHeartbeats 2000000 in
theorem sp_Validator_countIdentities (hS : SI L σ) (hl : SL L) (h62 : σ.1 6 2 = (el.length : Int)) (h412 : σ.1 4 12 = (ad.length : Int)) (hE : ∀ e, e < el.length → σ.2 130 e = ((el.getD e elD).2.2.1 : Int) ∧ σ.2 131 e = ((el.getD e elD).2.2.2.1 : Int) ∧ σ.2 132 e = ((el.getD e elD).2.2.2.2.1 : Int)) (hB : JAt σ at_) (hC : ∀ x ∈ el, x.2.2.1 + x.2.2.2.1 ≤ at_.length) (hD : ∀ x ∈ at_, ∀ d, x.2.2 = some d → d < ad.length) (hT : ∀ d, d < ad.length → σ.2 118 d = ((ad.getD d adD).2.2.1 : Int) + 10) (hLe : el.length ≤ L 130 ∧ el.length ≤ L 131 ∧ el.length ≤ L 132) (hLa : at_.length ≤ L 134 ∧ at_.length ≤ L 135) (hLd : ad.length ≤ L 118 ∧ ad.length ≤ L 154) (h149 : L 149 = 23) (hbd : el.length * at_.length ≤ 300000000 ∧ el.length < 1000000 ∧ at_.length < 1000000 ∧ ad.length < 1000000) (hc : 0 ≤ σ.2 149 11 ∧ σ.2 149 11 ≤ 1000000000) (hs : 0 ≤ σ.1 1 16 ∧ σ.1 1 16 ≤ 2000000000) (hm : ∀ w, σ.2 155 w ≤ σ.1 1 16)
    (hq : ∀ σ', VI σ ad at_ (σ.1 1 16 + 1) (ids ad at_ (segs el)) (ids ad at_ (segs el)).2.2 σ' → Q σ') : w_Validator_countIdentities L Q σ := by
  have hj := hS.jw_le
  have e155 : L 102 = L 155 := hl.2.2.2.1
  have h102 : L 102 < 1000000 := hl.2.2.2.2.2.2.1
  unfold w_Validator_countIdentities w_Store_newMark
  refine ⟨⟨by omega, by omega⟩, ?_⟩
  generalize hv : σ.1 1 16 + 1 = v at *
  have e412 : (pf σ 1 16 v).1 4 12 = (ad.length : Int) := by rw [pf_no (by decide)]; exact h412
  rw [e412]
  refine ⟨⟨by omega, by omega, by omega⟩, ?_⟩
  rw [show Int.toNat (0 : Int) = 0 from rfl, show Int.toNat ((ad.length : Nat) : Int) = ad.length from rfl]
  have hpre : ∀ e, e < el.length → (el.getD e elD) ∈ el := fun e he => by
    rw [List.getD_eq_getElem?_getD, List.getElem?_eq_getElem he]
    exact List.getElem_mem he
  have hidl : ∀ l : List (Nat × Bool), l.length ≤ 300000000 + 1000000 → (ids ad at_ l).2.1 ≤ 301000000 ∧ ∀ j, (ids ad at_ l).2.2 j ≤ 301000000 := fun l hl' => by
    have := ids_le (ad := ad) (at_ := at_) l ([], 0, fun _ => 0) 0 (Nat.le_refl _) (fun _ => Nat.le_refl _)
    unfold ids
    exact ⟨by omega, fun j => by have := this.2 j; omega⟩
  have hsl : ∀ e, e ≤ el.length → (segs (el.take e)).length ≤ 300000000 := fun e he => by
    have h1 := segs_len (el := el.take e) (m := at_.length) (fun x hx => by have := hC x (List.mem_of_mem_take hx); omega)
    have h2 : (el.take e).length * at_.length ≤ el.length * at_.length := Nat.mul_le_mul_right _ (by rw [List.length_take]; omega)
    omega
  refine WL_ind (fun s τ => ∃ e : Nat, s = (e : Int) ∧ e ≤ el.length ∧ VI σ ad at_ v (ids ad at_ (segs (el.take e))) (ids ad at_ (segs (el.take e))).2.2 τ) (fun s _ => (el.length - s).toNat) ?_ 0 _ ⟨0, rfl, Nat.zero_le _, ?_⟩
  · rintro _ τ ⟨e, rfl, he, hV⟩ K hK
    rw [hV.1.1 6 2 (by omega) (by omega), h62]
    by_cases c : e < el.length
    · rw [if_pos (by omega)]
      obtain ⟨x130, x131, x132⟩ := hE e c
      have hCe := hC _ (hpre e c)
      generalize hx : el.getD e elD = x at *
      refine WL_ind (fun s ρ => ∃ i : Nat, s = (i : Int) ∧ i ≤ x.2.2.2.1 ∧ VI σ ad at_ v (ids ad at_ (segs (el.take e) ++ (seg x).take i)) (ids ad at_ (segs (el.take e) ++ (seg x).take i)).2.2 ρ) (fun s _ => (x.2.2.2.1 - s).toNat) ?_ 0 τ ⟨0, rfl, Nat.zero_le _, by rw [List.take_zero, List.append_nil]; exact hV⟩
      rintro _ ρ ⟨i, rfl, hi, hR⟩ K8 hK8
      have hlen := hidl (segs (el.take e) ++ (seg x).take i) (by have := hsl e he; rw [List.length_append, List.length_take, seg_len]; omega)
      obtain ⟨r1, r2, r3, r4, r5, r6⟩ := id hR
      rw [show Int.toNat (e : Int) = e from rfl, r1.2.1 131 (by omega), r1.2.1 130 (by omega), r1.2.1 135 (by omega), r1.2.1 118 (by omega), r1.2.1 134 (by omega), x131, x130]
      refine ⟨⟨by omega, by omega⟩, ?_⟩
      by_cases ci : i < x.2.2.2.1
      · rw [if_pos (by omega), show Int.toNat ((x.2.2.1 : Int) + (i : Int)) = x.2.2.1 + i by omega]
        have hka : x.2.2.1 + i < at_.length := by omega
        obtain ⟨-, y134, y135⟩ := hB.2 (x.2.2.1 + i) hka
        have hmem : at_.getD (x.2.2.1 + i) atD ∈ at_ := by
          rw [List.getD_eq_getElem?_getD, List.getElem?_eq_getElem hka]
          exact List.getElem_mem hka
        obtain ⟨vw, y1, y2, y3⟩ := y134
        refine ⟨⟨by omega, by omega⟩, ⟨by omega, by omega⟩, ⟨by omega, by omega⟩, ?_⟩
        -- the next one
        have hnext : ∀ ρ', VI σ ad at_ v (idt ad at_ (ids ad at_ (segs (el.take e) ++ (seg x).take i)) (x.2.2.1 + i, decide (x.2.2.2.2.1 ≤ i))) (idt ad at_ (ids ad at_ (segs (el.take e) ++ (seg x).take i)) (x.2.2.1 + i, decide (x.2.2.2.2.1 ≤ i))).2.2 ρ' → inR ((i : Int) + 1) ∧ K8 ((i : Int) + 1) ρ' := fun ρ' h' => by
          refine ⟨⟨by omega, by omega⟩, hK8 _ _ ⟨i + 1, rfl, by omega, ?_⟩ (by omega)⟩
          rw [seg_take ci, ← List.append_assoc, ids_s]
          exact h'
        generalize ids ad at_ (segs (el.take e) ++ (seg x).take i) = q at *
        cases hd : (at_.getD (x.2.2.1 + i) atD).2.2 with
        | none =>
          have e135 : σ.2 135 (x.2.2.1 + i) = -1 := by rw [hd] at y135; have y' : σ.2 135 (x.2.2.1 + i) + 1 = 0 := y135; omega
          rw [e135]
          refine WJ_dir ⟨fun y => absurd rfl y, ?_⟩
          rw [if_neg (fun y => y.1 rfl)]
          refine WJ_dir ⟨fun y => absurd rfl y, ?_⟩
          rw [if_neg (fun y => y.1 rfl)]
          refine hnext ρ ?_
          unfold idt
          rw [hd]
          exact hR
        | some d =>
          have hdl := hD _ hmem d hd
          have e135 : σ.2 135 (x.2.2.1 + i) = (d : Int) := by rw [hd] at y135; have y' : σ.2 135 (x.2.2.1 + i) + 1 = (d : Int) + 1 := y135; omega
          rw [e135, show Int.toNat (d : Int) = d from rfl, hT d hdl, y1, show Int.toNat (vw : Int) = vw from rfl, show Int.toNat 11 = 11 from rfl]
          generalize hq' : idt ad at_ q (x.2.2.1 + i, decide (x.2.2.2.2.1 ≤ i)) = q' at *
          have q1 : q'.1 = if (ad.getD d adD).2.2.1 = 1 then wst σ vw :: q.1 else q.1 := by rw [← hq', y3]; unfold idt; rw [hd]
          have q2 : q'.2.1 = if (ad.getD d adD).2.2.1 = 1 ∧ wst σ vw ∈ q.1 then q.2.1 + 1 else q.2.1 := by rw [← hq', y3]; unfold idt; rw [hd]
          have q3 : ∀ j, q'.2.2 j = if x.2.2.2.2.1 ≤ i ∧ j = d then q.2.2 j + 1 else q.2.2 j := fun j => by
            rw [← hq']; unfold idt; rw [hd]
            dsimp only
            by_cases y : x.2.2.2.2.1 ≤ i ∧ j = d
            · rw [if_pos y, if_pos ⟨decide_eq_true y.1, y.2⟩]
            · rw [if_neg y, if_neg (fun z => y ⟨of_decide_eq_true z.1, z.2⟩)]
          refine WJ_of (fun (_ : Unit) ρ' => VI σ ad at_ v q' q.2.2 ρ') (fun J hJ => ⟨fun _ => ⟨by omega, by omega⟩, ?_⟩) ?_
          · have e11 : ρ.2 149 11 = σ.2 149 11 + (q.2.1 : Int) := r4 11
            have hq2 := hlen.1
            by_cases c1 : (ad.getD d adD).2.2.1 = 1
            · rw [if_pos ⟨by omega, by omega⟩, r3]
              have em : (if ρ.2 155 vw = v then (1 : Int) else 0) = if wst σ vw ∈ q.1 then (1 : Int) else 0 := by
                by_cases y : wst σ vw ∈ q.1
                · rw [if_pos y, if_pos ((r5 vw y2).mpr y)]
                · rw [if_neg y, if_neg (fun z => y ((r5 vw y2).mp z))]
              rw [em, e11]
              have er : 0 ≤ (if wst σ vw ∈ q.1 then (1 : Int) else 0) ∧ (if wst σ vw ∈ q.1 then (1 : Int) else 0) ≤ 1 := by split <;> omega
              have e2 : (q'.2.1 : Int) = (q.2.1 : Int) + (if wst σ vw ∈ q.1 then (1 : Int) else 0) := by
                rw [q2]
                by_cases y : wst σ vw ∈ q.1
                · rw [if_pos ⟨c1, y⟩, if_pos y]; rfl
                · rw [if_neg (fun z => y z.2), if_neg y, Int.add_zero]
              generalize (if wst σ vw ∈ q.1 then (1 : Int) else 0) = y01 at *
              refine ⟨⟨by omega, by omega⟩, ⟨by omega, by omega⟩, ⟨by omega, by omega⟩, ⟨by omega, by omega⟩, ⟨by omega, by omega⟩, ⟨by omega, by omega⟩, hJ () _ ⟨⟨r1.1, fun r y => ?_, r1.2.2.1, fun w' => ?_⟩, r2, r3, fun k => ?_, fun w' hw' => ?_, fun j hj' => ?_⟩⟩
              · rw [← r1.2.1 r y]
                funext j
                rw [pr_2, if_neg (by omega), pr_2, if_neg (by omega)]
              · show (pr (pr ρ 149 11 _) 155 vw v).2 155 w' ≤ ρ.1 1 16
                rw [pr_2]
                by_cases y : w' = vw
                · rw [if_pos ⟨rfl, y⟩, r2]; exact Int.le_refl _
                · rw [if_neg (fun z => y z.2), pr_2, if_neg (by omega)]; exact r1.2.2.2 w'
              · rw [pr_2, if_neg (by omega), pr_2]
                by_cases y : k = 11
                · rw [if_pos ⟨rfl, y⟩, if_pos y, y, e2]; omega
                · rw [if_neg (fun z => y z.2), if_neg y, r4 k, if_neg y]
              · rw [pr_2, q1, if_pos c1]
                by_cases y : w' = vw
                · rw [if_pos ⟨rfl, y⟩, y]
                  exact ⟨fun _ => List.mem_cons_self, fun _ => rfl⟩
                · rw [if_neg (fun z => y z.2), pr_2, if_neg (by omega), r5 w' hw', List.mem_cons]
                  refine ⟨Or.inr, fun z => z.elim (fun z => absurd ?_ y) id⟩
                  exact hS.2.2.2 w' vw (by omega) (by omega) z
              · rw [pr_2, if_neg (by omega), pr_2, if_neg (by omega)]
                exact r6 j hj'
            · rw [if_neg (by omega)]
              refine hJ () ρ ⟨r1, r2, r3, fun k => ?_, fun w' hw' => ?_, r6⟩
              · have e2 : q'.2.1 = q.2.1 := by rw [q2, if_neg (fun z => c1 z.1)]
                rw [r4 k, e2]
              · rw [q1, if_neg c1]; exact r5 w' hw'
          · rintro _ ρ' ⟨t1, t2, t3, t4, t5, t6⟩
            refine WJ_dir ⟨fun _ => ⟨by omega, by omega⟩, ?_⟩
            rw [t1.2.1 132 (by omega), x132, t6 d hdl]
            have hq3 := hlen.2 d
            by_cases cg : x.2.2.2.2.1 ≤ i
            · rw [if_pos ⟨by omega, by omega⟩]
              refine ⟨⟨by omega, by omega⟩, ⟨by omega, by omega⟩, ⟨by omega, by omega⟩, hnext _ ⟨⟨t1.1, fun r y => ?_, t1.2.2.1, fun w' => ?_⟩, t2, t3, fun k => ?_, fun w' hw' => ?_, fun j hj' => ?_⟩⟩
              · rw [← t1.2.1 r y]
                funext j
                rw [pr_2, if_neg (by omega)]
              · show (pr ρ' 154 d _).2 155 w' ≤ ρ'.1 1 16
                rw [pr_2, if_neg (by omega)]; exact t1.2.2.2 w'
              · rw [pr_2, if_neg (by omega)]; exact t4 k
              · rw [pr_2, if_neg (by omega)]; exact t5 w' hw'
              · rw [pr_2, q3]
                by_cases y : j = d
                · rw [if_pos ⟨rfl, y⟩, if_pos ⟨cg, y⟩, y]; rfl
                · rw [if_neg (fun z => y z.2), if_neg (fun z => y z.2)]; exact t6 j hj'
            · rw [if_neg (by omega)]
              refine hnext ρ' ⟨t1, t2, t3, t4, t5, fun j hj' => ?_⟩
              rw [q3, if_neg (fun z => cg z.1)]
              exact t6 j hj'
      · rw [if_neg (by omega)]
        refine ⟨⟨by omega, by omega⟩, hK _ _ ⟨e + 1, rfl, by omega, ?_⟩ (by omega)⟩
        have : (seg x).take i = seg x := List.take_of_length_le (by rw [seg_len]; omega)
        rw [segs_take c, hx, ← this]
        exact hR
    · rw [if_neg (by omega)]
      have ee : e = el.length := by omega
      rw [ee, List.take_length] at hV
      exact hq τ hV
  · have e0 : ids ad at_ (segs (el.take 0)) = ([], 0, fun _ => 0) := by rw [List.take_zero]; rfl
    rw [e0]
    refine ⟨⟨fun o k y1 y2 => ?_, fun r y => ?_, ?_, fun w => ?_⟩, ?_, ?_, fun k => ?_, fun w hw => ?_, fun d hd => ?_⟩
    · rw [fl_1, pf_1, if_neg y2, pf_1, if_neg y1]
    · funext j
      rw [fl_2, if_neg (by omega)]
      rfl
    · rw [fl_1, pf_no (by decide), pf_eq]; omega
    · rw [fl_1, pf_no (by decide), pf_eq, fl_2, if_neg (by omega)]
      have := hm w
      show σ.2 155 w ≤ v
      omega
    · rw [fl_1, pf_no (by decide), pf_eq]
    · rw [fl_1, pf_eq]
    · rw [fl_2, if_neg (by omega)]
      show σ.2 149 k = σ.2 149 k + (if k = 11 then ((0 : Nat) : Int) else 0)
      split <;> simp
    · rw [fl_2, if_neg (by omega)]
      have := hm w
      show σ.2 155 w = v ↔ _
      exact ⟨fun z => by omega, fun z => by cases z⟩
    · rw [fl_2, if_pos ⟨rfl, Nat.zero_le _, hd⟩]; rfl
end VIs
