/-! ===== the validator: references (12 and 21) ===== -/
/-- only counts and what Store.find leaves have changed -/
def VY (σ σ' : IS) (g : Nat → Nat) : Prop := (∀ o k, ¬ (o = 1 ∧ k = 13) → σ'.1 o k = σ.1 o k) ∧ (∀ r, r ≠ 149 → σ'.2 r = σ.2 r) ∧ ∀ k, σ'.2 149 k = σ.2 149 k + (g k : Int)
section VYs
variable {L : Nat → Nat} {σ ρ ρ' : IS} {g : Nat → Nat} {Q : IS → Prop}
theorem VY.si (h : VY σ ρ g) (hS : SI L σ) : SI L ρ := (SI_of hS (σ' := ρ) (h.1 1 14 (by omega)) (by rw [h.1 1 3 (by omega)]; have := hS.1; omega) (fun r y1 y2 => h.2.1 r (by omega)) (fun i _ => by rw [h.2.1 101 (by decide)])).1
theorem VY.jwE (h : VY σ ρ g) : jw ρ = jw σ := by unfold jw; rw [h.1 1 14 (by omega)]
theorem VY.wstE (h : VY σ ρ g) (w : Nat) : wst ρ w = wst σ w := by
  unfold wst wfr wsz
  rw [h.2.1 101 (by decide), h.2.1 102 (by decide), h.2.1 103 (by decide)]
theorem VY.step {k0 x : Nat} (h : VY σ ρ g) (h2 : VXc ρ ρ' k0 (x : Int)) : VY σ ρ' (fun k => g k + if k = k0 then x else 0) := ⟨fun o k y => (h2.1 o k y).trans (h.1 o k y), fun r y => (h2.2.1 r y).trans (h.2.1 r y), fun k => by
  rw [h2.2.2 k, h.2.2 k]
  dsimp only
  split <;> omega⟩
theorem cw_step {w ty tm : Nat} {seen : List Str} (hS : SI L σ) (hl : SL L) (hw : w < jw σ) (hse : ∀ v, v < jw σ → (σ.2 155 v = σ.1 8 13 ↔ wst σ v ∈ seen)) (hkn : ∀ s ∈ seen, ∃ v, v < jw σ ∧ wst σ v = s) (h149 : L 149 = 23) (hV : VY σ ρ g) (hnn : ∀ k, 0 ≤ σ.2 149 k) (hb : ∀ k, σ.2 149 k + ((g k + tm * wrt seen k ty (wst σ w) : Nat) : Int) ≤ 2000000000) (hQ : ∀ ρ', VY σ ρ' (fun k => g k + tm * wrt seen k ty (wst σ w)) → Q ρ') : w_Validator_countWords L (w : Int) ((ty : Int) + 10) (tm : Int) Q ρ := by
  have ew : ∀ v, wst ρ v = wst σ v := hV.wstE
  have ej : jw ρ = jw σ := hV.jwE
  have e155 : ρ.2 155 = σ.2 155 := hV.2.1 155 (by decide)
  have e813 : ρ.1 8 13 = σ.1 8 13 := hV.1 8 13 (by omega)
  have ek := hV.2.2 (kw ty)
  have hk := hb (kw ty)
  have hn := hnn (kw ty)
  refine sp_Validator_countWords (seen := seen) (hV.si hS) hl (by rw [ej]; exact hw) (fun v hv => by rw [e155, e813, ew]; exact hse v (by rw [← ej]; exact hv)) (fun s hs => by obtain ⟨v, h1, h2⟩ := hkn s hs; exact ⟨v, by rw [ej]; exact h1, by rw [ew]; exact h2⟩) h149 (by rw [ek]; omega) (fun c => ?_) (fun c => ?_) (fun c ρ' h' => ?_)
  · have e : wrt seen (kw ty) ty (wst σ w) = pct (cfw seen ty) [] (wst σ w) := by unfold wrt; rw [if_pos ⟨c, rfl⟩]
    rw [e, Int.natCast_add] at hk
    rw [ek, ew]
    omega
  · have : (fun k => g k + tm * wrt seen k ty (wst σ w)) = g := funext (fun k => by
      have e : wrt seen k ty (wst σ w) = 0 := by unfold wrt; rw [if_neg (fun z => c z.1)]
      rw [e, Nat.mul_zero, Nat.add_zero])
    exact hQ ρ (by rw [this]; exact hV)
  · refine hQ ρ' ?_
    have : (fun k => g k + tm * wrt seen k ty (wst σ w)) = (fun k => g k + if k = kw ty then tm * pct (cfw seen ty) [] (wst ρ w) else 0) := funext (fun k => by
      rw [ew]
      unfold wrt
      by_cases z : k = kw ty
      · rw [if_pos z, if_pos ⟨c, z.symm⟩]
      · rw [if_neg z, if_neg (fun q => z q.2.symm), Nat.mul_zero])
    rw [this]
    exact hV.step h'
end VYs
section VRf
variable {L : Nat → Nat} {σ : IS} {el : List Elm} {at_ : List Att} {ad : List ADc} {Q : IS → Prop}
set_option maxHeartbeats 1000000 in
theorem sp_Validator_countReferences {seen : List Str} {p : Nat → Nat} (hS : SI L σ) (hl : SL L) (h62 : σ.1 6 2 = (el.length : Int)) (h412 : σ.1 4 12 = (ad.length : Int)) (hE : ∀ e, e < el.length → σ.2 130 e = ((el.getD e elD).2.2.1 : Int) ∧ σ.2 132 e = ((el.getD e elD).2.2.2.2.1 : Int)) (hB : JAt σ at_) (hC : ∀ x ∈ el, x.2.2.1 + x.2.2.2.1 ≤ at_.length ∧ x.2.2.2.2.1 ≤ x.2.2.2.1) (hD : ∀ x ∈ at_, ∀ d, x.2.2 = some d → d < ad.length) (hT : ∀ d, d < ad.length → σ.2 118 d = ((ad.getD d adD).2.2.1 : Int) + 10) (hv : ∀ d, d < ad.length → 0 < p d → Jn σ (σ.2 120 d) (ad.getD d adD).2.2.2.2.1) (hp : ∀ d, d < ad.length → σ.2 154 d = (p d : Int)) (hLe : el.length ≤ L 130 ∧ el.length ≤ L 132) (hLa : at_.length ≤ L 134 ∧ at_.length ≤ L 135) (hLd : ad.length ≤ L 118 ∧ ad.length ≤ L 120 ∧ ad.length ≤ L 154) (h149 : L 149 = 23) (hbd : el.length < 1000000 ∧ at_.length < 1000000 ∧ ad.length < 1000000) (hse : ∀ v, v < jw σ → (σ.2 155 v = σ.1 8 13 ↔ wst σ v ∈ seen)) (hkn : ∀ s ∈ seen, ∃ v, v < jw σ ∧ wst σ v = s) (hnn : ∀ k, 0 ≤ σ.2 149 k) (htot : ∀ k, σ.2 149 k + ((gsm (wrd ad at_ seen k) (segs el) + sn (fun d => p d * wrv ad seen k d) ad.length : Nat) : Int) ≤ 2000000000)
    (hq : ∀ σ', VY σ σ' (fun k => gsm (wrd ad at_ seen k) (segs el) + sn (fun d => p d * wrv ad seen k d) ad.length) → Q σ') : w_Validator_countReferences L Q σ := by
  have hpre : ∀ e, e < el.length → (el.getD e elD) ∈ el := fun e he => by
    rw [List.getD_eq_getElem?_getD, List.getElem?_eq_getElem he]
    exact List.getElem_mem he
  unfold w_Validator_countReferences
  refine WL_ind (fun s τ => ∃ e : Nat, s = (e : Int) ∧ e ≤ el.length ∧ VY σ τ (fun k => gsm (wrd ad at_ seen k) (segs (el.take e)))) (fun s _ => (el.length - s).toNat) ?_ 0 σ ⟨0, rfl, Nat.zero_le _, fun _ _ _ => rfl, fun _ _ => rfl, fun k => by show _ = _ + (0 : Int); omega⟩
  rintro _ τ ⟨e, rfl, he, hV⟩ K hK
  rw [hV.1 6 2 (by omega), h62]
  by_cases c : e < el.length
  · rw [if_pos (by omega)]
    obtain ⟨x130, x132⟩ := hE e c
    have hCe := hC _ (hpre e c)
    generalize hx : el.getD e elD = x at *
    refine WL_ind (fun s ρ => ∃ i : Nat, s = (i : Int) ∧ i ≤ x.2.2.2.2.1 ∧ VY σ ρ (fun k => gsm (wrd ad at_ seen k) (segs (el.take e) ++ (seg x).take i))) (fun s _ => (x.2.2.2.2.1 - s).toNat) ?_ 0 τ ⟨0, rfl, Nat.zero_le _, by simp only [List.take_zero, List.append_nil]; exact hV⟩
    rintro _ ρ ⟨i, rfl, hi, hR⟩ K8 hK8
    rw [show Int.toNat (e : Int) = e from rfl, hR.2.1 132 (by decide), hR.2.1 130 (by decide), hR.2.1 135 (by decide), hR.2.1 134 (by decide), hR.2.1 118 (by decide), x132, x130]
    refine ⟨⟨by omega, by omega⟩, ?_⟩
    by_cases ci : i < x.2.2.2.2.1
    · rw [if_pos (by omega), show Int.toNat ((x.2.2.1 : Int) + (i : Int)) = x.2.2.1 + i by omega]
      have hka : x.2.2.1 + i < at_.length := by omega
      obtain ⟨-, y134, y135⟩ := hB.2 (x.2.2.1 + i) hka
      have hmem : at_.getD (x.2.2.1 + i) atD ∈ at_ := by
        rw [List.getD_eq_getElem?_getD, List.getElem?_eq_getElem hka]
        exact List.getElem_mem hka
      obtain ⟨vw, y1, y2, y3⟩ := y134
      have hstep : ∀ k, gsm (wrd ad at_ seen k) (segs (el.take e) ++ (seg x).take (i + 1)) = gsm (wrd ad at_ seen k) (segs (el.take e) ++ (seg x).take i) + wrd ad at_ seen k (x.2.2.1 + i) := fun k => by
        rw [seg_take (by omega), ← List.append_assoc, gsm_app (l' := [_]), decide_eq_false (by omega), gsm_f]
      refine ⟨⟨by omega, by omega⟩, ⟨by omega, by omega⟩, ⟨by omega, by omega⟩, ?_⟩
      have hnext : ∀ ρ', VY σ ρ' (fun k => gsm (wrd ad at_ seen k) (segs (el.take e) ++ (seg x).take i) + wrd ad at_ seen k (x.2.2.1 + i)) → inR ((i : Int) + 1) ∧ K8 ((i : Int) + 1) ρ' := fun ρ' h' => by
        refine ⟨⟨by omega, by omega⟩, hK8 _ _ ⟨i + 1, rfl, by omega, ?_⟩ (by omega)⟩
        simp only [hstep]
        exact h'
      have hbk : ∀ k, gsm (wrd ad at_ seen k) (segs (el.take e) ++ (seg x).take i) + wrd ad at_ seen k (x.2.2.1 + i) ≤ gsm (wrd ad at_ seen k) (segs el) := fun k => by
        rw [← hstep]
        refine gsm_pre (List.IsPrefix.trans ?_ (segs_pre (e := e + 1)))
        rw [segs_take c, hx]
        exact (List.prefix_append_right_inj _).mpr (List.take_prefix _ _)
      refine WJ_dir ?_
      cases hd : (at_.getD (x.2.2.1 + i) atD).2.2 with
      | none =>
        have e135 : σ.2 135 (x.2.2.1 + i) = -1 := by rw [hd] at y135; have y' : σ.2 135 (x.2.2.1 + i) + 1 = 0 := y135; omega
        rw [e135, if_pos rfl]
        refine hnext ρ ?_
        have w0 : ∀ k, wrd ad at_ seen k (x.2.2.1 + i) = 0 := fun k => by unfold wrd; rw [hd]
        simp only [w0, Nat.add_zero]
        exact hR
      | some d =>
        have hdl := hD _ hmem d hd
        have e135 : σ.2 135 (x.2.2.1 + i) = (d : Int) := by rw [hd] at y135; have y' : σ.2 135 (x.2.2.1 + i) + 1 = (d : Int) + 1 := y135; omega
        rw [e135, if_neg (by omega), show Int.toNat (d : Int) = d from rfl, hT d hdl, y1]
        refine ⟨⟨by omega, by omega⟩, ⟨by omega, by omega⟩, ?_⟩
        have ew : ∀ k, wrd ad at_ seen k (x.2.2.1 + i) = 1 * wrt seen k (ad.getD d adD).2.2.1 (wst σ vw) := fun k => by unfold wrd; rw [hd, y3, Nat.one_mul]
        refine cw_step (tm := 1) hS hl y2 hse hkn h149 hR hnn (fun k => ?_) (fun ρ' h' => hnext ρ' ?_)
        · have h1 := hbk k
          have h2 := htot k
          rw [← ew]
          omega
        · simp only [ew]
          exact h'
    · rw [if_neg (by omega)]
      refine ⟨⟨by omega, by omega⟩, hK _ _ ⟨e + 1, rfl, by omega, ?_⟩ (by omega)⟩
      have hfn : (fun k => gsm (wrd ad at_ seen k) (segs (el.take (e + 1)))) = fun k => gsm (wrd ad at_ seen k) (segs (el.take e) ++ (seg x).take i) := funext (fun k => by
        have ei : i = x.2.2.2.2.1 := by omega
        have hs := gsm_seg (f := wrd ad at_ seen k) (x := x) x.2.2.2.1 hCe.2 (Nat.le_refl _)
        rw [List.take_of_length_le (by rw [seg_len]; exact Nat.le_refl _)] at hs
        rw [segs_take c, hx, gsm_app, gsm_app, hs, ei])
      rw [hfn]
      exact hR
  · rw [if_neg (by omega)]
    have ee : e = el.length := by omega
    rw [ee, List.take_length] at hV
    refine WL_ind (fun s ρ => ∃ d : Nat, s = (d : Int) ∧ d ≤ ad.length ∧ VY σ ρ (fun k => gsm (wrd ad at_ seen k) (segs el) + sn (fun d => p d * wrv ad seen k d) d)) (fun s _ => (ad.length - s).toNat) ?_ 0 τ ⟨0, rfl, Nat.zero_le _, hV⟩
    rintro _ ρ ⟨d, rfl, hd, hR⟩ K6 hK6
    rw [hR.1 4 12 (by omega), h412]
    by_cases cd : d < ad.length
    · rw [if_pos (by omega), show Int.toNat (d : Int) = d from rfl, hR.2.1 154 (by decide), hR.2.1 120 (by decide), hR.2.1 118 (by decide), hp d cd, hT d cd]
      have hnext : ∀ ρ', VY σ ρ' (fun k => (gsm (wrd ad at_ seen k) (segs el) + sn (fun d => p d * wrv ad seen k d) d) + p d * wrv ad seen k d) → inR ((d : Int) + 1) ∧ K6 ((d : Int) + 1) ρ' := fun ρ' h' => by
        refine ⟨⟨by omega, by omega⟩, hK6 _ _ ⟨d + 1, rfl, by omega, ?_⟩ (by omega)⟩
        simp only [Nat.add_assoc] at h'
        exact h'
      refine ⟨⟨by omega, by omega⟩, WJ_dir ?_⟩
      by_cases cp : 0 < p d
      · rw [if_pos (by omega)]
        obtain ⟨vw, y1, y2, y3⟩ := hv d cd cp
        rw [y1]
        refine ⟨⟨by omega, by omega⟩, ⟨by omega, by omega⟩, ⟨by omega, by omega⟩, cw_step hS hl y2 hse hkn h149 hR hnn (fun k => ?_) (fun ρ' h' => hnext ρ' ?_)⟩
        · have h1 := htot k
          have h2 := sn_mono (f := fun d => p d * wrv ad seen k d) (show d + 1 ≤ ad.length by omega)
          rw [sn_s] at h2
          rw [y3]
          have h3 : p d * wrt seen k (ad.getD d adD).2.2.1 (ad.getD d adD).2.2.2.2.1 = p d * wrv ad seen k d := rfl
          rw [h3]
          omega
        · rw [y3] at h'
          exact h'
      · rw [if_neg (by omega)]
        refine hnext ρ ?_
        have p0 : p d = 0 := by omega
        have hz : ∀ k, p d * wrv ad seen k d = 0 := fun k => by rw [p0, Nat.zero_mul]
        simp only [hz, Nat.add_zero]
        exact hR
    · rw [if_neg (by omega)]
      have ed : d = ad.length := by omega
      rw [ed] at hR
      exact hq ρ hR
end VRf
