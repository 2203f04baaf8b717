/-! ===== the validator: tags (7 to 10) ===== -/
/-- what an attribute that was given adds to the count k -/
def tga (ad : List ADc) (at_ : List Att) (k a : Nat) : Nat := match (at_.getD a atD).2.2 with
  | none => if k = 7 then 1 else 0
  | some d => if k = 8 then (if asW (ad.getD d adD).2.2.1 (ad.getD d adD).2.2.2.2.2 (at_.getD a atD).2.1 = false then 1 else 0) else if k = 10 then (if (ad.getD d adD).2.2.2.1 = 3 ∧ (ad.getD d adD).2.2.2.2.1 ≠ (at_.getD a atD).2.1 then 1 else 0) else 0
/-- the names that were given -/
def gnm (at_ : List Att) (x : Elm) (i : Nat) : List Str := (List.range i).map (fun j => (at_.getD (x.2.2.1 + j) atD).1)
def wnt (ad : List ADc) (at_ : List Att) (x : Elm) (d : Nat) : Nat := if (ad.getD d adD).2.2.2.1 = 1 ∧ ¬ (ad.getD d adD).2.1 ∈ gnm at_ x x.2.2.2.2.1 then 1 else 0
/-- those that were wanted in a tag -/
def ce9 (ad : List ADc) (at_ : List Att) (x : Elm) : Nat := sm (fun d => (ad.getD d adD).1 == x.1) (wnt ad at_ x) ad.length
/-- counts 7 to 10 -/
def cnT (ad : List ADc) (at_ : List Att) (el : List Elm) (k : Nat) : Nat := gsm (tga ad at_ k) (segs el) + if k = 9 then (el.map (ce9 ad at_)).sum else 0
section Tgs
variable {ad : List ADc} {at_ : List Att} {x : Elm}
theorem tga_le (k a : Nat) : tga ad at_ k a ≤ 1 := by
  unfold tga
  repeat' split
  all_goals omega
theorem wnt_le (d : Nat) : wnt ad at_ x d ≤ 1 := by
  unfold wnt
  split <;> omega
theorem ce9_le : ce9 ad at_ x ≤ ad.length := by
  have := sm_le (P := fun d => (ad.getD d adD).1 == x.1) (f := wnt ad at_ x) (m := 1) wnt_le ad.length
  unfold ce9
  omega
theorem gnm_s {i : Nat} {s : Str} : s ∈ gnm at_ x (i + 1) ↔ s ∈ gnm at_ x i ∨ s = (at_.getD (x.2.2.1 + i) atD).1 := by
  unfold gnm
  rw [List.range_succ, List.map_append, List.mem_append, List.map_singleton, List.mem_singleton]
theorem gsm_len {f : Nat → Nat} (hf : ∀ a, f a ≤ 1) : ∀ l : List (Nat × Bool), gsm f l ≤ l.length := by
  intro l
  induction l with
  | nil => exact Nat.le_refl _
  | cons z l ih =>
    rw [gsm_c, List.length_cons]
    have := hf z.1
    split <;> omega
theorem sum_take_le {m : Nat} {f : Elm → Nat} (hf : ∀ y, f y ≤ m) : ∀ l : List Elm, (l.map f).sum ≤ l.length * m := by
  intro l
  induction l with
  | nil => exact Nat.zero_le _
  | cons y l ih =>
    have := hf y
    rw [List.map_cons, List.sum_cons, List.length_cons, Nat.succ_mul]
    omega
theorem take_map_s {f : Elm → Nat} {el : List Elm} {e : Nat} (h : e < el.length) : ((el.take (e + 1)).map f).sum = ((el.take e).map f).sum + f (el.getD e elD) := by
  rw [List.take_succ, List.getElem?_eq_getElem h, List.getD_eq_getElem?_getD, List.getElem?_eq_getElem h, List.map_append, List.sum_append]
  simp
theorem jhw_1 {h : Nat} : jhw h = 1 ↔ h = 1 := by
  unfold jhw
  repeat' split
  all_goals omega
theorem jhw_3 {h : Nat} : jhw h = 2 ↔ h = 3 := by
  unfold jhw
  repeat' split
  all_goals omega
end Tgs
section VTg
variable {L : Nat → Nat} {σ : IS} {el : List Elm} {at_ : List Att} {ad : List ADc} {Q : IS → Prop}
set_option maxHeartbeats 2000000 in
theorem sp_Validator_countTags (hS : SI L σ) (hl : SL L) (h62 : σ.1 6 2 = (el.length : Int)) (hE : ∀ e, e < el.length → Jn σ (σ.2 146 e) (el.getD e elD).1 ∧ σ.2 130 e = ((el.getD e elD).2.2.1 : Int) ∧ σ.2 132 e = ((el.getD e elD).2.2.2.2.1 : Int)) (hB : JAt σ at_) (hC : ∀ x ∈ el, x.2.2.1 + x.2.2.2.1 ≤ at_.length ∧ x.2.2.2.2.1 ≤ x.2.2.2.1) (hD : ∀ x ∈ at_, ∀ d, x.2.2 = some d → d < ad.length) (hA : JAd L σ ad) (hLe : el.length ≤ L 146 ∧ el.length ≤ L 130 ∧ el.length ≤ L 132) (hLa : at_.length ≤ L 134 ∧ at_.length ≤ L 135 ∧ at_.length ≤ L 161) (hLd : (∀ r, 118 ≤ r → r ≤ 123 → ad.length ≤ L r) ∧ ad.length ≤ L 148 ∧ L 126 = L 102 ∧ L 149 = 23 ∧ L 124 < 1000000 ∧ σ.1 4 16 ≤ (L 124 : Int)) (hbd : el.length * ad.length ≤ 300000000 ∧ (segs el).length ≤ 1000000 ∧ el.length < 1000000 ∧ at_.length < 1000000 ∧ ad.length < 1000000) (hc : ∀ k, 7 ≤ k → k ≤ 10 → 0 ≤ σ.2 149 k ∧ σ.2 149 k ≤ 1000000000) (hs : 0 ≤ σ.1 1 16 ∧ σ.1 1 16 + (el.length : Int) ≤ 2000000000) (hm : ∀ w, σ.2 155 w ≤ σ.1 1 16)
    (hq : ∀ σ', VC σ σ' → σ'.1 1 16 = σ.1 1 16 + (el.length : Int) → (∀ k, σ'.2 149 k = σ.2 149 k + (cnT ad at_ el k : Int)) → Q σ') : w_Validator_countTags L Q σ := by
  have hj := hS.jw_le
  have e155 : L 102 = L 155 := hl.2.2.2.1
  have h102 : L 102 < 1000000 := hl.2.2.2.2.2.2.1
  obtain ⟨a1, a2, a3, a4⟩ := id hA
  obtain ⟨l1, l148, l126, l149, l124, l16⟩ := hLd
  have l118 := l1 118 (by omega) (by omega)
  have l119 := l1 119 (by omega) (by omega)
  have l120 := l1 120 (by omega) (by omega)
  have l121 := l1 121 (by omega) (by omega)
  have l122 := l1 122 (by omega) (by omega)
  have l123 := l1 123 (by omega) (by omega)
  have hpre : ∀ e, e < el.length → (el.getD e elD) ∈ el := fun e he => by
    rw [List.getD_eq_getElem?_getD, List.getElem?_eq_getElem he]
    exact List.getElem_mem he
  unfold w_Validator_countTags w_Store_newMark
  refine WL_ind (fun s τ => ∃ e : Nat, s = (e : Int) ∧ e ≤ el.length ∧ VC σ τ ∧ τ.1 1 16 = σ.1 1 16 + (e : Int) ∧ ∀ k, τ.2 149 k = σ.2 149 k + (cnT ad at_ (el.take e) k : Int)) (fun s _ => (el.length - s).toNat) ?_ 0 σ ⟨0, rfl, Nat.zero_le _, VC.refl hm, by show _ = _ + (0 : Int); omega, fun k => ?_⟩
  · rintro _ τ ⟨e, rfl, he, v1, v2, v3⟩ K hK
    rw [v1.1 6 2 (by omega), h62]
    by_cases c : e < el.length
    · rw [if_pos (by omega)]
      obtain ⟨x146, x130, x132⟩ := hE e c
      have hCe := hC _ (hpre e c)
      have hlk : (segs (el.take (e + 1))).length ≤ 1000000 := Nat.le_trans segs_pre.length_le hbd.2.1
      rw [segs_take c] at hlk
      have hSe := take_map_s (f := ce9 ad at_) c
      have hS9 : ((el.take (e + 1)).map (ce9 ad at_)).sum ≤ 300000000 := by
        have h1 := sum_take_le (f := ce9 ad at_) (m := ad.length) (fun _ => ce9_le) (el.take (e + 1))
        have h2 : (el.take (e + 1)).length * ad.length ≤ el.length * ad.length := Nat.mul_le_mul_right _ (by rw [List.length_take]; omega)
        omega
      rw [hSe] at hS9
      generalize hx : el.getD e elD = x at *
      generalize hS90 : ((el.take e).map (ce9 ad at_)).sum = S9 at *
      rw [v2]
      refine ⟨⟨by omega, by omega⟩, ?_⟩
      generalize hv : σ.1 1 16 + (e : Int) + 1 = v at *
      have hgl : ∀ (k i : Nat), gsm (tga ad at_ k) (segs (el.take e) ++ (seg x).take i) ≤ 1000000 := fun k i => by
        refine Nat.le_trans (gsm_len (tga_le k) _) (Nat.le_trans ?_ hlk)
        rw [List.length_append, List.length_append, List.length_take]
        omega
      refine WL_ind (fun s ρ => ∃ i : Nat, s = (i : Int) ∧ i ≤ x.2.2.2.2.1 ∧ VC σ ρ ∧ ρ.1 1 16 = v ∧ (∀ k, ρ.2 149 k = σ.2 149 k + ((gsm (tga ad at_ k) (segs (el.take e) ++ (seg x).take i) + if k = 9 then S9 else 0 : Nat) : Int)) ∧ ∀ w, w < jw σ → (ρ.2 155 w = v ↔ wst σ w ∈ gnm at_ x i)) (fun s _ => (x.2.2.2.2.1 - s).toNat) ?_ 0 _ ⟨0, rfl, Nat.zero_le _, ⟨fun o k y => by rw [pf_1, if_neg y]; exact v1.1 o k y, v1.2.1, by rw [pf_eq]; omega, fun w => ?_⟩, pf_eq, fun k => ?_, fun w hw => ?_⟩
      · rintro _ ρ ⟨i, rfl, hi, r1, r2, r3, r4⟩ K8 hK8
        rw [show Int.toNat (e : Int) = e from rfl, r1.2.1 132 (by decide) (by decide), r1.2.1 130 (by decide) (by decide), r1.2.1 135 (by decide) (by decide), r1.2.1 134 (by decide) (by decide), r1.2.1 161 (by decide) (by decide), r1.2.1 146 (by decide) (by decide), r1.2.1 126 (by decide) (by decide), x132, x130]
        refine ⟨⟨by omega, by omega⟩, ?_⟩
        by_cases ci : i < x.2.2.2.2.1
        · rw [if_pos (by omega), show Int.toNat ((x.2.2.1 : Int) + (i : Int)) = x.2.2.1 + i by omega]
          have hka : x.2.2.1 + i < at_.length := by omega
          obtain ⟨y161, y134, y135⟩ := hB.2 (x.2.2.1 + i) hka
          have hmem : at_.getD (x.2.2.1 + i) atD ∈ at_ := by
            rw [List.getD_eq_getElem?_getD, List.getElem?_eq_getElem hka]
            exact List.getElem_mem hka
          obtain ⟨vw, y1, y2, y3⟩ := y134
          obtain ⟨lw, u1, u2, u3⟩ := y161
          rw [u1, y1, show Int.toNat (lw : Int) = lw from rfl, show Int.toNat 7 = 7 from rfl, show Int.toNat 8 = 8 from rfl, show Int.toNat 10 = 10 from rfl]
          have hstep : ∀ k, gsm (tga ad at_ k) (segs (el.take e) ++ (seg x).take (i + 1)) = gsm (tga ad at_ k) (segs (el.take e) ++ (seg x).take i) + tga ad at_ k (x.2.2.1 + i) := fun k => by
            rw [seg_take (by omega), ← List.append_assoc, gsm_app (l' := [_]), decide_eq_false (by omega), gsm_f]
          -- the label is marked
          have q1 : VC σ (pr ρ 155 lw v) := ⟨r1.1, fun r z1 z2 => by
            rw [← r1.2.1 r z1 z2]
            funext j
            rw [pr_2, if_neg (fun z => z2 z.1)], r1.2.2.1, fun w => by
            show (pr ρ 155 lw v).2 155 w ≤ ρ.1 1 16
            rw [pr_2]
            by_cases y : w = lw
            · rw [if_pos ⟨rfl, y⟩, r2]; exact Int.le_refl _
            · rw [if_neg (fun z => y z.2)]; exact r1.2.2.2 w⟩
          have q4 : ∀ w, w < jw σ → ((pr ρ 155 lw v).2 155 w = v ↔ wst σ w ∈ gnm at_ x (i + 1)) := fun w hw => by
            rw [pr_2, gnm_s, ← u3]
            by_cases y : w = lw
            · rw [if_pos ⟨rfl, y⟩, y]
              exact ⟨fun _ => Or.inr rfl, fun _ => rfl⟩
            · rw [if_neg (fun z => y z.2), r4 w hw]
              refine ⟨Or.inl, fun z => z.elim id (fun z => absurd ?_ y)⟩
              exact hS.2.2.2 w lw (by omega) (by omega) z
          have q3 : ∀ k, (pr ρ 155 lw v).2 149 k = ρ.2 149 k := fun k => by rw [pr_2, if_neg (by omega)]
          generalize hρ1 : pr ρ 155 lw v = ρ1 at *
          have q2 : ρ1.1 1 16 = v := by rw [← hρ1]; exact r2
          have hnext : ∀ ρ', VC σ ρ' → ρ'.1 1 16 = v → ρ'.2 155 = ρ1.2 155 → (∀ k, ρ'.2 149 k = ρ.2 149 k + (tga ad at_ k (x.2.2.1 + i) : Int)) → inR ((i : Int) + 1) ∧ K8 ((i : Int) + 1) ρ' := fun ρ' h1 h2 h3 h4 => by
            refine ⟨⟨by omega, by omega⟩, hK8 _ _ ⟨i + 1, rfl, by omega, h1, h2, fun k => ?_, fun w hw => by rw [h3]; exact q4 w hw⟩ (by omega)⟩
            rw [h4 k, r3 k, hstep]
            omega
          have hb : ∀ k, 7 ≤ k → k ≤ 10 → 0 ≤ ρ.2 149 k ∧ ρ.2 149 k ≤ 1400000000 := fun k z1 z2 => by
            rw [r3 k]
            have z3 := hc k z1 z2
            have z4 := hgl k i
            split <;> omega
          have hb7 := hb 7 (by omega) (by omega)
          have hb8 := hb 8 (by omega) (by omega)
          have hb10 := hb 10 (by omega) (by omega)
          refine ⟨⟨by omega, by omega⟩, ⟨by omega, by omega⟩, ⟨by omega, by omega⟩, ⟨by omega, by omega⟩, ⟨by omega, by omega⟩, ⟨by omega, by omega⟩, WJ_dir ?_⟩
          cases hd : (at_.getD (x.2.2.1 + i) atD).2.2 with
          | none =>
            have e135 : σ.2 135 (x.2.2.1 + i) = -1 := by rw [hd] at y135; have y' : σ.2 135 (x.2.2.1 + i) + 1 = 0 := y135; omega
            rw [e135, if_pos rfl]
            refine ⟨⟨by omega, by omega⟩, ⟨by omega, by omega⟩, ⟨by omega, by omega⟩, hnext _ q1.prE q2 ?_ (fun k => ?_)⟩
            · funext j
              rw [pr_2, if_neg (by omega)]
            · have w0 : tga ad at_ k (x.2.2.1 + i) = if k = 7 then 1 else 0 := by unfold tga; rw [hd]
              rw [w0, pr_2]
              by_cases z : k = 7
              · rw [if_pos ⟨rfl, z⟩, if_pos z, z]; rfl
              · rw [if_neg (fun q => z q.2), if_neg z, q3 k]; simp
          | some d =>
            have hdl := hD _ hmem d hd
            have e135 : σ.2 135 (x.2.2.1 + i) = (d : Int) := by rw [hd] at y135; have y' : σ.2 135 (x.2.2.1 + i) + 1 = (d : Int) + 1 := y135; omega
            obtain ⟨x148, x118, x119, x120, x122, ⟨b, x121, xb, xl⟩, x123⟩ := a2 d hdl
            have xb' : (b : Int) + ((ad.getD d adD).2.2.2.2.2.length : Int) ≤ σ.1 4 16 := xb
            rw [e135, if_neg (by omega), show Int.toNat (d : Int) = d from rfl]
            refine ⟨⟨by omega, by omega⟩, sp_Validator_isAsWanted (lst := (ad.getD d adD).2.2.2.2.2) (q1.si hS) hl (by rw [q1.jwE]; exact y2) ⟨by omega, by omega, by omega⟩ (by rw [q1.2.1 118 (by decide) (by decide)]; exact x118) (by rw [q1.2.1 121 (by decide) (by decide)]; exact x121) (by rw [q1.2.1 122 (by decide) (by decide)]; exact x122) (by omega) l124 (fun k hk => by rw [q1.2.1 124 (by decide) (by decide)]; exact q1.jn (xl k hk)) ?_⟩
            rw [q1.wstE, y3, q1.2.1 119 (by decide) (by decide), q1.2.1 120 (by decide) (by decide), x119]
            have t8 : tga ad at_ 8 (x.2.2.1 + i) = if asW (ad.getD d adD).2.2.1 (ad.getD d adD).2.2.2.2.2 (at_.getD (x.2.2.1 + i) atD).2.1 = false then 1 else 0 := by unfold tga; rw [hd]; rfl
            have t10 : tga ad at_ 10 (x.2.2.1 + i) = if (ad.getD d adD).2.2.2.1 = 3 ∧ (ad.getD d adD).2.2.2.2.1 ≠ (at_.getD (x.2.2.1 + i) atD).2.1 then 1 else 0 := by unfold tga; rw [hd]; rfl
            have t0 : ∀ k, k ≠ 8 → k ≠ 10 → tga ad at_ k (x.2.2.1 + i) = 0 := fun k z1 z2 => by unfold tga; rw [hd]; dsimp only; rw [if_neg z1, if_neg z2]
            have e8 : (if b1 (asW (ad.getD d adD).2.2.1 (ad.getD d adD).2.2.2.2.2 (at_.getD (x.2.2.1 + i) atD).2.1) = 0 then (1 : Int) else 0) = (tga ad at_ 8 (x.2.2.1 + i) : Int) := by
              rw [t8]
              cases asW (ad.getD d adD).2.2.1 (ad.getD d adD).2.2.2.2.2 (at_.getD (x.2.2.1 + i) atD).2.1 <;> rfl
            have e10 : (if jhw (ad.getD d adD).2.2.2.1 = 2 then (if σ.2 120 d = (vw : Int) then (0 : Int) else 1) else 0) = (tga ad at_ 10 (x.2.2.1 + i) : Int) := by
              rw [t10]
              by_cases z : (ad.getD d adD).2.2.2.1 = 3
              · rw [if_pos (jhw_3.mpr z)]
                obtain ⟨dv, z1, z2, z3⟩ := x120 (by show 3 ≤ (ad.getD d adD).2.2.2.1; omega)
                rw [z1]
                have z3' : wst σ dv = (ad.getD d adD).2.2.2.2.1 := z3
                by_cases y : dv = vw
                · rw [if_pos (by omega), if_neg (fun q => q.2 (by rw [← z3', ← y3, y]))]; rfl
                · rw [if_neg (by omega), if_pos ⟨z, fun q => y (hS.2.2.2 dv vw (by omega) (by omega) (by rw [z3', y3]; exact q))⟩]; rfl
              · rw [if_neg (fun q => z (jhw_3.mp q)), if_neg (fun q => z q.1)]; rfl
            have u8 := tga_le (ad := ad) (at_ := at_) 8 (x.2.2.1 + i)
            have u10 := tga_le (ad := ad) (at_ := at_) 10 (x.2.2.1 + i)
            have g10 : ∀ y, (pr ρ1 149 8 y).2 149 10 = ρ.2 149 10 := fun y => by rw [pr_2, if_neg (by omega)]; exact q3 10
            rw [e8, e10, g10]
            refine ⟨⟨by omega, by omega⟩, ⟨by omega, by omega⟩, ⟨by omega, by omega⟩, ⟨by omega, by omega⟩, fun _ => ⟨by omega, by omega⟩, ⟨by omega, by omega⟩, ⟨by omega, by omega⟩, hnext _ q1.prE.prE q2 ?_ (fun k => ?_)⟩
            · funext j
              rw [pr_2, if_neg (by omega), pr_2, if_neg (by omega)]
            · rw [pr_2]
              by_cases z : k = 10
              · rw [if_pos ⟨rfl, z⟩, z]
              · rw [if_neg (fun q => z q.2), pr_2]
                by_cases y : k = 8
                · rw [if_pos ⟨rfl, y⟩, y]
                · rw [if_neg (fun q => y q.2), t0 k y z, q3 k]; simp
        · rw [if_neg (by omega)]
          have ei : i = x.2.2.2.2.1 := by omega
          obtain ⟨ew, m1, m2, m3⟩ := x146
          have e126 : σ.2 126 ew = en1 (adE ad (wst σ ew)) := a3.1 ew m2
          rw [m1, show Int.toNat (ew : Int) = ew from rfl, e126, m3, adE_fnd]
          generalize hsn : x.1 = s at *
          have hen : ∀ j, -1 ≤ en1 (fnd ad s j) - 1 ∧ en1 (fnd ad s j) - 1 ≤ 1000000 := fun j => by
            cases hf : fnd ad s j with
            | none => show -1 ≤ (0 : Int) - 1 ∧ (0 : Int) - 1 ≤ 1000000; omega
            | some i => have := (fnd_some hf).2.1; show -1 ≤ (i : Int) + 1 - 1 ∧ (i : Int) + 1 - 1 ≤ 1000000; omega
          refine ⟨⟨by omega, by omega⟩, ⟨by omega, by omega⟩, ⟨by have := hen 0; omega, by have := hen 0; omega⟩, ?_⟩
          have hG : ∀ k, gsm (tga ad at_ k) (segs (el.take (e + 1))) = gsm (tga ad at_ k) (segs (el.take e) ++ (seg x).take i) := fun k => by
            have hs' := gsm_seg (f := tga ad at_ k) (x := x) x.2.2.2.1 hCe.2 (Nat.le_refl _)
            rw [List.take_of_length_le (by rw [seg_len]; exact Nat.le_refl _)] at hs'
            rw [segs_take c, hx, gsm_app, gsm_app, hs', ei]
          have hout : ∀ ρ' : IS, VC σ ρ' → ρ'.1 1 16 = v → (∀ k, ρ'.2 149 k = σ.2 149 k + ((gsm (tga ad at_ k) (segs (el.take e) ++ (seg x).take i) + if k = 9 then S9 + sm (chP ad (fun _ => false) s ad.length) (wnt ad at_ x) ad.length else 0 : Nat) : Int)) → inR ((e : Int) + 1) ∧ K ((e : Int) + 1) ρ' := fun ρ' h1 h2 h3 => by
            refine ⟨⟨by omega, by omega⟩, hK _ _ ⟨e + 1, rfl, by omega, h1, by rw [h2]; omega, fun k => ?_⟩ (by omega)⟩
            have hl' : ce9 ad at_ x = sm (chP ad (fun _ => false) s ad.length) (wnt ad at_ x) ad.length := by
              unfold ce9
              rw [hsn]
              exact ch_last (D' := fun t => t == s) (fun k y1 y2 => by omega) (fun t => by rw [Bool.false_or])
            rw [h3 k]
            unfold cnT
            rw [hG k, hSe, hl']
          refine WL_ind (fun (z : Int × Int) ρ' => ∃ (o : Option Nat) (t : Nat), z = (en1 o - 1, (t : Int)) ∧ t ≤ o.getD ad.length ∧ (∀ i, o = some i → i < ad.length ∧ (ad.getD i adD).1 = s) ∧ VC σ ρ' ∧ ρ'.1 1 16 = v ∧ (∀ w, w < jw σ → (ρ'.2 155 w = v ↔ wst σ w ∈ gnm at_ x i)) ∧ (∀ k, ρ'.2 149 k = σ.2 149 k + ((gsm (tga ad at_ k) (segs (el.take e) ++ (seg x).take i) + if k = 9 then S9 + sm (chP ad (fun _ => false) s (o.getD ad.length)) (wnt ad at_ x) ad.length else 0 : Nat) : Int))) (fun z _ => (ad.length - z.2).toNat) ?_ _ ρ ?_
          · rintro _ ρ' ⟨o, t, rfl, ht, ho, w1, w2, w3, w4⟩ K13 hK13
            dsimp only at hK13 ⊢
            rw [w1.1 4 12 (by omega), a1]
            cases o with
            | none =>
              rw [if_neg (fun z => z.2 rfl)]
              exact hout ρ' w1 w2 w4
            | some d =>
              obtain ⟨hdn, hds⟩ := ho d rfl
              have e1 : en1 (some d) - 1 = (d : Int) := by show (d : Int) + 1 - 1 = d; omega
              have ec : (some d).getD ad.length = d := rfl
              rw [ec] at ht w4
              rw [e1, if_pos ⟨by omega, by omega⟩, show Int.toNat (d : Int) = d from rfl, show Int.toNat 9 = 9 from rfl]
              obtain ⟨⟨dw, z1, z2, z3⟩, x118, x119, x120, x122, -, x123⟩ := a2 d hdn
              rw [w1.2.1 119 (by decide) (by decide), w1.2.1 148 (by decide) (by decide), w1.2.1 123 (by decide) (by decide), x119, z1, show Int.toNat (dw : Int) = dw from rfl]
              have z3' : wst σ dw = (ad.getD d adD).2.1 := z3
              have et : (if jhw (ad.getD d adD).2.2.2.1 = 1 then (if ρ'.2 155 dw = v then (0 : Int) else 1) else 0) = (wnt ad at_ x d : Int) := by
                unfold wnt
                rw [← ei]
                by_cases y : (ad.getD d adD).2.2.2.1 = 1
                · rw [if_pos (jhw_1.mpr y)]
                  by_cases y2 : (ad.getD d adD).2.1 ∈ gnm at_ x i
                  · rw [if_pos ((w3 dw z2).mpr (by rw [z3']; exact y2)), if_neg (fun q => q.2 y2)]; rfl
                  · rw [if_neg (fun q => y2 (by rw [← z3']; exact (w3 dw z2).mp q)), if_pos ⟨y, y2⟩]; rfl
                · rw [if_neg (fun q => y (jhw_1.mp q)), if_neg (fun q => y q.1)]; rfl
              have uw := wnt_le (ad := ad) (at_ := at_) (x := x) d
              have et2 : (if (wnt ad at_ x d : Int) = 0 then (0 : Int) else 1) = (wnt ad at_ x d : Int) := by
                split <;> omega
              have hsl : sm (chP ad (fun _ => false) s d) (wnt ad at_ x) ad.length ≤ ad.length := by
                have := sm_le (P := chP ad (fun _ => false) s d) (f := wnt ad at_ x) (m := 1) wnt_le ad.length
                omega
              have h9 := w4 9
              rw [if_pos rfl] at h9
              have hg9 := hgl 9 i
              have hc9 := hc 9 (by omega) (by omega)
              refine ⟨⟨by omega, by omega⟩, fun _ => ⟨⟨by omega, by omega⟩, ⟨by omega, by omega⟩⟩, ?_⟩
              rw [et]
              unfold LETI
              dsimp only
              rw [et2]
              have hx3 : σ.2 123 d = en1 (adX ad d) - 1 := by omega
              have hX : adX ad d = fnd ad s (d + 1) := by rw [adX_fnd, hds]
              have hc' : d < (adX ad d).getD ad.length ∧ (adX ad d).getD ad.length ≤ ad.length ∧ ∀ k, d < k → k < (adX ad d).getD ad.length → (ad.getD k adD).1 ≠ s := by
                rw [hX]
                cases hf : fnd ad s (d + 1) with
                | none => exact ⟨hdn, Nat.le_refl _, fun k y1 y2 => fnd_none hf k y1 y2⟩
                | some i => exact ⟨(fnd_some hf).1, Nat.le_of_lt (fnd_some hf).2.1, fun k y1 y2 => (fnd_some hf).2.2.2 k y1 y2⟩
              have hst2 : sm (chP ad (fun _ => false) s ((adX ad d).getD ad.length)) (wnt ad at_ x) ad.length = sm (chP ad (fun _ => false) s d) (wnt ad at_ x) ad.length + wnt ad at_ x d := ch_step hdn hds rfl hc'.1 (fun k y1 y2 _ => hc'.2.2 k y1 y2)
              refine ⟨⟨by omega, by omega⟩, ⟨by omega, by omega⟩, ⟨by omega, by omega⟩, ⟨by omega, by omega⟩, ⟨by omega, by omega⟩, hK13 _ _ ⟨adX ad d, t + 1, by rw [hx3]; rfl, by omega, fun i' hi' => ?_, w1.prE, w2, fun w hw => ?_, fun k => ?_⟩ (by dsimp only; omega)⟩
              · rw [hX] at hi'; exact ⟨(fnd_some hi').2.1, (fnd_some hi').2.2.1⟩
              · rw [pr_2, if_neg (by omega)]; exact w3 w hw
              · rw [pr_2, hst2]
                by_cases y : k = 9
                · rw [if_pos ⟨rfl, y⟩, if_pos y, h9, y]; omega
                · rw [if_neg (fun q => y q.2), if_neg y, w4 k, if_neg y]
          · have hfst : ∀ k, k < (fnd ad s 0).getD ad.length → k < ad.length → (ad.getD k adD).1 ≠ s := fun k y1 y2 => by
              cases hf : fnd ad s 0 with
              | none => exact fnd_none hf k (Nat.zero_le _) y2
              | some i => rw [hf] at y1; exact (fnd_some hf).2.2.2 k (Nat.zero_le _) y1
            refine ⟨fnd ad s 0, 0, rfl, Nat.zero_le _, fun i hi => ⟨(fnd_some hi).2.1, (fnd_some hi).2.2.1⟩, r1, r2, r4, fun k => ?_⟩
            rw [ch_first hfst, sm_none (P := fun d => (fun _ => false) (ad.getD d adD).1) (fun d _ => rfl), Nat.add_zero]
            exact r3 k
      · rw [pf_eq]
        have := v1.2.2.2 w
        show τ.2 155 w ≤ v
        omega
      · show τ.2 149 k = _
        rw [v3 k, List.take_zero, List.append_nil]
        unfold cnT
        rw [hS90]
      · have := v1.2.2.2 w
        show τ.2 155 w = v ↔ _
        exact ⟨fun z => by omega, fun z => by cases z⟩
    · rw [if_neg (by omega)]
      have ee : e = el.length := by omega
      rw [ee, List.take_length] at v3
      exact hq τ v1 (by rw [v2, ee]) v3
  · have e0 : cnT ad at_ (el.take 0) k = 0 := by
      rw [List.take_zero]
      unfold cnT
      show gsm (tga ad at_ k) [] + (if k = 9 then 0 else 0) = 0
      split <;> rfl
    rw [e0]
    simp
end VTg
