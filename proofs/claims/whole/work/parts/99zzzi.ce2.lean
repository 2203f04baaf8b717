/-! ===== the validator: declarations of elements, the loops ===== -/
/-- how long contents are -/
def lnE (ed : List EDc) (i : Nat) : Nat := (ed.getD i ([], 0, [])).2.2.length
section Cem
variable {L : Nat → Nat} {σ : IS} {el : List Elm} {ed : List EDc}
set_option maxHeartbeats 2000000 in
theorem sp_Validator_countElements {Q : IS → Prop} (hS : SI L σ) (hsl : SL L) (hL : MLn L) (hD : JEd L σ ed) (hG : ∀ x ∈ ed, GDx x) (h62 : σ.1 6 2 = (el.length : Int)) (hE : ∀ i, i < el.length → Jn σ (σ.2 146 i) (el.getD i elD).1 ∧ cbt (σ.2 133 i) (el.getD i elD).2.2.2.2.2.1 (el.getD i elD).2.2.2.2.2.2) (hLN : LNK σ ed el) (hLe : el.length ≤ L 133 ∧ el.length ≤ L 146 ∧ el.length ≤ L 150 ∧ el.length ≤ L 151 ∧ el.length ≤ L 152) (hLd : ed.length ≤ L 116 ∧ ed.length ≤ L 117 ∧ ed.length ≤ L 147 ∧ ed.length ≤ L 153 ∧ L 125 = L 102 ∧ L 149 = 23) (hbd : el.length ≤ 100000 ∧ ed.length ≤ 7000 ∧ ∀ i, lnE ed i ≤ 100000) (hcap : 2 * jw σ + sn (lnE ed) ed.length ≤ 2 * L 102) (hc : ∀ k, 2 ≤ k → k ≤ 6 → 0 ≤ σ.2 149 k ∧ σ.2 149 k ≤ 100000000) (hs : 0 ≤ σ.1 1 16 ∧ σ.1 1 16 ≤ 1200000000) (hm : ∀ w, σ.2 155 w ≤ σ.1 1 16)
    (hq : ∀ σ', EVx L σ σ' → (∀ w, σ'.2 155 w ≤ σ'.1 1 16) → (σ.1 1 16 ≤ σ'.1 1 16 ∧ σ'.1 1 16 ≤ σ.1 1 16 + (sn (lnE ed) ed.length : Int)) → (∀ k, σ'.2 149 k = σ.2 149 k + (sn (ctE ed el k) ed.length : Int)) → 2 * jw σ' ≤ 2 * jw σ + sn (lnE ed) ed.length → Q σ') : w_Validator_countElements L Q σ := by
  obtain ⟨d1, d2, d3⟩ := id hD
  have e155 : L 102 = L 155 := hsl.2.2.2.1
  have h102 : L 102 < 1000000 := hsl.2.2.2.2.2.2.1
  have hmem : ∀ i, i < ed.length → ed.getD i ([], 0, []) ∈ ed := fun i hi => by
    rw [List.getD_eq_getElem?_getD, List.getElem?_eq_getElem hi]
    exact List.getElem_mem hi
  have hmx : ∀ x ∈ ed, (mxN x).length ≤ 100000 := fun x hx => by
    obtain ⟨i, hi, rfl⟩ := List.mem_iff_getElem.mp hx
    have h1 := hbd.2.2 i
    unfold lnE at h1
    rw [List.getD_eq_getElem?_getD, List.getElem?_eq_getElem hi] at h1
    have h1' : (ed[i]).2.2.length ≤ 100000 := h1
    unfold mxN
    rw [List.length_map]
    have h2 : ∀ (m i0 : Nat), i0 ≤ (ed[i]).2.2.length → (mxL (gd (ed[i]).2.2) (ed[i]).2.2.length m i0).length + i0 ≤ (ed[i]).2.2.length := by
      intro m
      induction m with
      | zero => intro i0 h; show 0 + i0 ≤ _; omega
      | succ m ih =>
        intro i0 h
        rw [mxL_u]
        split
        · split
          · show 0 + i0 ≤ _; omega
          · rename_i j hj
            have hjl := nmg_lt hj
            have hs1 : i0 ≤ sk isSp (gd (ed[i]).2.2) (ed[i]).2.2.length i0 := sk_gt
            have hs2 : sk isSp (gd (ed[i]).2.2) (ed[i]).2.2.length i0 + 1 ≤ sk isSp (gd (ed[i]).2.2) (ed[i]).2.2.length (sk isSp (gd (ed[i]).2.2) (ed[i]).2.2.length i0 + 1) := sk_gt
            have := ih j hjl.2.2
            rw [List.length_cons]
            omega
        · show 0 + i0 ≤ _; omega
    by_cases c : mx0 (ed[i]).2.2 ≤ (ed[i]).2.2.length
    · have := h2 ((ed[i]).2.2.length + 1) _ c
      omega
    · have : ∀ m, mxL (gd (ed[i]).2.2) (ed[i]).2.2.length m (mx0 (ed[i]).2.2) = [] := by
        intro m
        cases m with
        | zero => rfl
        | succ m =>
          rw [mxL_u, if_neg]
          have hs1 : mx0 (ed[i]).2.2 ≤ sk isSp (gd (ed[i]).2.2) (ed[i]).2.2.length (mx0 (ed[i]).2.2) := sk_gt
          rw [lk_ge (by omega)]
          decide
      rw [this]
      exact Nat.zero_le _
  have hcE : ∀ k i, i < ed.length → ctE ed el k i ≤ 100000 := fun k i hi => ctE_le hbd.1 hmx (by omega) k i hi
  have hcS : ∀ k d, d ≤ ed.length → sn (ctE ed el k) d ≤ 100000 * d := fun k d hd => by
    rw [sn_ext (g := fun i => if i < ed.length then ctE ed el k i else 0) (fun i hi => by rw [if_pos (by omega)])]
    exact sn_le (fun i => by
      by_cases y : i < ed.length
      · rw [if_pos y]; exact hcE k i y
      · rw [if_neg y]; omega) d
  unfold w_Validator_countElements
  refine WL_ind (fun s τ => ∃ d : Nat, s = (d : Int) ∧ d ≤ ed.length ∧ EVx L σ τ ∧ (∀ w, τ.2 155 w ≤ τ.1 1 16) ∧ (σ.1 1 16 ≤ τ.1 1 16 ∧ τ.1 1 16 ≤ σ.1 1 16 + (sn (lnE ed) d : Int)) ∧ (∀ k, τ.2 149 k = σ.2 149 k + (sn (ctE ed el k) d : Int)) ∧ 2 * jw τ ≤ 2 * jw σ + sn (lnE ed) d) (fun s _ => (ed.length - s).toNat) ?_ 0 σ ⟨0, rfl, Nat.zero_le _, EVx.refl hS, hm, ⟨Int.le_refl _, by show _ ≤ _ + (0 : Int); omega⟩, fun k => by show _ = _ + (0 : Int); omega, by show 2 * jw σ ≤ 2 * jw σ + 0; omega⟩
  rintro _ τ ⟨d, rfl, hd, hV, hmt, hst, hct, hjw⟩ K hK
  rw [hV.1 4 3 (by omega) (by omega) (by omega), d1]
  by_cases c : d < ed.length
  · rw [if_pos (by omega), show Int.toNat (d : Int) = d from rfl]
    obtain ⟨x147, x116, x117⟩ := d2 d c
    have hGx := hG _ (hmem d c)
    have hlnd : lnE ed d = (ed.getD d ([], 0, [])).2.2.length := rfl
    have hln1 := sn_s (f := lnE ed) (n := d)
    have hlnm := sn_mono (f := lnE ed) (show d + 1 ≤ ed.length by omega)
    have hlb := hbd.2.2 d
    have hctd : ∀ k, sn (ctE ed el k) (d + 1) = sn (ctE ed el k) d + ctE ed el k d := fun k => sn_s
    have hcd : ∀ k, sn (ctE ed el k) d ≤ 700000000 := fun k => by have := hcS k d hd; omega
    have hcdd := fun k => hcE k d c
    obtain ⟨w, w1, w2, w3⟩ := x147.gr hV.2.2.1
    have e147 : τ.2 147 = σ.2 147 := hV.2.1 147 (by omega) (by omega) (by decide) (by decide)
    have hW : WM L τ 125 (fun s => en1 (edf ed s)) := d3.gr hV.2.2.1 hV.2.2.2 hsl (hV.2.1 125 (by omega) (by omega) (by decide) (by decide))
    have e125 : τ.2 125 w = en1 (edf ed (ed.getD d ([], 0, [])).1) := by rw [← w3]; exact hW.1 w w2
    have hjl := hV.2.2.2.jw_le
    generalize hx : ed.getD d ([], 0, []) = x at *
    have hlx : lnE ed d = x.2.2.length := hlnd
    -- whether it is a later one
    have hlat : (if en1 (edf ed x.1) - 1 = (d : Int) then (0 : Int) else 1) = (ctE ed el 2 d : Int) := by
      unfold ctE
      rw [if_pos rfl, hx]
      cases he : edf ed x.1 with
      | none => rw [if_neg (by show ¬ ((0 : Int) - 1 = (d : Int)); omega), if_neg (by simp)]; rfl
      | some i =>
        by_cases y : i = d
        · rw [if_pos (by show (i : Int) + 1 - 1 = (d : Int); omega), if_pos (by rw [y])]; rfl
        · rw [if_neg (by show ¬ ((i : Int) + 1 - 1 = (d : Int)); omega), if_neg (fun z => y (Option.some.inj z))]; rfl
    have hen : -1 ≤ en1 (edf ed x.1) - 1 ∧ en1 (edf ed x.1) - 1 ≤ 10000 := by
      cases he : edf ed x.1 with
      | none => show -1 ≤ (0 : Int) - 1 ∧ (0 : Int) - 1 ≤ 10000; omega
      | some i => have := edf_lt he; show -1 ≤ (i : Int) + 1 - 1 ∧ (i : Int) + 1 - 1 ≤ 10000; omega
    have hl01 : ctE ed el 2 d ≤ 1 := by unfold ctE; rw [if_pos rfl]; split <;> omega
    have hll : (if (ctE ed el 2 d : Int) = 0 then (0 : Int) else 1) = (ctE ed el 2 d : Int) := by split <;> omega
    have h2c := hct 2
    have hc2 := hc 2 (by omega) (by omega)
    have hcd2 := hcd 2
    rw [e147, w1, show Int.toNat (w : Int) = w from rfl, e125, hlat, hll, show Int.toNat 2 = 2 from rfl, hV.2.1 116 (by omega) (by omega) (by decide) (by decide), hV.2.1 117 (by omega) (by omega) (by decide) (by decide), x116]
    refine ⟨⟨by omega, by omega⟩, ⟨by omega, by omega⟩, ⟨by omega, by omega⟩, ⟨by omega, by omega⟩, ⟨by omega, by omega⟩, ⟨by omega, by omega⟩, ⟨by omega, by omega⟩, ?_⟩
    -- after the first count
    generalize hτ1 : pr τ 149 2 (τ.2 149 2 + (ctE ed el 2 d : Int)) = τ1
    have z1 : MAz τ τ1 := by rw [← hτ1]; exact MAz.refl.prE
    have hV1 : EVx L σ τ1 := hV.trans (z1.ev hV.2.2.2)
    have z149 : ∀ k, τ1.2 149 k = σ.2 149 k + ((sn (ctE ed el k) d + if k = 2 then ctE ed el 2 d else 0 : Nat) : Int) := fun k => by
      rw [← hτ1, pr_2]
      by_cases y : k = 2
      · rw [if_pos ⟨rfl, y⟩, if_pos y, h2c, y]; omega
      · rw [if_neg (fun q => y q.2), if_neg y, hct k]; omega
    have z155 : ∀ w, τ1.2 155 w ≤ τ1.1 1 16 := fun w' => by rw [z1.2 155 (by decide) (by decide) (by decide), z1.1 1 16 (by omega)]; exact hmt w'
    have z16 : τ1.1 1 16 = τ.1 1 16 := z1.1 1 16 (by omega)
    have zjw : jw τ1 = jw τ := by unfold jw; rw [z1.1 1 14 (by omega)]
    have zjt : jtp τ1 = jtp τ := by unfold jtp; rw [z1.1 1 3 (by omega)]
    refine WJ_of (fun (mk : Int) ρ => EVx L σ ρ ∧ (∀ w, ρ.2 155 w ≤ ρ.1 1 16) ∧ (σ.1 1 16 ≤ ρ.1 1 16 ∧ ρ.1 1 16 ≤ σ.1 1 16 + (sn (lnE ed) (d + 1) : Int)) ∧ (∀ k, ρ.2 149 k = σ.2 149 k + ((sn (ctE ed el k) d + if k = 6 then 0 else ctE ed el k d : Nat) : Int)) ∧ 2 * jw ρ ≤ 2 * jw σ + sn (lnE ed) (d + 1) ∧ (x.2.1 = 3 → MDn ρ (mvE x).1 (mvE x).2 ∧ (mvE x).2.length ≤ 256) ∧ (x.2.1 = 2 → ∀ w, w < jw ρ → (ρ.2 155 w = mk ↔ wst ρ w ∈ mxN x))) (fun J hJ => ?_) ?_
    · obtain ⟨a, a1, a2, a3⟩ := x117
      have hjt0 : jtp σ ≤ jtp τ1 := hV1.2.2.1.2.1
      have hjt1 : jtp τ1 = jtp σ := by unfold jtp; rw [hV1.1 1 3 (by omega) (by omega) (by omega)]
      have e101 : τ1.2 101 = σ.2 101 := hV1.2.1 101 (by omega) (by omega) (by decide) (by decide)
      have a2' : a + x.2.2.length ≤ jtp σ := a2
      have a3' : sl (σ.2 101) a x.2.2.length = x.2.2 := a3
      have k3 : ctE ed el 3 d = if x.2.1 = 2 then rpk (mxN x) (mxN x).length else 0 := by unfold ctE; rw [if_neg (by decide), if_pos rfl, hx]
      have k4 : ctE ed el 4 d = if x.2.1 = 3 ∧ dtm (mvE x).2 (mvE x).1 (mvE x).2.length = false then 1 else 0 := by unfold ctE; rw [if_neg (by decide), if_neg (by decide), if_pos rfl, hx]
      have ko : ∀ k, k ≠ 2 → k ≠ 3 → k ≠ 4 → k ≠ 6 → ctE ed el k d = 0 := fun k y1 y2 y3 y4 => by unfold ctE; rw [if_neg y1, if_neg y2, if_neg y3, if_neg y4]
      rw [a1]
      by_cases c2 : x.2.1 = 2
      · -- a mixed group
        rw [if_pos (by omega)]
        obtain ⟨z, m1, m2, m3, m4, m5⟩ := mx_src (T := σ.2 101) (e := jtp σ) hGx c2 a2' a3'
        have hc3 := hc 3 (by omega) (by omega)
        have hcd3 := hcd 3
        have z3 := z149 3
        rw [if_neg (by decide)] at z3
        refine ⟨⟨by omega, by omega⟩, sp_Validator_markMixed (e := jtp σ) (z := z) (N := x.2.2.length + 1) (k0 := a + mx0 x.2.2) (ns := mxN x) hV1.2.2.2 hsl hjt1.symm hLd.2.2.2.2.2 (by rw [e101]; exact m1) m2 (by rw [e101]; exact m3) (by rw [e101]) (by rw [e101]; exact m4) (by omega) ⟨by omega, by omega⟩ ⟨by omega, by omega⟩ z155 (fun ρ q1 q2 q3 q4 q5 q6 => ?_)⟩
        refine hJ _ ρ ⟨hV1.trans q1.ev, q3, ⟨by omega, by omega⟩, fun k => ?_, by omega, fun y => by omega, fun _ => q5⟩
        rw [q4 k, z149 k]
        by_cases y3 : k = 3
        · rw [if_pos y3, if_neg (by omega), if_neg (by omega), y3, k3, if_pos c2]; omega
        · rw [if_neg y3]
          by_cases y2 : k = 2
          · rw [if_pos y2, if_neg (by omega), y2]; omega
          · rw [if_neg y2]
            by_cases y6 : k = 6
            · rw [if_pos y6]; omega
            · rw [if_neg y6]
              by_cases y4 : k = 4
              · rw [y4, k4, if_neg (fun q => by omega)]; omega
              · rw [ko k y2 y3 y4 y6]; omega
      · rw [if_neg (by omega)]
        refine ⟨⟨by omega, by omega⟩, ?_⟩
        by_cases c3 : x.2.1 = 3
        · -- a model
          rw [if_pos (by omega)]
          obtain ⟨r, m1, m2, m3, m4, m5, m6, m7, m8⟩ := md_src (T := σ.2 101) (e := jtp σ) hGx c3 a2' a3'
          refine ⟨⟨by omega, by omega⟩, sp_Model_read (e := jtp σ) (V := (mvE x).1) (NS := (mvE x).2) (r := r) (N := x.2.2.length + 2) hL hsl hV1.2.2.2 hjt1.symm m1.1 (by rw [e101]; exact m1.2) (by rw [e101]; exact m2) m3 m4 (by rw [e101]; exact m5) (by omega) (by rw [e101]; exact m6) (fun ρ q1 q2 q3 => ?_)⟩
          have f16 : ρ.1 1 16 = τ1.1 1 16 := q1.1 1 16 (by omega) (by omega) (by omega)
          have g155 : ∀ w, ρ.2 155 w ≤ ρ.1 1 16 := fun w' => by rw [q1.2.1 155 (by omega) (by omega), f16]; exact z155 w'
          have g149 : ρ.2 149 = τ1.2 149 := q1.2.1 149 (by omega) (by omega)
          refine ⟨⟨by omega, by omega⟩, sp_Model_isDeterministic q1.2.2.2 hsl hL q2 (by omega) ⟨by omega, by omega⟩ g155 (fun ρ2 v2 => ?_)⟩
          rw [show Int.toNat 4 = 4 from rfl, g149]
          have z4 := z149 4
          rw [if_neg (by decide)] at z4
          have hc4 := hc 4 (by omega) (by omega)
          have hcd4 := hcd 4
          have ed4 : (if b1 (dtm (mvE x).2 (mvE x).1 (mvE x).2.length) = 0 then (1 : Int) else 0) = (ctE ed el 4 d : Int) := by
            rw [k4]
            cases hdt : dtm (mvE x).2 (mvE x).1 (mvE x).2.length with
            | false => rw [if_pos (by decide), if_pos ⟨c3, rfl⟩]; rfl
            | true => rw [if_neg (by decide), if_neg (fun q => by cases q.2)]; rfl
          have hk41 : ctE ed el 4 d ≤ 1 := by rw [k4]; split <;> omega
          rw [ed4]
          have hS2 := v2.ev (L := L) q1.2.2.2
          have hpr : MAz ρ2 (pr ρ2 149 4 (τ1.2 149 4 + (ctE ed el 4 d : Int))) := MAz.refl.prE
          have hv16 := v2.2.2.1
          refine ⟨⟨by omega, by omega⟩, ⟨by omega, by omega⟩, hJ _ _ ⟨((hV1.trans q1.ev).trans hS2).trans (hpr.ev hS2.2.2.2), fun w' => ?_, ⟨?_, ?_⟩, fun k => ?_, ?_, fun _ => ⟨?_, by omega⟩, fun y => by omega⟩⟩
          · show (pr ρ2 149 4 _).2 155 w' ≤ ρ2.1 1 16
            rw [pr_2, if_neg (by omega)]
            exact v2.2.2.2 w'
          · show σ.1 1 16 ≤ ρ2.1 1 16
            omega
          · show ρ2.1 1 16 ≤ _
            omega
          · rw [pr_2]
            by_cases y4 : k = 4
            · rw [if_pos ⟨rfl, y4⟩, if_neg (by omega), z4, y4]; omega
            · rw [if_neg (fun q => y4 q.2), v2.2.1 149 (by decide), g149, z149 k]
              by_cases y2 : k = 2
              · rw [if_pos y2, if_neg (by omega), y2]
              · rw [if_neg y2]
                by_cases y6 : k = 6
                · rw [if_pos y6]
                · rw [if_neg y6]
                  by_cases y3 : k = 3
                  · rw [y3, k3, if_neg c2]
                  · rw [ko k y2 y3 y4 y6]
          · show 2 * jw ρ2 ≤ _
            have : jw ρ2 = jw ρ := by unfold jw; rw [v2.1 1 14 (by omega)]
            omega
          · refine q2.keep ?_ ?_ (fun r' hr' => ?_)
            · show ρ2.1 9 3 = _
              exact v2.1 9 3 (by omega)
            · show ρ2.1 1 14 = _
              exact v2.1 1 14 (by omega)
            · rw [hpr.2 r' (by omega) (by omega) (by omega)]
              exact v2.2.1 r' (by omega)
        · rw [if_neg (by omega)]
          refine hJ _ τ1 ⟨hV1, z155, ⟨by omega, by omega⟩, fun k => ?_, by omega, fun y => absurd y c3, fun y => absurd y c2⟩
          rw [z149 k]
          by_cases y2 : k = 2
          · rw [if_pos y2, if_neg (by omega), y2]
          · rw [if_neg y2]
            by_cases y6 : k = 6
            · rw [if_pos y6]
            · rw [if_neg y6]
              by_cases y3 : k = 3
              · rw [y3, k3, if_neg c2]
              · by_cases y4 : k = 4
                · rw [y4, k4, if_neg (fun q => c3 q.1)]
                · rw [ko k y2 y3 y4 y6]
    · rintro mk ρ ⟨p1, p2, p3, p4, p5, p6, p7⟩
      have hkd : (if (ctE ed el 2 d : Int) = 0 then ρ.2 153 d else -1) = en1 (nxk (kdc ed el) el.length d 0) - 1 := by
        have e153 : ρ.2 153 d = en1 (nxk (kdc ed el) el.length d 0) - 1 := by
          rw [p1.2.1 153 (by omega) (by omega) (by decide) (by decide)]
          exact hLN.2.1 d c
        by_cases y : (ctE ed el 2 d : Int) = 0
        · rw [if_pos y, e153]
        · rw [if_neg y]
          cases hn : nxk (kdc ed el) el.length d 0 with
          | none => rfl
          | some i =>
            exfalso
            have hki := (nxk_some _ 0 rfl hn).2.2
            have hse := edf_self hki
            rw [hx] at hse
            have : ctE ed el 2 d = 0 := by
              unfold ctE
              rw [if_pos rfl, hx, if_pos (by rw [hse]; exact hki)]
            omega
      refine ⟨fun _ => ⟨by omega, by omega⟩, ?_⟩
      rw [hkd]
      unfold LETI
      dsimp only
      have k6 : ctE ed el 6 d = ((chl (kdc ed el) el.length d 0).map (fun e => if fit ed el x e = true then 0 else 1)).sum := by unfold ctE; rw [if_neg (by decide), if_neg (by decide), if_neg (by decide), if_pos rfl, hx]
      have hc6 := hc 6 (by omega) (by omega)
      have hcd6 := hcd 6
      have hcdd6 := hcdd 6
      refine WL_ind (fun (z : Int × Int) υ => ∃ (j t X : Nat), z = (en1 (nxk (kdc ed el) el.length d j) - 1, (t : Int)) ∧ t ≤ j ∧ MAz ρ υ ∧ X + ((chl (kdc ed el) el.length d j).map (fun e => if fit ed el x e = true then 0 else 1)).sum = ctE ed el 6 d ∧ ∀ k, υ.2 149 k = ρ.2 149 k + if k = 6 then (X : Int) else 0) (fun z _ => (el.length - z.2).toNat) ?_ _ ρ ⟨0, 0, 0, rfl, Nat.le_refl _, MAz.refl, by rw [k6, Nat.zero_add], fun k => by split <;> simp⟩
      rintro _ υ ⟨j, t, X, rfl, htj, hA, hX, hc0⟩ K13 hK13
      dsimp only at hK13 ⊢
      have hpA : EVx L σ υ := p1.trans (hA.ev p1.2.2.2)
      rw [hpA.1 6 2 (by omega) (by omega) (by omega), h62]
      cases hn : nxk (kdc ed el) el.length d j with
      | none =>
        rw [if_neg (fun z => z.2 rfl)]
        have hch : chl (kdc ed el) el.length d j = [] := by rw [chl_nxk _ j rfl, hn]
        rw [hch] at hX
        have hX' : X = ctE ed el 6 d := hX
        refine ⟨⟨by omega, by omega⟩, hK _ _ ⟨d + 1, rfl, by omega, hpA, fun w' => ?_, ?_, fun k => ?_, ?_⟩ (by omega)⟩
        · rw [hA.2 155 (by decide) (by decide) (by decide), hA.1 1 16 (by omega)]
          exact p2 w'
        · rw [hA.1 1 16 (by omega)]
          exact p3
        · rw [hc0 k, p4 k, hctd]
          by_cases y : k = 6
          · rw [if_pos y, if_pos y, y, hX']; omega
          · rw [if_neg y, if_neg y]; omega
        · have : jw υ = jw ρ := by unfold jw; rw [hA.1 1 14 (by omega)]
          omega
      | some i =>
        obtain ⟨hji, hin, hki⟩ := nxk_some _ j rfl hn
        have hch : chl (kdc ed el) el.length d j = i :: chl (kdc ed el) el.length d (i + 1) := by rw [chl_nxk _ j rfl, hn]
        rw [hch, List.map_cons, List.sum_cons] at hX
        have ei : en1 (some i) - 1 = (i : Int) := by show (i : Int) + 1 - 1 = i; omega
        rw [ei, if_pos ⟨by omega, by omega⟩, hpA.2.1 116 (by omega) (by omega) (by decide) (by decide), x116, show Int.toNat 6 = 6 from rfl, show Int.toNat (i : Int) = i from rfl]
        have h6 := hc0 6
        rw [if_pos rfl, p4 6, if_pos rfl] at h6
        refine ⟨⟨by omega, by omega⟩, ⟨by omega, by omega⟩, sp_Validator_fits (ed := ed) (el := el) (x := x) hpA.2.2.2 hsl hL hin (by rw [hpA.1 6 2 (by omega) (by omega) (by omega)]; exact h62) (fun i' hi' => ?_) ?_ ⟨by omega, by omega, by omega, by omega, by omega⟩ ?_ hLd.2.2.2.2.1 (fun y => ⟨?_, (p6 y).2⟩) (fun y w' hw' => ?_) (fun υ' hAx => ?_)⟩
        · rw [hpA.2.1 146 (by omega) (by omega) (by decide) (by decide), hpA.2.1 133 (by omega) (by omega) (by decide) (by decide)]
          exact ⟨(hE i' hi').1.gr hpA.2.2.1, (hE i' hi').2⟩
        · rw [hpA.2.1 150 (by omega) (by omega) (by decide) (by decide), hpA.2.1 151 (by omega) (by omega) (by decide) (by decide)]
          exact hLN.1
        · exact d3.gr hpA.2.2.1 hpA.2.2.2 hsl (hpA.2.1 125 (by omega) (by omega) (by decide) (by decide))
        · exact (p6 y).1.keep (hA.1 9 3 (by omega)) (hA.1 1 14 (by omega)) (fun r hr => hA.2 r (by omega) (by omega) (by omega))
        · have ej : jw υ = jw ρ := by unfold jw; rw [hA.1 1 14 (by omega)]
          have ew : wst υ w' = wst ρ w' := by unfold wst wfr wsz; rw [hA.2 101 (by decide) (by decide) (by decide), hA.2 102 (by decide) (by decide) (by decide), hA.2 103 (by decide) (by decide) (by decide)]
          rw [hA.2 155 (by decide) (by decide) (by decide), ew]
          exact p7 y w' (by omega)
        · have hA2 := hA.ax hAx
          have e152 : υ'.2 152 i = en1 (nxk (kdc ed el) el.length d (i + 1)) - 1 := by
            rw [hA2.2 152 (by decide) (by decide) (by decide), p1.2.1 152 (by omega) (by omega) (by decide) (by decide)]
            exact hLN.2.2 i (Nat.zero_le _) hin d hki
          have e149 : υ'.2 149 = υ.2 149 := hAx.2 149 (by decide) (by decide)
          have ef : (if b1 (fit ed el x i) = 0 then (1 : Int) else 0) = ((if fit ed el x i = true then 0 else 1 : Nat) : Int) := by
            cases fit ed el x i <;> rfl
          have ef1 : (if fit ed el x i = true then 0 else 1 : Nat) ≤ 1 := by split <;> omega
          rw [e152, ef]
          refine ⟨⟨by omega, by omega⟩, ⟨by omega, by omega⟩, ⟨by omega, by omega⟩, ⟨by omega, by omega⟩, hK13 _ _ ⟨i + 1, t + 1, X + (if fit ed el x i = true then 0 else 1), by rw [show ((t + 1 : Nat) : Int) = (t : Int) + 1 by omega], by omega, hA2.prE, by omega, fun k => ?_⟩ (by dsimp only; omega)⟩
          rw [pr_2]
          by_cases y : k = 6
          · have h6' := hc0 6
            rw [if_pos rfl] at h6'
            rw [if_pos ⟨rfl, y⟩, if_pos y, h6', y]; omega
          · rw [if_neg (fun q => y q.2), if_neg y, e149, hc0 k, if_neg y]
  · rw [if_neg (by omega)]
    have ee : d = ed.length := by omega
    rw [ee] at hst hct hjw
    exact hq τ hV hmt hst hct hjw
end Cem
