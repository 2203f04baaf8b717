/-! ===== the class reads a model ===== -/
/-- the levels of the groups that are gone through -/
def MSk (σ : IS) : List MFr → Prop
  | [] => MLv σ 0 (0, none)
  | f :: t => MLv σ (t.length + 1) f ∧ MSk σ t
/-- a model half read -/
def MBd (L : Nat → Nat) (σ : IS) (src e : Nat) (V : MVl) (NS : List Str) (r : Nat × Nat × Nat) (fs : List MFr) (due : Bool) (k N : Nat) (ns : List Str) (d t : Nat) (τ : IS) : Prop :=
  (fs ≠ [] ∧ τ.1 2 2 = (k : Int) ∧ MRd L σ τ) ∧ (mdk (σ.2 101) e N (fs.map Prod.fst) due k ns.length d = some r ∧ mdV (σ.2 101) e N fs due k ns = some (V, NS)) ∧ (MSk τ fs ∧ τ.1 9 3 = (ns.length : Int) ∧ (∀ a, a < ns.length → ∀ b, b < 256 → bs τ 138 a b = fwu fs a b) ∧ ∀ i, i < ns.length → Jn τ (τ.2 137 i) (ns.getD i [])) ∧ (FRm fs due ∧ belF ns.length fs) ∧ (fs.length ≤ d ∧ src + t ≤ k ∧ k ≤ e ∧ jw τ ≤ jw σ + ns.length)
/-- a model that is read -/
def MDn (τ : IS) (V : MVl) (NS : List Str) : Prop := MXl τ 0 V ∧ τ.2 142 0 = 1 ∧ τ.1 9 3 = (NS.length : Int) ∧ (∀ a, a < NS.length → ∀ b, b < 256 → bs τ 138 a b = V.2.2.2 a b) ∧ ∀ i, i < NS.length → Jn τ (τ.2 137 i) (NS.getD i [])
section Mrd
variable {L : Nat → Nat} {σ τ υ : IS}
theorem MSk.keep {l : Nat} (hk : ∀ l' f, l' ≠ l → MLv τ l' f → MLv υ l' f) : ∀ {fs : List MFr}, fs.length < l → MSk τ fs → MSk υ fs := by
  intro fs
  induction fs with
  | nil => intro hl h; exact hk 0 _ (by have : 0 < l := hl; omega) h
  | cons f t ih =>
    intro hl h
    rw [List.length_cons] at hl
    exact ⟨hk _ f (by omega) h.1, ih (by omega) h.2⟩
theorem Jn_row {x : Int} {s : Str} (h : Jn τ x s) (h1 : υ.1 1 14 = τ.1 1 14) (h2 : ∀ r, 101 ≤ r → r ≤ 103 → υ.2 r = τ.2 r) : Jn υ x s := by
  obtain ⟨w, a, b, c⟩ := h
  refine ⟨w, a, ?_, ?_⟩
  · unfold jw at b ⊢; rw [h1]; exact b
  · unfold wst wfr wsz at c ⊢
    rw [h2 101 (by omega) (by omega), h2 102 (by omega) (by omega), h2 103 (by omega) (by omega)]
    exact c
set_option maxHeartbeats 2000000 in
/-- the loop -/
theorem md_loop {Q : IS → Prop} {src e : Nat} {V : MVl} {NS : List Str} {r : Nat × Nat × Nat} (hL : MLn L) (hsl : SL L) (h23 : σ.1 2 3 = (e : Int)) (heL : e ≤ L 101) (het : e ≤ jtp σ) (hnn : r.2.1 ≤ 255) (hdd : r.2.2 ≤ 60) (hz : lk (σ.2 101) e r.1 ≠ 63) (hcap : jw σ + r.2.1 ≤ L 102) (hq : ∀ τ, MRd L σ τ → MDn τ V NS → jw τ ≤ jw σ + NS.length → Q τ)
    {N : Nat} (hS : SI L σ) (h22 : σ.1 2 2 = (src : Int)) (h40 : σ.2 101 src = 40) (hse : src < e) (h0 : σ.2 142 0 = 0) (h930 : σ.1 9 3 = 0) (hk0 : mdk (σ.2 101) e N [0] true (src + 1) 0 1 = some r) (hV0 : mdV (σ.2 101) e N [(0, none)] true (src + 1) [] = some (V, NS)) : WL (fun (K1 : Int × Int → IS → Prop) (s3 : Int × Int) (σ4 : IS) => ((s3.2 < 1000000 → inL L 142 0)) ∧ if s3.2 < 1000000 ∧ ((σ4.2 142 (Int.toNat 0)) = 0 ∧ ((σ4.1 2 2) < (σ4.1 2 3))) then w_Reader_peek L  (fun v7 σ6 => WJ (fun (s10 : Int) (σ11 : IS) => inR (s3.2 + 1) ∧ K1 (s10, (s3.2 + 1)) σ11) (fun J8 => if v7 = 40 ∧ (s3.1 < 62) then inR ((σ6.1 2 2) + 1) ∧ inR (s3.1 + 1) ∧ inL L 142 (s3.1 + 1) ∧ J8 (s3.1 + 1) (pr (pf σ6 2 2 ((σ6.1 2 2) + 1)) 142 (Int.toNat (s3.1 + 1)) 0) else if v7 = 41 ∧ (0 < s3.1) then inR ((σ6.1 2 2) + 1) ∧ w_Model_readHowOften L s3.1 (fun σ16 => inR (s3.1 + (-1)) ∧ w_Model_join L (s3.1 + (-1)) (fun σ18 => J8 (s3.1 + (-1)) σ18) σ16) (pf σ6 2 2 ((σ6.1 2 2) + 1)) else WJ (fun (s24 : Unit) (σ25 : IS) => inR ((σ25.1 2 2) + 1) ∧ w_Reader_isSpace L v7 (fun v27 σ26 => ((¬ v27 = 0 → inL L 143 s3.1)) ∧ inL L 143 s3.1 ∧ J8 s3.1 (pr σ26 143 (Int.toNat s3.1) (if v27 = 0 then v7 else (σ26.2 143 (Int.toNat s3.1))))) (pf σ25 2 2 ((σ25.1 2 2) + 1))) (fun J22 => if ¬ v7 = 124 ∧ (¬ v7 = 44) then w_Reader_isSpace L v7 (fun v38 σ37 => if v38 = 0 then inR (s3.1 + 1) ∧ w_Model_readOccurrence L (s3.1 + 1) (fun σ40 => w_Model_join L s3.1 (fun σ42 => J8 s3.1 σ42) σ40) σ37 else J22 () σ37) σ6 else J22 () σ6))) σ4 else Q σ4) (0, 0) σ := by
  have l101 : L 101 < 1000000 := hsl.2.2.2.2.2.2.2
  obtain ⟨l7, l8, l9, l0, m1, m2, m3, -, -⟩ := id hL
  refine WL_ind (fun z τ => (z = (0, 0) ∧ σ = τ) ∨ (∃ fs due k N ns d t, z = (((fs.length : Nat) : Int), ((t : Nat) : Int)) ∧ MBd L σ src e V NS r fs due k N ns d t τ) ∨ (MRd L σ τ ∧ MDn τ V NS ∧ jw τ ≤ jw σ + NS.length)) (fun z τ => if τ.2 142 0 = 0 then (e + 1 - τ.1 2 2).toNat + 1 else 0) ?_ _ σ (Or.inl ⟨rfl, rfl⟩)
  rintro z τ (⟨rfl, rfl⟩ | ⟨fs, due, k, N, ns, d, t, rfl, hB⟩ | ⟨hR, hD, hw⟩) K hK
  · dsimp only
    have hJT : JT L σ e src := ⟨h22, h23, heL, l101, by omega⟩
    rw [show Int.toNat 0 = 0 from rfl, h0, h22, h23]
    refine ⟨fun _ => ⟨by omega, by omega⟩, ?_⟩
    rw [if_pos ⟨by omega, rfl, by omega⟩]
    refine sp_Reader_peek hJT (WJ_dir ?_)
    rw [lk_b hse, if_pos ⟨h40, by omega⟩, h22, show ((src : Int) + 1) = ((src + 1 : Nat) : Int) by omega, show Int.toNat (0 + 1) = 1 from rfl]
    generalize hρ : pr (pf σ 2 2 ((src + 1 : Nat) : Int)) 142 1 0 = ρ
    have q1 : ρ.1 = (pf σ 2 2 ((src + 1 : Nat) : Int)).1 := by rw [← hρ]; rfl
    have q2 : ∀ q, q ≠ 142 → ρ.2 q = σ.2 q := fun q hq' => by rw [← hρ]; funext j; rw [pr_2, if_neg (fun z => hq' z.1)]; rfl
    have hSr := SI_of hS (σ' := ρ) (by rw [q1, pf_no (by decide)]) (by rw [q1, pf_no (by decide)]; have := hS.1; omega) (fun q h1 h2 => q2 q (by omega)) (fun i _ => by rw [q2 101 (by decide)])
    refine ⟨⟨by omega, by omega⟩, ⟨by omega, by omega⟩, ⟨by omega, by omega⟩, ⟨by omega, by omega⟩, hK _ _ (Or.inr (Or.inl ⟨[(0, none)], true, src + 1, N, [], 1, 1, rfl, ⟨by simp, by rw [q1, pf_eq], fun o' k' a _ _ => by rw [q1, pf_1, if_neg a], fun q a b => q2 q (by omega), hSr.2, hSr.1⟩, ⟨hk0, hV0⟩, ⟨⟨⟨?_, fun v hv => (by cases hv), fun hs => absurd rfl hs⟩, ?_, fun v hv => (by cases hv), fun hs => absurd rfl hs⟩, by rw [q1, pf_no (by decide)]; exact h930, fun a ha => (by cases ha), fun i hi => (by cases hi)⟩, ⟨⟨fun g hg => (by cases hg), ?_⟩, fun g hg v hv => ?_⟩, Nat.le_refl _, Nat.le_refl _, by omega, ?_⟩)) ?_⟩
    · rw [← hρ, pr_2, if_pos ⟨rfl, rfl⟩]; rfl
    · rw [← hρ, pr_2, if_neg (by omega)]; exact h0
    · rw [if_pos rfl]
      intro v hv
      cases hv
    · rw [List.mem_singleton.mp hg] at hv
      cases hv
    · have : jw ρ = jw σ := by unfold jw; rw [q1, pf_no (by decide)]
      rw [this]
      exact Nat.le_add_right _ _
    · rw [show ρ.1 2 2 = ((src + 1 : Nat) : Int) by rw [q1, pf_eq], h0, h22]
      rw [if_pos rfl]
      split <;> omega
  · obtain ⟨⟨hne, hk2, hR⟩, ⟨hmk, hmV⟩, ⟨hM, h93, hFW, hJN⟩, ⟨hFR, hbel⟩, hdl, htk, hke, hjw⟩ := hB
    dsimp only
    have e101 : τ.2 101 = σ.2 101 := hR.2.1 101 (by omega) (by omega)
    have e23 : τ.1 2 3 = (e : Int) := by rw [hR.1 2 3 (by omega) (by omega) (by omega)]; exact h23
    obtain ⟨f, tl, rfl⟩ : ∃ f tl, fs = f :: tl := by
      cases fs with
      | nil => exact absurd rfl hne
      | cons f tl => exact ⟨f, tl, rfl⟩
    obtain ⟨s, o⟩ := f
    generalize hT : σ.2 101 = T at *
    have hmk' : mdk T e N (s :: tl.map Prod.fst) due k ns.length d = some r := hmk
    obtain ⟨hke', hske, hn63⟩ := mdk_in hmk'
    obtain ⟨hMl, hMt⟩ := id hM
    obtain ⟨hF1, hF2⟩ := id hFR
    have hmono := mdk_mono N _ _ _ _ _ hmk'
    have h142 : τ.2 142 0 = 0 := by
      have : ∀ (l : List MFr), MSk τ l → τ.2 142 0 = 0 := by
        intro l
        induction l with
        | nil => intro h; exact h.1
        | cons g u ih => intro h; exact ih h.2
      exact this _ hM
    have hJT : JT L τ e k := ⟨hk2, e23, heL, l101, by omega⟩
    rw [List.length_cons] at hdl ⊢
    have hlen : tl.length + 1 ≤ 60 := by omega
    rw [show Int.toNat 0 = 0 from rfl, h142, hk2, e23]
    have hmes : ∀ (τ' : IS) (k' : Nat), τ'.1 2 2 = (k' : Int) → k < k' → k' ≤ e → (if τ'.2 142 0 = 0 then (e + 1 - τ'.1 2 2).toNat + 1 else 0) < (if (0 : Int) = 0 then ((e : Int) + 1 - (k : Int)).toNat + 1 else 0) := fun τ' k' h1 h2 h3 => by
      rw [if_pos rfl, h1]
      split <;> omega
    rw [show (if τ.2 142 0 = 0 then ((e : Int) + 1 - τ.1 2 2).toNat + 1 else 0) = (if (0 : Int) = 0 then ((e : Int) + 1 - (k : Int)).toNat + 1 else 0) by rw [h142, hk2]] at hK
    refine ⟨fun _ => ⟨by omega, by omega⟩, ?_⟩
    rw [if_pos ⟨by omega, rfl, by omega⟩]
    refine sp_Reader_peek hJT (WJ_dir ?_)
    rw [e101, lk_b hke', hk2, show ((tl.length + 1 : Nat) : Int) + -1 = ((tl.length : Nat) : Int) by omega, show ((tl.length + 1 : Nat) : Int) + 1 = ((tl.length + 1 + 1 : Nat) : Int) by omega, show ((k : Int) + 1) = ((k + 1 : Nat) : Int) by omega, show ((t : Int) + 1) = ((t + 1 : Nat) : Int) by omega]
    have hJTx : ∀ x : Nat, x ≤ e → JT L (pf τ 2 2 (x : Int)) e x := fun x hx => ⟨pf_eq, by rw [pf_nk (by decide)]; exact e23, heL, l101, by omega⟩
    have hRx : ∀ x : Int, MRd L τ (pf τ 2 2 x) := fun x => by
      have := SI_pf (L := L) (o := 2) (k := 2) (x := x) hR.2.2.2 (by omega)
      exact ⟨fun o k a _ _ => by rw [pf_1, if_neg a], fun _ _ _ => rfl, this.2, this.1⟩
    by_cases hsp : isSp (T k) = true
    · -- a space
      have hn : T k ≠ 40 ∧ T k ≠ 41 ∧ T k ≠ 124 ∧ T k ≠ 44 := by
        unfold isSp at hsp
        simp only [Bool.or_eq_true, beq_iff_eq] at hsp
        omega
      rw [if_neg (fun q => hn.1 q.1), if_neg (fun q => hn.2.1 q.1)]
      refine WJ_dir ?_
      rw [if_pos ⟨hn.2.2.1, hn.2.2.2⟩]
      refine sp_Reader_isSpace ?_
      rw [hsp, if_neg (by decide)]
      dsimp only
      rw [hk2, show ((k : Int) + 1) = ((k + 1 : Nat) : Int) by omega]
      refine ⟨⟨by omega, by omega⟩, sp_Reader_isSpace ?_⟩
      rw [hsp]
      refine ⟨fun _ => ⟨by omega, by omega⟩, ⟨by omega, by omega⟩, ⟨by omega, by omega⟩, ?_⟩
      rw [if_neg (by decide)]
      have hself : pr (pf τ 2 2 ((k + 1 : Nat) : Int)) 143 (Int.toNat ((tl.length + 1 : Nat) : Int)) ((pf τ 2 2 ((k + 1 : Nat) : Int)).2 143 (Int.toNat ((tl.length + 1 : Nat) : Int))) = pf τ 2 2 ((k + 1 : Nat) : Int) := by
        refine Prod.ext rfl (funext (fun q => funext (fun j => ?_)))
        rw [pr_2]
        by_cases y : q = 143 ∧ j = Int.toNat ((tl.length + 1 : Nat) : Int)
        · rw [if_pos y, y.1, y.2]
        · rw [if_neg y]
      rw [hself]
      refine hK _ _ (Or.inr (Or.inl ⟨(s, o) :: tl, due, k + 1, N, ns, d, t + 1, rfl, ⟨hne, pf_eq, hR.trans (hRx _)⟩, ⟨?_, ?_⟩, ⟨?_, ?_, hFW, ?_⟩, ⟨hFR, hbel⟩, hdl, by omega, by omega, hjw⟩)) (hmes _ (k + 1) pf_eq (by omega) (by omega))
      · rw [hT, ← hmk', ]
        exact (mdk_sp hke' hsp).symm
      · rw [hT, ← hmV]
        exact (mdV_sp hke' hsp).symm
      · have : ∀ (l : List MFr), MSk τ l → MSk (pf τ 2 2 ((k + 1 : Nat) : Int)) l := by
          intro l
          induction l with
          | nil => intro h; exact MLv.row h rfl
          | cons g u ih => intro h; exact ⟨h.1.row rfl, ih h.2⟩
        exact this _ hM
      · rw [pf_no (by decide)]; exact h93
      · intro i hi
        exact Jn_row (hJN i hi) (by rw [pf_no (by decide)]) (fun _ _ _ => rfl)
    · have hsk : sk isSp T e k = k := sk_stop (by simpa using hsp)
      have hspf : isSp (T k) = false := by simpa using hsp
      cases N with
      | zero => cases hmk'
      | succ N =>
        unfold mdk at hmk'
        unfold mdV at hmV
        rw [hsk, lk_b hke'] at hmk' hmV
        cases due with
        | true =>
          rw [if_pos rfl] at hmk' hmV hF2
          by_cases h4 : T k = 40
          · -- a group begins
            rw [if_pos h4] at hmk' hmV
            rw [if_pos ⟨h4, by omega⟩]
            refine ⟨⟨by omega, by omega⟩, ⟨by omega, by omega⟩, ⟨by omega, by omega⟩, ⟨by omega, by omega⟩, ?_⟩
            rw [show Int.toNat ((tl.length + 1 + 1 : Nat) : Int) = tl.length + 1 + 1 from rfl]
            generalize hρ : pr (pf τ 2 2 ((k + 1 : Nat) : Int)) 142 (tl.length + 1 + 1) 0 = ρ
            have q1 : ρ.1 = (pf τ 2 2 ((k + 1 : Nat) : Int)).1 := by rw [← hρ]; rfl
            have q2 : ∀ q, q ≠ 142 → ρ.2 q = τ.2 q := fun q hq' => by rw [← hρ]; funext j; rw [pr_2, if_neg (fun z => hq' z.1)]; rfl
            have q3 : ∀ j, j ≠ tl.length + 1 + 1 → ρ.2 142 j = τ.2 142 j := fun j hj => by rw [← hρ, pr_2, if_neg (fun z => hj z.2)]; rfl
            have hbs : ∀ q l p, q ≠ 142 → bs ρ q l p = bs τ q l p := fun q l p hq' => by unfold bs; rw [q2 q hq']
            have hkeep : ∀ l' g, l' ≠ tl.length + 1 + 1 → MLv τ l' g → MLv ρ l' g := fun l' g hne' h => by
              refine ⟨by rw [q3 l' hne']; exact h.1, fun v hv => ⟨by rw [q2 141 (by decide)]; exact (h.2.1 v hv).1, fun p hp => ?_⟩, fun hs => by rw [q2 143 (by decide)]; exact h.2.2 hs⟩
              rw [hbs _ _ _ (by decide), hbs _ _ _ (by decide)]
              exact (h.2.1 v hv).2 p hp
            have hSr := SI_of hR.2.2.2 (σ' := ρ) (by rw [q1, pf_no (by decide)]) (by rw [q1, pf_no (by decide)]; have := hR.2.2.2.1; omega) (fun q h1 h2 => q2 q (by omega)) (fun i _ => by rw [q2 101 (by decide)])
            refine hK _ _ (Or.inr (Or.inl ⟨(0, none) :: (s, o) :: tl, true, k + 1, N, ns, _, t + 1, by rw [List.length_cons, List.length_cons], ⟨by simp, by rw [q1, pf_eq], hR.trans ⟨fun o' k' a _ _ => by rw [q1, pf_1, if_neg a], fun q a b => q2 q (by omega), hSr.2, hSr.1⟩⟩, ⟨by rw [hT]; exact hmk', by rw [hT]; exact hmV⟩, ⟨⟨⟨?_, fun v hv => (by cases hv), fun hs => absurd rfl hs⟩, MSk.keep hkeep (by rw [List.length_cons]; omega) hM⟩, by rw [q1, pf_no (by decide)]; exact h93, fun a ha b hb => ?_, fun i hi => Jn_row (by rw [q2 137 (by decide)]; exact hJN i hi) (by rw [q1, pf_no (by decide)]) (fun q h1 h2 => q2 q (by omega))⟩, ⟨⟨fun g hg v hv => ?_, ?_⟩, fun g hg v hv => ?_⟩, ?_, by omega, by omega, ?_⟩)) (hmes ρ (k + 1) (by rw [q1, pf_eq]) (by omega) (by omega))
            · rw [List.length_cons, ← hρ, pr_2, if_pos ⟨rfl, rfl⟩]; rfl
            · rw [hbs _ _ _ (by decide), hFW a ha b hb]; rfl
            · rcases List.mem_cons.mp hg with y | y
              · rw [y] at hv ⊢
                exact hF2 v hv
              · exact hF1 g y v hv
            · rw [if_pos rfl]
              intro v hv
              cases hv
            · rcases List.mem_cons.mp hg with y | y
              · rw [y] at hv; cases hv
              · exact hbel g y v hv
            · rw [List.length_cons, List.length_cons, List.length_map]
              split <;> omega
            · have : jw ρ = jw τ := by unfold jw; rw [q1, pf_no (by decide)]
              omega
          · -- a name
            rw [if_neg h4] at hmk' hmV
            cases hn : nmg T e true (some k) with
            | none => rw [hn] at hmk'; cases hmk'
            | some j =>
              rw [hn] at hmk' hmV
              dsimp only at hmk' hmV
              have hst := nmg_at hn
              rw [lk_b hke'] at hst
              have hjl := nmg_lt hn
              have hol := oft_le (T := T) hjl.2.2
              have hmono2 := mdk_mono N _ _ _ _ _ hmk'
              have hin2 := mdk_in hmk'
              have hx : T k ≠ 41 ∧ T k ≠ 124 ∧ T k ≠ 44 := ⟨fun y => by rw [y] at hst; exact absurd hst (by decide), fun y => by rw [y] at hst; exact absurd hst (by decide), fun y => by rw [y] at hst; exact absurd hst (by decide)⟩
              rw [if_neg (fun q => h4 q.1), if_neg (fun q => hx.1 q.1)]
              refine WJ_dir ?_
              rw [if_pos ⟨hx.2.1, hx.2.2⟩]
              refine sp_Reader_isSpace ?_
              rw [hspf, if_pos (by decide)]
              refine ⟨⟨by omega, by omega⟩, sp_Model_readOccurrence (F := fwu ((s, o) :: tl)) (by omega) hL h93 (by omega) hR.2.2.2 hsl hJT (by have := hR.2.2.1.2.1; omega) (by rw [e101]; exact hn) (by omega) hFW (hbel.fwu0) (fun y z => ?_) (fun ρ g1 g2 g3 g4 g5 g6 g7 g8 g9 g10 g11 => ?_)⟩
              · rw [e101] at y z
                have eo : oft T e j = j + 1 := by unfold oft; rw [if_pos (by omega)]
                rw [eo] at hin2
                exact hin2.2.2 rfl z
              · rw [e101] at g2 g5 g8 g9
                have hML1 : MLv ρ (tl.length + 1) (s, o) := g7 _ _ (by omega) hMl
                refine sp_Model_join (s := s) (o := o) (x := vof (hwf T e j) (vlf ns.length)) (F := fun a b => fwu ((s, o) :: tl) a b || (vof (hwf T e j) (vlf ns.length)).2.2.2 a b) (by omega) hL g3 (by omega) hML1 hF2 g8 (fun a ha b hb => ?_) (fun ρ2 c1 c2 c3 => ?_)
                · rw [g9 a ha b hb]; rfl
                · have hS2 := MCh.rd (L := L) (σ := ρ) (x := ρ.1 2 2) (by rw [pf_self rfl]; exact c1) g1.2.2.2
                  have p2 : ρ2.1 2 2 = ((oft T e j : Nat) : Int) := by rw [c1.1]; exact g2
                  refine ⟨⟨by omega, by omega⟩, hK _ _ (Or.inr (Or.inl ⟨(s, some (vj s o (vof (hwf T e j) (vlf ns.length)))) :: tl, false, oft T e j, N, ns ++ [sl T k (j - k)], d, t + 1, by rw [List.length_cons], ⟨by simp, p2, hR.trans (g1.trans hS2)⟩, ⟨by rw [hT, List.length_append, List.length_singleton]; exact hmk', by rw [hT]; exact hmV⟩, ⟨⟨c2, ?_⟩, by rw [c1.1, List.length_append, List.length_singleton]; exact g3, fun a ha b hb => ?_, fun i hi => ?_⟩, ⟨⟨hF1, by rw [if_neg (by decide)]; rfl⟩, fun g hg v hv => ?_⟩, hdl, by omega, by omega, ?_⟩)) (hmes ρ2 _ p2 (by omega) (by omega))⟩
                  · refine MSk.keep (l := tl.length + 1) (fun l' g hne' h => h.keep c1 hne') (by omega) ?_
                    refine MSk.keep (l := tl.length + 1 + 1) (fun l' g hne' h => g7 l' g hne' h) (by omega) hMt
                  · rw [List.length_append, List.length_singleton] at ha
                    exact (c3 a ha b hb).trans fwu_j.symm
                  · rw [List.length_append, List.length_singleton] at hi
                    have hrr : ρ2.2 137 = ρ.2 137 := c1.2.1 137 (by omega)
                    rw [hrr]
                    refine Jn_row (τ := ρ) ?_ (c1.1 1 14) (fun q h1 h2 => c1.2.1 q (by omega))
                    by_cases y : i < ns.length
                    · rw [g4 i (by omega), getD_app_l y]
                      exact (hJN i y).gr g1.2.2.1
                    · have ei : i = ns.length := by omega
                      have eg : (ns ++ [sl T k (j - k)]).getD i [] = sl T k (j - k) := by
                        rw [ei, List.getD_eq_getElem?_getD, List.getElem?_append_right (Nat.le_refl _), Nat.sub_self]; rfl
                      rw [eg, ei]
                      exact g5
                  · rw [List.length_append, List.length_singleton]
                    rcases List.mem_cons.mp hg with y | y
                    · rw [y] at hv
                      rw [← Option.some.inj hv]
                      exact belV.vj (fun v' hv' => (hbel (s, o) List.mem_cons_self v' hv').mono (Nat.le_succ _)) (belV.vof belV.vlf)
                    · exact (hbel g (List.mem_cons_of_mem _ y) v hv).mono (Nat.le_succ _)
                  · have : jw ρ2 = jw ρ := by unfold jw; rw [c1.1]
                    rw [List.length_append, List.length_singleton]
                    omega
        | false =>
          rw [if_neg (by decide)] at hmk' hmV hF2
          by_cases h4 : T k = 41
          · -- a group ends
            rw [if_pos h4] at hmk' hmV
            cases o with
            | none => cases hF2
            | some v =>
              dsimp only at hmV
              have hol := oft_le (T := T) (show k + 1 ≤ e by omega)
              obtain ⟨-, hMv, -⟩ := id hMl
              have hXv := hMv v rfl
              rw [if_neg (fun q => by omega), if_pos ⟨h4, by omega⟩]
              have hnx : lk T e (k + 1) = 43 → lk T e (k + 1 + 1) ≠ 63 := fun y z => by
                have eo : oft T e (k + 1) = k + 1 + 1 := by unfold oft; rw [if_pos (by omega)]
                rw [eo] at hmk'
                cases tl with
                | nil =>
                  cases N with
                  | zero => cases hmk'
                  | succ N =>
                    have h3 : some (k + 1 + 1, ns.length, d) = some r := hmk'
                    rw [← Option.some.inj h3] at hz
                    exact hz z
                | cons g u => exact (mdk_in hmk').2.2 rfl z
              refine ⟨⟨by omega, by omega⟩, sp_Model_readHowOften (x := v) (F := fwu ((s, some v) :: tl)) (by omega) hL (by rw [pf_no (by decide)]; exact h93) (by omega) (hJTx (k + 1) (by omega)) (by omega) (hXv.row rfl) hFW (by rw [pf_2, e101]; exact hnx) (fun ρ c1 c2 c3 c4 => ?_)⟩
              rw [pf_2, e101] at c1 c2 c4
              have hpp : pf (pf τ 2 2 ((k + 1 : Nat) : Int)) 2 2 ((oft T e (k + 1) : Nat) : Int) = pf τ 2 2 ((oft T e (k + 1) : Nat) : Int) := by
                refine Prod.ext (funext (fun o' => funext (fun k' => ?_))) rfl
                rw [pf_1]
                by_cases y : o' = 2 ∧ k' = 2
                · rw [if_pos y, pf_1, if_pos y]
                · rw [if_neg y, pf_1, if_neg y, pf_1, if_neg y]
              rw [hpp] at c1
              have hRr := MCh.rd c1 hR.2.2.2
              have p2 : ρ.1 2 2 = ((oft T e (k + 1) : Nat) : Int) := by rw [c1.1, pf_eq]
              have p9 : ρ.1 9 3 = (ns.length : Int) := by rw [c1.1, pf_no (by decide)]; exact h93
              have hkp : ∀ l' g, l' ≠ tl.length + 1 → MLv τ l' g → MLv ρ l' g := fun l' g hne' h => (h.row (τ := pf τ 2 2 ((oft T e (k + 1) : Nat) : Int)) rfl).keep c1 hne'
              have hMt2 : MSk ρ tl := MSk.keep hkp (by omega) hMt
              generalize hxx : vof (hwf T e (k + 1)) v = x at *
              have hxb : belV ns.length x := by rw [← hxx]; exact (hbel (s, some v) List.mem_cons_self v rfl).vof
              have hjr : jw ρ = jw τ := by unfold jw; rw [c1.1, pf_no (by decide)]
              refine ⟨⟨by omega, by omega⟩, ?_⟩
              cases tl with
              | nil =>
                -- the model ends
                have hml0 : MLv ρ 0 (0, none) := hMt2
                have hVN : some (x, ns) = some (V, NS) := hmV
                have hV1 : x = V := congrArg Prod.fst (Option.some.inj hVN)
                have hV2 : ns = NS := congrArg Prod.snd (Option.some.inj hVN)
                refine sp_Model_join (l := 0) (s := 0) (o := none) (x := x) (F := fun a b => x.2.2.2 a b) (by omega) hL p9 (by omega) hml0 (fun v' hv' => (by cases hv')) c2 (fun a ha b hb => ?_) (fun ρ2 d1 d2 d3 => ?_)
                · rw [c4 a ha b hb, ← hxx]
                  show ((v.2.2.2 a b || false) || (rpt (hwf T e (k + 1)) && (v.2.2.1 a && v.2.1 b))) = (v.2.2.2 a b || (rpt (hwf T e (k + 1)) && (v.2.2.1 a && v.2.1 b)))
                  rw [Bool.or_false]
                · have hS2 := MCh.rd (L := L) (σ := ρ) (x := ρ.1 2 2) (by rw [pf_self rfl]; exact d1) hRr.2.2.2
                  have h1421 : ρ2.2 142 0 = 1 := d2.1
                  rw [hV1] at d2 d3
                  rw [hV2] at hjw p9 d3 hJN
                  refine ⟨⟨by omega, by omega⟩, hK _ _ (Or.inr (Or.inr ⟨hR.trans (hRr.trans hS2), ⟨d2.2.1 V rfl, h1421, by rw [d1.1]; exact p9, fun a ha b hb => by rw [d3 a ha b hb, Bool.or_false], fun i hi => ?_⟩, ?_⟩)) (by rw [if_pos rfl, if_neg (by omega)]; omega)⟩
                  · rw [d1.2.1 137 (by omega), c1.2.1 137 (by omega)]
                    refine Jn_row (τ := ρ) ?_ (d1.1 1 14) (fun q h1 h2 => d1.2.1 q (by omega))
                    refine Jn_row (τ := pf τ 2 2 ((oft T e (k + 1) : Nat) : Int)) ?_ (c1.1 1 14) (fun q h1 h2 => c1.2.1 q (by omega))
                    exact Jn_row (hJN i hi) (by rw [pf_no (by decide)]) (fun _ _ _ => rfl)
                  · have : jw ρ2 = jw ρ := by unfold jw; rw [d1.1]
                    omega
              | cons g u =>
                obtain ⟨s', o'⟩ := g
                dsimp only at hmV
                rw [List.length_cons] at *
                have hF2' : ∀ v', o' = some v' → s' ≠ 0 := fun v' hv' => hF1 (s', o') List.mem_cons_self v' hv'
                have hfw0 : ∀ a b, (fwu ((s, some v) :: (s', o') :: u) a b || (rpt (hwf T e (k + 1)) && (v.2.2.1 a && v.2.1 b))) = (fwu ((s', o') :: u) a b || x.2.2.2 a b) := fun a b => by
                  rw [fwu_c, ← hxx]
                  show ((v.2.2.2 a b || fwu ((s', o') :: u) a b) || (rpt (hwf T e (k + 1)) && (v.2.2.1 a && v.2.1 b))) = (fwu ((s', o') :: u) a b || (v.2.2.2 a b || (rpt (hwf T e (k + 1)) && (v.2.2.1 a && v.2.1 b))))
                  cases v.2.2.2 a b <;> cases fwu ((s', o') :: u) a b <;> simp
                refine sp_Model_join (l := u.length + 1) (s := s') (o := o') (x := x) (F := fun a b => fwu ((s', o') :: u) a b || x.2.2.2 a b) (by omega) hL p9 (by omega) hMt2.1 hF2' c2 (fun a ha b hb => by rw [c4 a ha b hb]; exact hfw0 a b) (fun ρ2 d1 d2 d3 => ?_)
                have hS2 := MCh.rd (L := L) (σ := ρ) (x := ρ.1 2 2) (by rw [pf_self rfl]; exact d1) hRr.2.2.2
                have p22 : ρ2.1 2 2 = ((oft T e (k + 1) : Nat) : Int) := by rw [d1.1]; exact p2
                refine ⟨⟨by omega, by omega⟩, hK _ _ (Or.inr (Or.inl ⟨(s', some (vj s' o' x)) :: u, false, oft T e (k + 1), N, ns, d, t + 1, by rw [List.length_cons], ⟨by simp, p22, hR.trans (hRr.trans hS2)⟩, ⟨by rw [hT]; exact hmk', by rw [hT]; exact hmV⟩, ⟨⟨d2, MSk.keep (l := u.length + 1) (fun l' g hne' h => h.keep d1 hne') (by omega) hMt2.2⟩, by rw [d1.1]; exact p9, fun a ha b hb => (d3 a ha b hb).trans fwu_j.symm, fun i hi => ?_⟩, ⟨⟨fun g hg => hF1 g (List.mem_cons_of_mem _ hg), by rw [if_neg (by decide)]; rfl⟩, fun g hg v' hv' => ?_⟩, by rw [List.length_cons]; omega, by omega, by omega, ?_⟩)) (hmes ρ2 _ p22 (by omega) (by omega))⟩
                · rw [d1.2.1 137 (by omega), c1.2.1 137 (by omega)]
                  refine Jn_row (τ := ρ) ?_ (d1.1 1 14) (fun q h1 h2 => d1.2.1 q (by omega))
                  refine Jn_row (τ := pf τ 2 2 ((oft T e (k + 1) : Nat) : Int)) ?_ (c1.1 1 14) (fun q h1 h2 => c1.2.1 q (by omega))
                  exact Jn_row (hJN i hi) (by rw [pf_no (by decide)]) (fun _ _ _ => rfl)
                · rcases List.mem_cons.mp hg with y | y
                  · rw [y] at hv'
                    rw [← Option.some.inj hv']
                    exact belV.vj (fun v'' hv'' => hbel (s', o') (by simp) v'' hv'') hxb
                  · exact hbel g (by simp [y]) v' hv'
                · have : jw ρ2 = jw ρ := by unfold jw; rw [d1.1]
                  omega
          · -- what stands between
            rw [if_neg h4] at hmk' hmV
            by_cases h5 : (T k = 124 ∨ T k = 44) ∧ (s = 0 ∨ s = T k)
            · rw [if_pos h5] at hmk' hmV
              rw [if_neg (fun q => by omega), if_neg (fun q => by omega)]
              refine WJ_dir ?_
              rw [if_neg (fun q => by omega)]
              dsimp only
              rw [hk2, show ((k : Int) + 1) = ((k + 1 : Nat) : Int) by omega]
              refine ⟨⟨by omega, by omega⟩, sp_Reader_isSpace ?_⟩
              rw [hspf, show Int.toNat ((tl.length + 1 : Nat) : Int) = tl.length + 1 from rfl]
              refine ⟨fun _ => ⟨by omega, by omega⟩, ⟨by omega, by omega⟩, ⟨by omega, by omega⟩, ?_⟩
              rw [if_pos (by decide)]
              generalize hρ : pr (pf τ 2 2 ((k + 1 : Nat) : Int)) 143 (tl.length + 1) (T k) = ρ
              have q1 : ρ.1 = (pf τ 2 2 ((k + 1 : Nat) : Int)).1 := by rw [← hρ]; rfl
              have q2 : ∀ q, q ≠ 143 → ρ.2 q = τ.2 q := fun q hq' => by rw [← hρ]; funext j; rw [pr_2, if_neg (fun z => hq' z.1)]; rfl
              have hbs : ∀ q l p, q ≠ 143 → bs ρ q l p = bs τ q l p := fun q l p hq' => by unfold bs; rw [q2 q hq']
              have hxk : ∀ l' v', MXl τ l' v' → MXl ρ l' v' := fun l' v' h => ⟨by rw [q2 141 (by decide)]; exact h.1, fun p hp => by rw [hbs _ _ _ (by decide), hbs _ _ _ (by decide)]; exact h.2 p hp⟩
              have hkeep : ∀ l' g, l' ≠ tl.length + 1 → MLv τ l' g → MLv ρ l' g := fun l' g hne' h => by
                refine ⟨by rw [q2 142 (by decide)]; exact h.1, fun v hv => hxk l' v (h.2.1 v hv), fun hs => ?_⟩
                rw [← hρ, pr_2, if_neg (fun z => hne' z.2)]
                exact h.2.2 hs
              have hSr := SI_of hR.2.2.2 (σ' := ρ) (by rw [q1, pf_no (by decide)]) (by rw [q1, pf_no (by decide)]; have := hR.2.2.2.1; omega) (fun q h1 h2 => q2 q (by omega)) (fun i _ => by rw [q2 101 (by decide)])
              refine hK _ _ (Or.inr (Or.inl ⟨(T k, o) :: tl, true, k + 1, N, ns, d, t + 1, by rw [List.length_cons], ⟨by simp, by rw [q1, pf_eq], hR.trans ⟨fun o' k' a _ _ => by rw [q1, pf_1, if_neg a], fun q a b => q2 q (by omega), hSr.2, hSr.1⟩⟩, ⟨by rw [hT]; exact hmk', by rw [hT]; exact hmV⟩, ⟨⟨⟨by rw [q2 142 (by decide)]; exact hMl.1, fun v hv => hxk _ v (hMl.2.1 v hv), fun _ => ?_⟩, MSk.keep hkeep (by omega) hMt⟩, by rw [q1, pf_no (by decide)]; exact h93, fun a ha b hb => ?_, fun i hi => Jn_row (by rw [q2 137 (by decide)]; exact hJN i hi) (by rw [q1, pf_no (by decide)]) (fun q h1 h2 => q2 q (by omega))⟩, ⟨⟨hF1, ?_⟩, fun g hg v hv => ?_⟩, by rw [List.length_cons]; exact hdl, by omega, by omega, ?_⟩)) (hmes ρ (k + 1) (by rw [q1, pf_eq]) (by omega) (by omega))
              · rw [← hρ, pr_2, if_pos ⟨rfl, rfl⟩]
              · rw [hbs _ _ _ (by decide), hFW a ha b hb]; rfl
              · rw [if_pos rfl]
                intro v _
                show T k ≠ 0
                omega
              · rcases List.mem_cons.mp hg with y | y
                · rw [y] at hv
                  exact hbel (s, o) List.mem_cons_self v hv
                · exact hbel g (List.mem_cons_of_mem _ y) v hv
              · have : jw ρ = jw τ := by unfold jw; rw [q1, pf_no (by decide)]
                omega
            · rw [if_neg h5] at hmk'
              cases hmk'
  · refine ⟨fun _ => ⟨by omega, by omega⟩, ?_⟩
    have h1 : τ.2 142 0 = 1 := hD.2.1
    rw [show Int.toNat 0 = 0 from rfl, if_neg (fun q => by have := q.2.1; omega)]
    exact hq τ hR hD hw
/-- what reading a model changes, from the call on -/
def MRx (L : Nat → Nat) (σ σ' : IS) : Prop := (∀ o k, ¬ (o = 2 ∧ (k = 2 ∨ k = 3)) → ¬ (o = 1 ∧ (k = 13 ∨ k = 14)) → ¬ (o = 9 ∧ (k = 3 ∨ k = 12)) → σ'.1 o k = σ.1 o k) ∧ (∀ r, ¬ (102 ≤ r ∧ r ≤ 106) → ¬ (137 ≤ r ∧ r ≤ 145) → σ'.2 r = σ.2 r) ∧ sgr σ σ' ∧ SI L σ'
theorem sp_Model_read {Q : IS → Prop} {src e : Nat} {V : MVl} {NS : List Str} {r : Nat × Nat × Nat} (hL : MLn L) (hsl : SL L) (hS : SI L σ) (he : e = jtp σ) {N : Nat} (hse : src < e) (h40' : σ.2 101 src = 40) (hm : mdk (σ.2 101) e N [0] true (src + 1) 0 1 = some r) (hnn : r.2.1 ≤ 255) (hdd : r.2.2 ≤ 60) (hz : lk (σ.2 101) e r.1 ≠ 63) (hcap : jw σ + r.2.1 ≤ L 102) (hV : mdV (σ.2 101) e N [(0, none)] true (src + 1) [] = some (V, NS)) (hq : ∀ τ, MRx L σ τ → MDn τ V NS → jw τ ≤ jw σ + NS.length → Q τ) : w_Model_read L (src : Int) Q σ := by
  have l101 : L 101 < 1000000 := hsl.2.2.2.2.2.2.2
  have ht := hS.jtp_le
  have m2 : L 142 = 64 := hL.2.2.2.2.2.1
  unfold w_Model_read
  rw [show Int.toNat 0 = 0 from rfl]
  refine ⟨⟨by omega, by omega⟩, ?_⟩
  generalize hσ0 : pr (pf (pf (pf σ 2 2 (src : Int)) 2 3 (σ.1 1 3)) 9 3 0) 142 0 0 = σ0
  have f1 : ∀ o k, σ0.1 o k = if o = 9 ∧ k = 3 then 0 else if o = 2 ∧ k = 3 then σ.1 1 3 else if o = 2 ∧ k = 2 then (src : Int) else σ.1 o k := fun o k => by
    rw [← hσ0]
    show (pf (pf (pf σ 2 2 (src : Int)) 2 3 (σ.1 1 3)) 9 3 0).1 o k = _
    rw [pf_1, pf_1, pf_1]
  have r1 : ∀ r, r ≠ 142 → σ0.2 r = σ.2 r := fun r hr => by rw [← hσ0]; funext j; rw [pr_2, if_neg (fun z => hr z.1)]; rfl
  have e101 : σ0.2 101 = σ.2 101 := r1 101 (by decide)
  have hS0 := SI_of hS (σ' := σ0) (by rw [f1, if_neg (by omega), if_neg (by omega), if_neg (by omega)]) (by rw [f1, if_neg (by omega), if_neg (by omega), if_neg (by omega)]; have := hS.1; omega) (fun q h1 h2 => r1 q (by omega)) (fun i _ => by rw [e101])
  have j1 : jw σ0 = jw σ := by unfold jw; rw [f1, if_neg (by omega), if_neg (by omega), if_neg (by omega)]
  have j2 : jtp σ0 = jtp σ := by unfold jtp; rw [f1, if_neg (by omega), if_neg (by omega), if_neg (by omega)]
  refine md_loop (V := V) (NS := NS) (r := r) hL hsl (by rw [f1, if_neg (by omega), if_pos ⟨rfl, rfl⟩]; omega) (by omega) (by omega) hnn hdd (by rw [e101]; exact hz) (by rw [j1]; exact hcap) (fun τ h1 h2 h3 => ?_) hS0.1 (by rw [f1, if_neg (by omega), if_neg (by omega), if_pos ⟨rfl, rfl⟩]) (by rw [e101]; exact h40') hse (by rw [← hσ0, pr_2, if_pos ⟨rfl, rfl⟩]) (by rw [f1, if_pos ⟨rfl, rfl⟩]) (by rw [e101]; exact hm) (by rw [e101]; exact hV)
  refine hq τ ⟨fun o k a b c => ?_, fun q a b => ?_, hS0.2.trans h1.2.2.1, h1.2.2.2⟩ h2 (by omega)
  · rw [h1.1 o k (by omega) b (by omega), f1, if_neg (by omega), if_neg (by omega), if_neg (by omega)]
  · rw [h1.2.1 q a (by omega)]
    exact r1 q (by omega)
end Mrd
