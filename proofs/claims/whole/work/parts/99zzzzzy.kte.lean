/-! ===== the reference's trees: what may be left out, come first, come behind ===== -/
/-- the node of the first of parts -/
def khd (n0 : Nat) : List Nat → Int
  | [] => -1
  | d :: _ => ((n0 + d : Nat) : Int)
/-- some of the names marked in a row -/
def ENT (σ τ : IS) (A : Nat → Bool) : Prop := τ.1 = σ.1 ∧ (∀ r, r ≠ 174 → τ.2 r = σ.2 r) ∧ ∀ q, τ.2 174 q = if A q = true then 1 else σ.2 174 q
section Kte
variable {L : Nat → Nat} {σ τ ρ : IS} {t : List KNd} {G : Nat → KGv} {W : MVl} {NS : List Str} {bk : List Str} {n0 : Nat} {A B : Nat → Bool}
theorem ENT.refl : ENT σ σ (fun _ => false) := ⟨rfl, fun _ _ => rfl, fun q => by show _ = if false = true then (1 : Int) else σ.2 174 q; rw [if_neg Bool.false_ne_true]⟩
theorem ENT.trans (h1 : ENT σ τ A) (h2 : ENT τ ρ B) : ENT σ ρ (fun q => A q || B q) := ⟨h2.1.trans h1.1, fun r z => (h2.2.1 r z).trans (h1.2.1 r z), fun q => by
  rw [h2.2.2, h1.2.2]
  show _ = if (A q || B q) = true then (1 : Int) else σ.2 174 q
  cases A q <;> cases B q <;> rfl⟩
theorem ENT.cg (h : ENT σ τ A) (he : ∀ q, A q = B q) : ENT σ τ B := ⟨h.1, h.2.1, fun q => by rw [h.2.2, he]⟩
theorem KTr.rows (h : KTr σ bk n0 t) (hr : ∀ r, 193 ≤ r → r ≤ 198 → τ.2 r = σ.2 r) : KTr τ bk n0 t := fun j hj => by
  rw [hr 193 (by omega) (by omega), hr 194 (by omega) (by omega), hr 195 (by omega) (by omega), hr 196 (by omega) (by omega), hr 197 (by omega) (by omega), hr 198 (by omega) (by omega)]
  exact h j hj
theorem KTr.ent (h : KTr σ bk n0 t) (he : ENT σ τ A) : KTr τ bk n0 t := h.rows (fun r x y => he.2.1 r (by omega))
theorem ksh_hd {c : Int} {l : List Nat} {S : Nat → Int} (h : chn S c l) : ksh n0 c = khd n0 l := by
  cases l with
  | nil =>
    have : c = -1 := h
    rw [this]
    rfl
  | cons d l =>
    rw [h.1]
    unfold ksh
    rw [if_neg (by omega)]
    show (d : Int) + (n0 : Int) = ((n0 + d : Nat) : Int)
    omega
theorem khd_neg {l : List Nat} : khd n0 l < 0 ↔ l = [] := by
  cases l with
  | nil => exact ⟨fun _ => rfl, fun _ => by show (-1 : Int) < 0; decide⟩
  | cons d l => exact ⟨fun z => absurd z (by show ¬ ((n0 + d : Nat) : Int) < 0; omega), fun z => by cases z⟩
set_option maxHeartbeats 1000000 in
theorem sp_K_isNullable (hL9 : ∀ r, 193 ≤ r → r ≤ 198 → L r = 50000) (hT : TFk t G W NS) (hn : n0 + t.length ≤ 50000) : ∀ (f p : Nat) (ρ : IS) (Q : Int → IS → Prop), KTr ρ bk n0 t → p < t.length → 60 < f + gdp (G p) → Q (b1 (gvl (G p)).1) ρ → w_KReader_isNullable L f ((n0 + p : Nat) : Int) Q ρ := by
  have l193 := hL9 193 (by omega) (by omega)
  have l194 := hL9 194 (by omega) (by omega)
  have l196 := hL9 196 (by omega) (by omega)
  have l197 := hL9 197 (by omega) (by omega)
  intro f
  induction f with
  | zero =>
    intro p ρ Q hR hp hf hq
    have := (hT.1 p hp).2.2.2.2
    omega
  | succ f ih =>
    intro p ρ Q hR hp hf hq
    obtain ⟨a1, a2, a3, a4, a5⟩ := hT.1 p hp
    obtain ⟨r1, r2, r3, r4, r5, r6⟩ := hR p hp
    have r1 : ρ.2 193 (n0 + p) = kK t p := r1
    have r2 : ρ.2 194 (n0 + p) = kO t p := r2
    unfold w_KReader_isNullable
    rw [show Int.toNat ((n0 + p : Nat) : Int) = n0 + p from rfl, r2, r1]
    refine ⟨⟨by omega, by omega⟩, fun _ => ⟨by omega, by omega⟩, ?_⟩
    by_cases co : opt (kO t p) = true
    · have hv : (gvl (G p)).1 = true := by
        by_cases c : kK t p = 0
        · rw [(a1 c).2.2.1]
          show (opt (kO t p) || _) = true
          rw [co]; rfl
        · obtain ⟨-, -, -, s, -, b5⟩ := a2 c
          cases hf' : fo s G (gch (G p)) with
          | none => rw [hf'] at b5; cases b5
          | some u =>
            rw [hf'] at b5
            have hv : vof (kO t p) u = gvl (G p) := Option.some.inj b5
            rw [← hv]
            show (opt (kO t p) || _) = true
            rw [co]; rfl
      rw [hv] at hq
      rw [if_neg (fun z => ?_)]
      · exact hq
      · unfold opt at co
        rw [Bool.or_eq_true, beq_iff_eq, beq_iff_eq] at co
        exact co.elim z.1 z.2
    · have cof : opt (kO t p) = false := by simpa using co
      have hne : ¬ kO t p = 63 ∧ ¬ kO t p = 42 := by
        unfold opt at cof
        rw [Bool.or_eq_false_iff, beq_eq_false_iff_ne, beq_eq_false_iff_ne] at cof
        exact cof
      rw [if_pos hne]
      refine ⟨⟨by omega, by omega⟩, ?_⟩
      by_cases c : kK t p = 0
      · rw [if_pos c]
        have hv : (gvl (G p)).1 = false := by
          rw [(a1 c).2.2.1]
          show (opt (kO t p) || false) = false
          rw [cof]; rfl
        rw [hv] at hq
        exact hq
      · obtain ⟨b1', b2, b3, s, b4, b5⟩ := a2 c
        have hC : ρ.2 196 (n0 + p) = ksh n0 (kC t p) := r4 c
        rw [if_neg c, hC, ksh_hd b2]
        cases hf' : fo s G (gch (G p)) with
        | none => rw [hf'] at b5; cases b5
        | some u =>
          rw [hf'] at b5
          have hv : vof (kO t p) u = gvl (G p) := Option.some.inj b5
          have hv1 : (gvl (G p)).1 = if s = 124 then (gch (G p)).any (fun c => (gvl (G c)).1) else (gch (G p)).all (fun c => (gvl (G c)).1) := by
            rw [← hv]
            show (opt (kO t p) || u.1) = _
            rw [cof, fo_nul hf']; rfl
          refine ⟨⟨by omega, by omega⟩, ?_⟩
          refine WL_ind2 (fun n s5 υ => υ = ρ ∧ ∃ l1 l2 cc, n = l2.length ∧ gch (G p) = l1 ++ l2 ∧ chn (kS t) cc l2 ∧ s5 = (b1 (l1.all (fun c => (gvl (G c)).1)), b1 (l1.any (fun c => (gvl (G c)).1)), khd n0 l2)) ?_ (gch (G p)).length _ ρ ⟨rfl, [], gch (G p), kC t p, rfl, rfl, b2, rfl⟩
          rintro n s5 υ ⟨rfl, l1, l2, cc, rfl, hl, hc, rfl⟩ K hI
          try dsimp only
          cases l2 with
          | nil =>
            rw [if_pos (khd_neg.mpr rfl), r1, b4]
            rw [List.append_nil] at hl
            rw [hv1, hl] at hq
            by_cases cs : s = 124
            · rw [if_pos cs] at hq
              rw [if_pos cs, if_neg (by decide)]
              exact ⟨⟨by omega, by omega⟩, is01_b, hq⟩
            · rw [if_neg cs] at hq
              rw [if_neg cs, if_pos rfl]
              exact ⟨⟨by omega, by omega⟩, is01_b, hq⟩
          | cons d l2 =>
            rw [if_neg (fun z => by have := khd_neg.mp z; cases this)]
            have hd : d ∈ gch (G p) := by rw [hl]; exact List.mem_append_right _ List.mem_cons_self
            obtain ⟨d1, d2, d3, d4⟩ := a3 d hd
            have hkd : khd n0 (d :: l2) = ((n0 + d : Nat) : Int) := rfl
            rw [hkd]
            refine ih d υ _ hR d3 (by omega) ?_
            have hS : υ.2 197 (n0 + d) = ksh n0 (kS t d) := (hR d d3).2.2.2.2.1
            rw [show Int.toNat ((n0 + d : Nat) : Int) = n0 + d from rfl, hS, ksh_hd hc.2]
            refine ⟨⟨by omega, by omega⟩, hI _ _ _ ⟨rfl, l1 ++ [d], l2, _, rfl, by rw [hl, List.append_assoc]; rfl, hc.2, ?_⟩ (by rw [List.length_cons]; omega)⟩
            rw [List.all_append, List.any_append]
            cases l1.all (fun c => (gvl (G c)).1) <;> cases l1.any (fun c => (gvl (G c)).1) <;> cases hx : (gvl (G d)).1 <;> simp [hx, b1]
set_option maxHeartbeats 1000000 in
theorem sp_K_enter (hL9 : ∀ r, 193 ≤ r → r ≤ 198 → L r = 50000) (h174 : L 174 = 256) (hT : TFk t G W NS) (hn : n0 + t.length ≤ 50000) (hns : NS.length ≤ 256) : ∀ (f p : Nat) (ρ : IS) (Q : IS → Prop), KTr ρ bk n0 t → p < t.length → 60 < f + gdp (G p) → (∀ υ, ENT ρ υ (gvl (G p)).2.1 → Q υ) → w_KReader_enter L f ((n0 + p : Nat) : Int) Q ρ := by
  have l193 := hL9 193 (by omega) (by omega)
  have l196 := hL9 196 (by omega) (by omega)
  have l197 := hL9 197 (by omega) (by omega)
  intro f
  induction f with
  | zero =>
    intro p ρ Q hR hp hf hq
    have := (hT.1 p hp).2.2.2.2
    omega
  | succ f ih =>
    intro p ρ Q hR hp hf hq
    obtain ⟨a1, a2, a3, a4, a5⟩ := hT.1 p hp
    obtain ⟨r1, r2, r3, r4, r5, r6⟩ := hR p hp
    have r1 : ρ.2 193 (n0 + p) = kK t p := r1
    unfold w_KReader_enter
    rw [show Int.toNat ((n0 + p : Nat) : Int) = n0 + p from rfl, r1]
    refine ⟨⟨by omega, by omega⟩, ?_⟩
    by_cases c : kK t p = 0
    · rw [if_pos c]
      have hC : ρ.2 196 (n0 + p) = kC t p := (r3 c).2
      have hlt := hT.2.2.2.2.1.lt hp c
      have hcl := (hT.2.2.2.2.1.1 p hp c).1
      obtain ⟨e1, e2, e3, -⟩ := a1 c
      have hg : lcn (kK t) p = glo (G p) := by omega
      rw [hC, e1, show Int.toNat (glo (G p) : Int) = glo (G p) from rfl]
      refine ⟨⟨by omega, by omega⟩, ⟨by omega, by omega⟩, hq _ ⟨pr_1, fun r z => ?_, fun q => ?_⟩⟩
      · funext j; rw [pr_2, if_neg (fun y => z y.1)]
      · rw [pr_2, e3]
        show _ = if (q == glo (G p)) = true then 1 else ρ.2 174 q
        by_cases cq : q = glo (G p)
        · rw [if_pos ⟨rfl, cq⟩, if_pos (by simpa using cq)]
        · rw [if_neg (fun y => cq y.2), if_neg (by simpa using cq)]
    · obtain ⟨b1', b2, b3, s, b4, b5⟩ := a2 c
      have hC : ρ.2 196 (n0 + p) = ksh n0 (kC t p) := r4 c
      rw [if_neg c, hC, ksh_hd b2]
      cases hf' : fo s G (gch (G p)) with
      | none => rw [hf'] at b5; cases b5
      | some u =>
        rw [hf'] at b5
        have hv : vof (kO t p) u = gvl (G p) := Option.some.inj b5
        have hv1 : ∀ q, (gvl (G p)).2.1 q = fso s G (gch (G p)) q := fun q => by
          rw [← hv]
          show u.2.1 q = _
          exact fo_fst hf'
        refine ⟨⟨by omega, by omega⟩, ?_⟩
        refine WL_ind2 (fun n s4 υ => ∃ (A : Nat → Bool) (on : Bool) (l1 l2 : List Nat) (cc : Int), n = l2.length ∧ ENT ρ υ A ∧ gch (G p) = l1 ++ l2 ∧ chn (kS t) cc l2 ∧ s4 = (b1 on, khd n0 l2) ∧ ∀ q, fso s G (gch (G p)) q = (A q || (on && fso s G l2 q))) ?_ (gch (G p)).length _ ρ ⟨fun _ => false, true, [], gch (G p), kC t p, rfl, ENT.refl, rfl, b2, rfl, fun q => rfl⟩
        rintro n s4 υ ⟨A, on, l1, l2, cc, rfl, hE, hl, hc, rfl, hA⟩ K hI
        try dsimp only
        have fin_ : (on && false) = false → (on = false ∨ l2 = []) → Q υ := fun _ z => by
          refine hq υ (hE.cg (fun q => ?_))
          rw [hv1, hA]
          rcases z with z | z
          · rw [z]; simp
          · rw [z]; show A q = (A q || (on && false)); simp
        cases l2 with
        | nil =>
          rw [if_neg (fun z => z.1 (khd_neg.mpr rfl))]
          exact fin_ (by simp) (Or.inr rfl)
        | cons d l2 =>
          cases on with
          | false =>
            rw [if_neg (fun z => z.2 rfl)]
            exact fin_ rfl (Or.inl rfl)
          | true =>
            rw [if_pos ⟨fun z => (by have := khd_neg.mp z; cases this), by decide⟩]
            have hd : d ∈ gch (G p) := by rw [hl]; exact List.mem_append_right _ List.mem_cons_self
            obtain ⟨d1, d2, d3, d4⟩ := a3 d hd
            have hkd : khd n0 (d :: l2) = ((n0 + d : Nat) : Int) := rfl
            rw [hkd]
            have hRu := hR.ent hE
            refine ih d υ _ hRu d3 (by omega) (fun υ2 hE2 => ?_)
            have hRu2 := hRu.ent hE2
            have hE3 := hE.trans hE2
            have k1 : υ2.2 193 (n0 + p) = kK t p := (hRu2 p hp).1
            have hS : υ2.2 197 (n0 + d) = ksh n0 (kS t d) := (hRu2 d d3).2.2.2.2.1
            rw [k1, b4]
            refine ⟨⟨by omega, by omega⟩, ?_⟩
            -- the next, whether it is gone through or not
            have nxt : ∀ on' : Bool, on' = (s == 124 || (gvl (G d)).1) → inL L 197 ((n0 + d : Nat) : Int) ∧ K (b1 on', υ2.2 197 (Int.toNat ((n0 + d : Nat) : Int))) υ2 := fun on' ho => by
              rw [show Int.toNat ((n0 + d : Nat) : Int) = n0 + d from rfl, hS, ksh_hd hc.2]
              refine ⟨⟨by omega, by omega⟩, hI _ _ _ ⟨_, on', l1 ++ [d], l2, _, rfl, hE3, by rw [hl, List.append_assoc]; rfl, hc.2, rfl, fun q => ?_⟩ (by rw [List.length_cons]; omega)⟩
              rw [hA, ho]
              show (A q || (true && ((gvl (G d)).2.1 q || ((s == 124 || (gvl (G d)).1) && fso s G l2 q)))) = ((A q || (gvl (G d)).2.1 q) || ((s == 124 || (gvl (G d)).1) && fso s G l2 q))
              cases A q <;> cases (gvl (G d)).2.1 q <;> rfl
            refine WJ_dir ?_
            refine WJ_dir ?_
            by_cases cs : s = 124
            · rw [if_pos cs, if_pos rfl]
              exact nxt true (by rw [cs]; rfl)
            · rw [if_neg cs, if_neg (by decide)]
              refine sp_K_isNullable hL9 hT hn f d υ2 _ hRu2 d3 (by omega) ?_
              have csb : (s == 124) = false := by simpa using cs
              cases hx : (gvl (G d)).1 with
              | true =>
                rw [if_neg (by decide)]
                exact nxt true (by rw [csb, hx]; rfl)
              | false =>
                rw [if_pos (by decide)]
                exact nxt false (by rw [csb, hx]; rfl)
end Kte
