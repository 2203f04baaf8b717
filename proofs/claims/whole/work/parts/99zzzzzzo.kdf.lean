/-! ===== the reference: a definition of an attribute is read ===== -/
/-- the names that a type keeps, if one begins at all -/
def tyWo (T : Nat → Int) (e : Nat) (q : Option Nat) : List Str := match q with
  | none => []
  | some i => tyW T e i
section Kdf
variable {L : Nat → Nat} {rm nd o : Nat} {σ ρ τ : IS} {g g' g2 : KG} {Q : IS → Prop} {R : Int → IS → Prop} {T : Nat → Int} {p e : Nat} {x y : Int} {l : List Str}
theorem wo_ti {m : Nat} (h : m < 8) : ti (wo (m : Int)) = tyT.getD m [] := by
  have h8 : m = 0 ∨ m = 1 ∨ m = 2 ∨ m = 3 ∨ m = 4 ∨ m = 5 ∨ m = 6 ∨ m = 7 := by omega
  rcases h8 with z | z | z | z | z | z | z | z
  · rw [z, show wo ((0 : Nat) : Int) = 1133 by decide, ti_1133]; rfl
  · rw [z, show wo ((1 : Nat) : Int) = 1134 by decide, ti_1134]; rfl
  · rw [z, show wo ((2 : Nat) : Int) = 1135 by decide, ti_1135]; rfl
  · rw [z, show wo ((3 : Nat) : Int) = 1136 by decide, ti_1136]; rfl
  · rw [z, show wo ((4 : Nat) : Int) = 1137 by decide, ti_1137]; rfl
  · rw [z, show wo ((5 : Nat) : Int) = 1138 by decide, ti_1138]; rfl
  · rw [z, show wo ((6 : Nat) : Int) = 1139 by decide, ti_1139]; rfl
  · rw [z, show wo ((7 : Nat) : Int) = 1140 by decide, ti_1140]; rfl
set_option maxHeartbeats 2000000 in
theorem sp_K_typeAt {b : Nat} (q : Option Nat) (hL : KLn L o rm nd) (h : KZ rm nd o σ g) (hq0 : KLq σ (gB g) b l) (hK : KT L σ (p + e)) (hS : SHT T (σ.2 176) e p) (hx : x = enc (mvo p q)) (hqe : ple e q) (hroom : b + l.length + (tyWo T e q).length ≤ 50000) (hcap : kcL (gB g) (tyWo T e q)) (hq : ∀ τ g2, KZ rm nd o τ g2 → gB g2 = kpL (gB g) (tyWo T e q) → g2.2 = g.2 → KLq τ (gB g2) b (l ++ tyWo T e q) → (∀ p k, ¬ ((p = 13 ∧ (k = 1 ∨ k = 6)) ∨ (p = 16 ∧ (k = 58 ∨ k = 78 ∨ k = 79))) → τ.1 p k = σ.1 p k) → (∀ r, ¬ (211 ≤ r ∧ r ≤ 215) → r ≠ 207 → τ.2 r = σ.2 r) → (∀ i, i < b + l.length → τ.2 207 i = σ.2 207 i) → τ.1 16 79 = ((b + l.length : Nat) : Int) → (∀ i, q = some i → τ.1 16 78 = (tyC T e i : Int)) → R (enc (mvo p (q.bind (tyK T e)))) τ) : w_KReader_typeAt L x R σ := by
  subst hx
  have ho := hL.2.1
  have r1 := rf_1 ho
  have h58 := hq0.1
  unfold w_KReader_typeAt
  rw [h58]
  have F0 : ∀ pp kk, ¬ (pp = 16 ∧ kk = 79) → (pf σ 16 79 ((b + l.length : Nat) : Int)).1 pp kk = σ.1 pp kk := fun pp kk z => by rw [pf_1, if_neg z]
  have F9 : (pf σ 16 79 ((b + l.length : Nat) : Int)).1 16 79 = ((b + l.length : Nat) : Int) := pf_eq
  have R0 : (pf σ 16 79 ((b + l.length : Nat) : Int)).2 = σ.2 := rfl
  generalize pf σ 16 79 ((b + l.length : Nat) : Int) = σ0 at *
  have hZ0 : KZ rm nd o σ0 g := h.dep ho (fun pp kk z => F0 pp kk (by omega)) (fun r z => by rw [R0])
  have hK0 : KT L σ0 (p + e) := by unfold KT; rw [F0 16 17 (by omega)]; exact hK
  have hS0 : SHT T (σ0.2 176) e p := by rw [R0]; exact hS
  have hq1 : KLq σ0 (gB g) b l := ⟨by rw [F0 16 58 (by omega)]; exact hq0.1, fun k hk => by rw [R0]; exact hq0.2 k hk⟩
  cases q with
  | none =>
    rw [if_pos (show enc (mvo p none) < 0 from (by show (-1 : Int) < 0; decide))]
    exact hq σ0 g hZ0 rfl rfl (by show KLq σ0 (gB g) b (l ++ []); rw [List.append_nil]; exact hq1) (fun pp kk z => F0 pp kk (by omega)) (fun r _ _ => by rw [R0]) (fun i _ => by rw [R0]) F9 (fun i hi => by cases hi)
  | some i =>
  have hie := hqe i rfl
  rw [if_neg (show ¬ enc (mvo p (some i)) < 0 from (by show ¬ ((p + i : Nat) : Int) < 0; omega))]
  refine kr_look hK0 hS0 i rfl ?_
  have hq : ∀ τ g2, KZ rm nd o τ g2 → gB g2 = kpL (gB g) (tyW T e i) → g2.2 = g.2 → KLq τ (gB g2) b (l ++ tyW T e i) → (∀ p k, ¬ ((p = 13 ∧ (k = 1 ∨ k = 6)) ∨ (p = 16 ∧ (k = 58 ∨ k = 78 ∨ k = 79))) → τ.1 p k = σ.1 p k) → (∀ r, ¬ (211 ≤ r ∧ r ≤ 215) → r ≠ 207 → τ.2 r = σ.2 r) → (∀ i, i < b + l.length → τ.2 207 i = σ.2 207 i) → τ.1 16 79 = ((b + l.length : Nat) : Int) → τ.1 16 78 = (tyC T e i : Int) → R (enc (mvo p (tyK T e i))) τ := fun τ g2 k1 k2 k3 k4 k5 k6 k7 k8 k9 => hq τ g2 k1 k2 k3 k4 k5 k6 k7 k8 (fun j hj => by cases hj; exact k9)
  have hroom : b + l.length + (tyW T e i).length ≤ 50000 := hroom
  have hcap : kcL (gB g) (tyW T e i) := hcap
  -- a list in brackets, of a type
  have brk_ : ∀ (tt : Nat) (bb : Bool) (a2 : Int) (qq : Option Nat), a2 = b1 bb → ple e qq → tyW T e i = brW T e bb qq → tyK T e i = brt T e bb qq → tyC T e i = tt → ∀ xx, xx = enc (mvo p qq) → w_KReader_bracketed L xx a2 (fun v25 σ24 => R v25 σ24) (pf σ0 16 78 (tt : Int)) := fun tt bb a2 qq ha hpq hW hTk hC xx hxx => by
    have F1 : ∀ pp kk, ¬ (pp = 16 ∧ kk = 78) → (pf σ0 16 78 (tt : Int)).1 pp kk = σ0.1 pp kk := fun pp kk z => by rw [pf_1, if_neg z]
    have F8 : (pf σ0 16 78 (tt : Int)).1 16 78 = (tt : Int) := pf_eq
    have R1 : (pf σ0 16 78 (tt : Int)).2 = σ0.2 := rfl
    generalize pf σ0 16 78 (tt : Int) = σ1 at *
    refine sp_K_bracketed (b := b) (l := l) qq hL (hZ0.dep ho (fun pp kk z => F1 pp kk (by omega)) (fun r z => by rw [R1])) ⟨by rw [F1 16 58 (by omega)]; exact hq1.1, fun k hk => by rw [R1]; exact hq1.2 k hk⟩ (by unfold KT; rw [F1 16 17 (by omega)]; exact hK0) (by rw [R1]; exact hS0) hxx hpq ha (by rw [← hW]; exact hroom) (by rw [← hW]; exact hcap) (fun τ g2 k1 k2 k3 k4 k5 k6 k7 => ?_)
    rw [← hTk]
    refine hq τ g2 k1 (by rw [hW]; exact k2) k3 (by rw [hW]; exact k4) (fun pp kk z => ?_) (fun r z1 z2 => ?_) (fun j hj => ?_) ?_ ?_
    · rw [k5 pp kk (by omega), F1 pp kk (by omega), F0 pp kk (by omega)]
    · rw [k6 r z1 z2, R1, R0]
    · rw [k7 j hj, R1, R0]
    · rw [k5 16 79 (by omega), F1 16 79 (by omega)]; exact F9
    · rw [k5 16 78 (by omega), F8, hC]
  by_cases c40 : lk T e i = 40
  · rw [if_pos c40]
    exact brk_ 9 false 0 (some i) rfl hqe (by unfold tyW; rw [if_pos c40]) (by unfold tyK; rw [if_pos c40]) (by unfold tyC; rw [if_pos c40]) _ rfl
  rw [if_neg c40]
  refine kr_word hK0 hS0 (some i) rfl hqe ti_1132 ?_
  rw [wd_mt]
  by_cases c8 : mt T e i [78, 79, 84, 65, 84, 73, 79, 78] = true
  · have hle := mt_le _ i (by decide) hie c8
    have h8l : ([78, 79, 84, 65, 84, 73, 79, 78] : List Int).length = 8 := rfl
    rw [if_pos c8, if_neg (show ¬ enc (mvo p (some (i + ([78, 79, 84, 65, 84, 73, 79, 78] : List Int).length))) < 0 from (by show ¬ ((p + (i + 8) : Nat) : Int) < 0; omega))]
    have pl8 : ple e (some (i + 8)) := fun j hj => by cases hj; omega
    have hKx : KT L (pf σ0 16 78 8) (p + e) := by unfold KT; rw [pf_nk (by decide)]; exact hK0
    refine kr_spc hKx hS0 (some (i + 8)) rfl pl8 ?_
    exact brk_ 8 true 1 (spc T e (some (i + 8))) rfl (spc_le pl8) (by unfold tyW; rw [if_neg c40, if_pos c8]) (by unfold tyK; rw [if_neg c40, if_pos c8]) (by unfold tyC; rw [if_neg c40, if_pos c8]) _ rfl
  rw [if_neg c8, if_pos (show enc (mvo p none) < 0 from (by show (-1 : Int) < 0; decide))]
  have hW : tyW T e i = [] := by unfold tyW; rw [if_neg c40, if_neg c8]
  have hTk : tyK T e i = match kty T e i 8 with
      | none => none
      | some t => some (i + (tyT.getD t []).length) := by unfold tyK; rw [if_neg c40, if_neg c8] <;> rfl
  have hC : tyC T e i = (kty T e i 8).getD 0 := by unfold tyC; rw [if_neg c40, if_neg c8]
  rw [hW] at hq
  have fin_ : ∀ ρ v, (∀ pp kk, ¬ (pp = 16 ∧ kk = 78) → ρ.1 pp kk = σ0.1 pp kk) → ρ.2 = σ0.2 → ρ.1 16 78 = (tyC T e i : Int) → v = enc (mvo p (tyK T e i)) → R v ρ := fun ρ v f1 f2 f3 f4 => by
    rw [f4]
    exact hq ρ g (hZ0.dep ho (fun pp kk z => f1 pp kk (by omega)) (fun r z => by rw [f2])) rfl rfl (by rw [List.append_nil]; exact ⟨by rw [f1 16 58 (by omega)]; exact hq1.1, fun k hk => by rw [f2]; exact hq1.2 k hk⟩) (fun pp kk z => by rw [f1 pp kk (by omega), F0 pp kk (by omega)]) (fun r _ _ => by rw [f2, R0]) (fun j _ => by rw [f2, R0]) (by rw [f1 16 79 (by omega)]; exact F9) f3
  refine WL_ind2 (fun nn s10 ρ => ((∀ pp kk, ¬ (pp = 16 ∧ kk = 78) → ρ.1 pp kk = σ0.1 pp kk) ∧ ρ.2 = σ0.2) ∧ ((∃ m : Nat, nn = m + 1 ∧ m ≤ 8 ∧ s10 = (-1, (m : Int) - 1) ∧ kty T e i 8 = kty T e i m ∧ (m < 8 → ρ.1 16 78 = (m : Int))) ∨ (nn = 0 ∧ ∃ t : Nat, kty T e i 8 = some t ∧ s10.1 = ((p + (i + (tyT.getD t []).length) : Nat) : Int) ∧ ρ.1 16 78 = (t : Int)))) ?_ 9 _ σ0 ⟨⟨fun _ _ _ => rfl, rfl⟩, Or.inl ⟨8, rfl, by omega, rfl, rfl, fun z => absurd z (by decide)⟩⟩
  rintro nn s10 ρ ⟨⟨f1, f2⟩, hI⟩ K hI'
  try dsimp only
  rcases hI with ⟨m, rfl, hm8, rfl, hk, h78⟩ | ⟨rfl, t, hk, hs, h78⟩
  · try dsimp only
    cases m with
    | zero =>
      rw [if_neg (fun z => z.1 (by omega))]
      have hk0 : kty T e i 8 = none := hk
      exact fin_ ρ _ f1 f2 (by rw [h78 (by decide), hC, hk0]; rfl) (by rw [hTk, hk0]; rfl)
    | succ m =>
      have em : ((m + 1 : Nat) : Int) - 1 = (m : Int) := by omega
      rw [em, if_pos ⟨by omega, by omega⟩]
      have hKρ : KT L ρ (p + e) := by unfold KT; rw [f1 16 17 (by omega)]; exact hK0
      have hSρ : SHT T (ρ.2 176) e p := by rw [f2]; exact hS0
      refine kr_word hKρ hSρ (some i) rfl hqe (wo_ti (show m < 8 by omega)) ?_
      have hks : kty T e i (m + 1) = if mt T e i (tyT.getD m []) = true then some m else kty T e i m := rfl
      have F2 : ∀ pp kk, ¬ (pp = 16 ∧ kk = 78) → (pf ρ 16 78 (m : Int)).1 pp kk = σ0.1 pp kk := fun pp kk z => by rw [pf_1, if_neg z]; exact f1 pp kk z
      rw [wd_mt]
      refine ⟨⟨by omega, by omega⟩, ?_⟩
      by_cases cm : mt T e i (tyT.getD m []) = true
      · rw [if_pos cm] at hks
        rw [if_pos cm]
        exact hI' 0 _ _ ⟨⟨F2, f2⟩, Or.inr ⟨rfl, m, by rw [hk, hks], rfl, pf_eq⟩⟩ (by omega)
      · rw [if_neg cm] at hks
        rw [if_neg cm]
        exact hI' (m + 1) _ _ ⟨⟨F2, f2⟩, Or.inl ⟨m, rfl, by omega, by show (enc (mvo p none), (m : Int) + (-1)) = (-1, (m : Int) - 1); rfl, by rw [hk, hks], fun _ => pf_eq⟩⟩ (by omega)
  · rw [if_neg (fun z => by have := z.2; omega)]
    exact fin_ ρ _ f1 f2 (by rw [h78, hC, hk]; rfl) (by rw [hs, hTk, hk]; rfl)
end Kdf
