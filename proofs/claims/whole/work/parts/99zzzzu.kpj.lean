/-! ===== items of the reference: instructions ===== -/
/-- the name that an instruction keeps -/
def nmP (a : AS) : List Str := match pin (gd (cur a)) (cur a).length 0 with
  | none => []
  | some z => [sl (gd (cur a)) 2 (z.1 - 2)]
section Kpj
variable {L : Nat → Nat} {rm nd o : Nat} {σ τ : IS} {g g' : KG} {a a' A : AS} {Q : IS → Prop} {R : Int → IS → Prop} {T : Nat → Int} {x v w : Int} {s : Str}
theorem tch_sN {k m : Nat} {b : Bool} : tch (sN a k m) b = sN (tch a b) k m := by
  unfold tch
  show (match aO a with
    | [] => sN a k m
    | e :: _ => sL (sN a k m) _) = sN (match aO a with
    | [] => a
    | e :: _ => sL a _) k m
  cases aO a <;> rfl
theorem wd_mt {e n : Nat} {l : List Int} : wd T e l (some n) = if mt T e n l = true then some (n + l.length) else none := rfl
set_option maxHeartbeats 4000000 in
theorem qI_pin {cn : Bool} (hL : KLn L o rm nd) (h : RK rm nd o σ g a) (hG : GK rm nd a) (hC : KC rm g a) (hm : 2 ≤ (cur a).length) (hph : cn = false → aO a = []) (hev : ∀ a', iPin nd cn a = .inr a' → (kNs (aS a')).1 ≤ 120000) (hcap : kcL (gB g) (nmP a)) (hw : w = b1 cn) (hq : KO rm nd o σ g Q (iPin nd cn a) (nmP a) (fun _ => 0)) : w_KReader_instruction L w Q σ := by
  obtain ⟨p, q, t, hF', h1, h2, hK, hc, hS, hp⟩ := h.at_ hL
  have hK2 := hK.2.2
  have ho := hL.2.1
  have r1 := rf_1 ho
  have l176 := hL.2.2.2.1
  have l15 : L (rfo o 15) = 120000 := hL.2.2.2.2.2.2.2.2.2.2.2.2.2.2.2.2.2.2.1
  have l1 := hL.2.2.2.2.2.2.2.2.2.2.2.2.2.2.2.2.1
  have hrm := hL.2.2.1
  have hln : (aL a).length ≤ 16384 := by have := hG.2.2.1; omega
  have hremc : (cur a).length ≤ rem a := by
    unfold rem
    rw [hF', List.map_cons, List.sum_cons]
    exact Nat.le_add_right _ _
  unfold w_KReader_instruction
  rw [h1]
  refine ⟨⟨by omega, by omega⟩, kr_name hK hS (some 2) rfl (fun i hi => by cases hi; exact hm) ?_⟩
  refine WJ_of (fun z ρ => ρ = σ ∧ ((z = -1 ∧ pin (gd (cur a)) (cur a).length 0 = none) ∨ ∃ n : Nat, z = ((p + n : Nat) : Int) ∧ nmg (gd (cur a)) (cur a).length true (some 2) = some n ∧ ¬ (sl (gd (cur a)) 2 (n - 2)).map lowr = [120, 109, 108])) (fun J hJ => ?_) ?_
  · cases hn : nmg (gd (cur a)) (cur a).length true (some 2) with
    | none =>
      rw [if_pos (show enc (mvo p none) < 0 from (by show (-1 : Int) < 0; decide))]
      exact hJ _ _ ⟨rfl, Or.inl ⟨rfl, by unfold pin; rw [Nat.zero_add, hn]⟩⟩
    | some n =>
      have hnl := nmg_lt hn
      have en : enc (mvo p (some n)) = ((p + n : Nat) : Int) := rfl
      rw [en, if_neg (by omega), h1]
      refine ⟨⟨by omega, by omega⟩, kr_isNamed (i := 2) (n := n) hK hc hS (by omega) hnl.2.2 (by omega) rfl ti_1119 ?_⟩
      by_cases cx : (sl (gd (cur a)) 2 (n - 2)).map lowr = [120, 109, 108]
      · rw [decide_eq_true cx, if_neg (by decide)]
        exact hJ _ _ ⟨rfl, Or.inl ⟨rfl, by unfold pin; rw [Nat.zero_add, hn]; exact if_pos cx⟩⟩
      · rw [decide_eq_false cx, if_pos (by decide)]
        exact hJ _ _ ⟨rfl, Or.inr ⟨n, rfl, hn, cx⟩⟩
  rintro z ρ ⟨rfl, hz⟩
  refine WJ_of (fun y υ => υ = ρ ∧ ((z = -1 ∧ y = -1 ∧ pin (gd (cur a)) (cur a).length 0 = none) ∨ ∃ n : Nat, z = ((p + n : Nat) : Int) ∧ nmg (gd (cur a)) (cur a).length true (some 2) = some n ∧ ¬ (sl (gd (cur a)) 2 (n - 2)).map lowr = [120, 109, 108] ∧ ((mt (gd (cur a)) (cur a).length n [63, 62] = true ∧ y = ((p + (n + 2) : Nat) : Int)) ∨ (mt (gd (cur a)) (cur a).length n [63, 62] = false ∧ y = -1)))) (fun J hJ => ?_) ?_
  · rcases hz with ⟨z1, z2⟩ | ⟨n, z1, z2, z3⟩
    · rw [if_pos (by omega)]
      exact hJ _ _ ⟨rfl, Or.inl ⟨z1, rfl, z2⟩⟩
    · have hnl := nmg_lt z2
      rw [if_neg (by omega)]
      refine kr_word hK hS (some n) (by rw [z1]; rfl) (fun i hi => by cases hi; exact hnl.2.2) ti_1114 ?_
      rw [wd_mt]
      cases hmt : mt (gd (cur a)) (cur a).length n [63, 62] with
      | true =>
        rw [if_pos rfl]
        exact hJ _ _ ⟨rfl, Or.inr ⟨n, z1, z2, z3, Or.inl ⟨hmt, rfl⟩⟩⟩
      | false =>
        rw [if_neg (by decide)]
        exact hJ _ _ ⟨rfl, Or.inr ⟨n, z1, z2, z3, Or.inr ⟨hmt, rfl⟩⟩⟩
  clear hz
  rintro y υ ⟨rfl, hy⟩
  refine WJ_of (fun u ξ => ξ = υ ∧ ((u.2 = -1 ∧ pin (gd (cur a)) (cur a).length 0 = none) ∨ ∃ n f k : Nat, pin (gd (cur a)) (cur a).length 0 = some (n, f, k) ∧ z = ((p + n : Nat) : Int) ∧ u = (((p + f : Nat) : Int), ((p + k : Nat) : Int)))) (fun J hJ => ?_) ?_
  · rcases hy with ⟨z1, z2, z3⟩ | ⟨n, z1, z2, z3, ⟨z4, z5⟩ | ⟨z4, z5⟩⟩
    · rw [if_neg (by omega)]
      exact hJ _ _ ⟨rfl, Or.inl ⟨z2, z3⟩⟩
    · rw [if_neg (by omega)]
      refine hJ _ _ ⟨rfl, Or.inr ⟨n, n, n + 2, ?_, z1, ?_⟩⟩
      · unfold pin
        rw [Nat.zero_add, z2]
        show (if _ then none else if mt (gd (cur a)) (cur a).length n [63, 62] = true then some (n, n, n + 2) else _) = _
        rw [if_neg z3, if_pos z4]
      · rw [z1, z5]
    · rw [if_pos (by omega)]
      have hnl := nmg_lt z2
      refine kr_spc hK hS (some n) (by rw [z1]; rfl) (fun i hi => by cases hi; exact hnl.2.2) ?_
      have hpin : pin (gd (cur a)) (cur a).length 0 = match spc (gd (cur a)) (cur a).length (some n) with
          | none => none
          | some f => match sek (gd (cur a)) (cur a).length [63, 62] f with
            | none => none
            | some q => some (n, f, q + 2) := by
        unfold pin
        rw [Nat.zero_add, z2]
        show (if _ then none else if mt (gd (cur a)) (cur a).length n [63, 62] = true then some (n, n, n + 2) else _) = _
        rw [if_neg z3, if_neg (by rw [z4]; decide)]
        rfl
      cases hsp : spc (gd (cur a)) (cur a).length (some n) with
      | none =>
        rw [hsp] at hpin
        refine WL_ind (fun s ξ => s = -1 ∧ ξ = υ) (fun _ _ => 0) ?_ _ υ ⟨rfl, rfl⟩
        rintro s ξ ⟨rfl, rfl⟩ K hI
        refine WJ_dir ?_
        rw [if_neg (by omega)]
        refine kr_word hK hS none rfl (fun i hi => by cases hi) ti_1114 ?_
        exact hJ _ _ ⟨rfl, Or.inl ⟨rfl, hpin⟩⟩
      | some f =>
        rw [hsp] at hpin
        have hpin : pin (gd (cur a)) (cur a).length 0 = match sek (gd (cur a)) (cur a).length [63, 62] f with
            | none => none
            | some q => some (n, f, q + 2) := hpin
        have hfl : f ≤ (cur a).length := spc_le (fun i hi => by cases hi; exact hnl.2.2) _ hsp
        refine WL_ind (fun s ξ => ξ = υ ∧ ∃ j : Nat, s = ((p + j : Nat) : Int) ∧ f ≤ j ∧ j ≤ (cur a).length ∧ sek (gd (cur a)) (cur a).length [63, 62] f = sek (gd (cur a)) (cur a).length [63, 62] j) (fun s _ => ((p + (cur a).length : Nat) - s).toNat) ?_ _ υ ⟨rfl, f, rfl, Nat.le_refl _, hfl, rfl⟩
        rintro s ξ ⟨rfl, j, rfl, j1, j2, j3⟩ K hI
        refine WJ_dir ?_
        have fin_ : ((sek (gd (cur a)) (cur a).length [63, 62] f = some j ∧ j < (cur a).length) ∨ (sek (gd (cur a)) (cur a).length [63, 62] f = none ∧ j = (cur a).length)) → w_KReader_word L ((p + j : Nat) : Int) 1114 (fun v73 σ72 => J (enc (mvo p (some f)), v73) σ72) ξ := fun hj => by
          refine kr_word hK hS (some j) rfl (fun i hi => by cases hi; exact j2) ti_1114 ?_
          rcases hj with ⟨y1, y2⟩ | ⟨y1, y2⟩
          · rw [y1] at hpin
            rw [wd_mt, if_pos (sek_lt y1).2.2]
            exact hJ _ _ ⟨rfl, Or.inr ⟨n, f, j + 2, hpin, z1, rfl⟩⟩
          · rw [y1] at hpin
            rw [y2, wd_e (by decide)]
            exact hJ _ _ ⟨rfl, Or.inl ⟨rfl, hpin⟩⟩
        by_cases c : j < (cur a).length
        · rw [if_pos ⟨by omega, by omega⟩]
          refine kr_says hK hS j rfl j2 ti_1114 ?_
          cases hmt : mt (gd (cur a)) (cur a).length j [63, 62] with
          | true =>
            rw [if_neg (by decide)]
            exact fin_ (Or.inl ⟨by rw [j3]; exact sek_hit c hmt, c⟩)
          | false =>
            rw [if_pos (by decide)]
            exact ⟨⟨by omega, by omega⟩, hI _ _ ⟨rfl, j + 1, by omega, by omega, by omega, by rw [j3]; exact sek_go c hmt⟩ (by omega)⟩
        · rw [if_neg (by omega)]
          exact fin_ (Or.inr ⟨by rw [j3]; exact sek_end (by omega), by omega⟩)
  clear hy
  rintro ⟨u1, u2⟩ ξ ⟨rfl, hu⟩
  try dsimp only
  rcases hu with ⟨hu2, hpn⟩ | ⟨n, f, k, hpn, hz, hu⟩
  · have hu2' : u2 = -1 := hu2
    subst hu2'
    refine sp_K_written (x := none) rfl h.f3 (fun _ => ?_) (fun k hk => by cases hk)
    rw [if_pos rfl]
    exact hq.1 5 (by unfold iPin; rw [hpn]) _ pf_eq (pf_nk (by decide))
  obtain ⟨e1, e2⟩ := Prod.mk.inj hu
  subst e1 e2 hz
  have hpl := pin_lt hpn
  rw [Nat.zero_add] at hpl
  have hnm : nmP a = [sl (gd (cur a)) 2 (n - 2)] := by unfold nmP; rw [hpn]
  rw [hnm] at hcap hq
  have hid : iPin nd cn a = if cn = true ∧ nd < aN a 3 + 1 then .inl 4 else .inr (adv (sN (if cn = true then sN (sS (tch a false) (aS a ++ [.inr (sl (gd (cur a)) 2 (n - 2), sl (gd (cur a)) f (k - 2 - f))])) 3 (aN a 3 + 1) else a) 2 (aN a 2 + (hasc (sl (gd (cur a)) 2 (n - 2))).toNat)) k) := by
    unfold iPin
    rw [hpn]
  refine sp_K_written (x := some (p + k)) rfl h.f3 (fun hk => by cases hk) (fun k0 hk0 hv0 => ?_)
  rw [if_neg (by decide), h1]
  have e3 : ((p + n : Nat) : Int) - (p : Int) - 2 = ((n - 2 : Nat) : Int) := by omega
  refine ⟨⟨by omega, by omega⟩, ⟨by omega, by omega⟩, ⟨by omega, by omega⟩, ?_⟩
  rw [e3]
  have esl : sl (ξ.2 176) (p + 2) (n - 2) = sl (gd (cur a)) 2 (n - 2) := sh_sl hS (by omega)
  generalize hsn : sl (gd (cur a)) 2 (n - 2) = s at *
  refine sp_K_kp (p := p + 2) (n := n - 2) hL h (by omega) (by omega) rfl esl hcap.1 (fun v19 σ1 hv1 hR1 hf1 => ?_)
  have hgl : gP (kpS (gB g) s, g.2) = gP g ∧ gC (kpS (gB g) s, g.2) = gC g ∧ gV (kpS (gB g) s, g.2) = gV g ∧ gB (kpS (gB g) s, g.2) = kpS (gB g) s := ⟨rfl, rfl, rfl, rfl⟩
  generalize hg1 : ((kpS (gB g) s, g.2) : KG) = g1 at hR1 hgl
  have hgB : kpS (gB g) s = gB g1 := hgl.2.2.2.symm
  rw [hgB] at hv1
  have hgB' : gB g1 = kpL (gB g) [s] := hgl.2.2.2
  have hN2 : aN a 2 ≤ 1000000 := by have := hG.2.1.2; have := hG.1.2; omega
  refine sp_K_colons hL hR1 hv1 hN2 (fun hR2 => ?_)
  generalize hx2 : aN a 2 + (hasc s).toNat = x2 at *
  have f2 : (pr σ1 (rfo o 19) 5 (x2 : Int)).1 = σ1.1 := rfl
  have f2r : ∀ r, r ≠ rfo o 19 → (pr σ1 (rfo o 19) 5 (x2 : Int)).2 r = σ1.2 r := fun r z => by funext j; rw [pr_2, if_neg (fun y => z y.1)]
  generalize pr σ1 (rfo o 19) 5 (x2 : Int) = σ2 at hR2 f2 f2r ⊢
  refine sp_K_touch0 hL hR2 hG.2.2.2.1.2 hG.2.2.2.2.1 hln (fun σ3 hR3 t1 t2 => ?_)
  rw [tch_sN] at hR3
  have F3 : ∀ pp kk, ¬ (pp = 13 ∧ (kk = 1 ∨ kk = 6)) → σ3.1 pp kk = ξ.1 pp kk := fun pp kk z => by rw [t1, f2]; exact hf1.1 pp kk z
  have R3 : ∀ r, r < 211 ∨ 215 < r → r ≠ 168 → r ≠ rfo o 19 → σ3.2 r = ξ.2 r := fun r z1 z2 z3 => by
    rw [t2 r z2, f2r r z3]
    exact funext (fun j => hf1.2 r j z1)
  refine WJ_dir ?_
  have hct : cur (tch a false) = cur a := tch_cur
  have hNt : aN (tch a false) = aN a := tch_other.2.2.1
  have hSt : aS (tch a false) = aS a := tch_other.2.2.2.2.2.2.2.2.1
  cases cn with
  | false =>
    rw [hw, if_pos (by decide)]
    have hO := hph rfl
    have hid' : iPin nd false a = .inr (adv (sN a 2 x2) k) := by
      rw [hid, if_neg (fun z => Bool.false_ne_true z.1)]
      rfl
    rw [tch_nil hO] at hR3
    have hg := hR3.go hL (k := k) (by show k ≤ (cur a).length; omega)
    rw [F3 16 16 (by omega), h1, show (p : Int) + (k : Int) = ((p + k : Nat) : Int) by omega] at hg
    refine hq.2 _ hid' _ g1 hg hgB' (fun _ => hgl.2.1) (fun j _ => by rw [hgl.2.2.1]; rfl) ?_ (by rw [pf_nk (by decide), F3 16 4 (by omega)]) (by rw [pf_nk (by decide), F3 16 15 (by omega)]; omega)
    have hr3 : rem (adv (sN a 2 x2) k) + k = rem a := rem_adv (a := sN a 2 x2) (by show k ≤ (cur a).length; omega)
    obtain ⟨c1, c2, c3, c4⟩ := hC
    have hN : aN (adv (sN a 2 x2) k) = aN (sN a 2 x2) := (adv_other).2.1
    refine ⟨?_, ?_, ?_, ?_⟩
    · rw [hN, hgl.1]; show _ ≤ aN a 0; omega
    · rw [hN, hgl.2.1]; show _ ≤ aN a 8 + aN a 0; omega
    · rw [hN]; exact c3
    · rw [hN, hgl.2.2.1]; exact c4
  | true =>
    rw [hw, if_neg (by decide)]
    have n3e : aN (sN (tch a false) 2 x2) 3 = aN a 3 := by show aN (tch a false) 3 = _; rw [hNt]
    have h3 : aN a 3 ≤ 1000000 := by have := hG.2.2.1; omega
    refine sp_K_node hL hR3 (by rw [n3e]; exact h3) (fun hlt => ?_) (fun hlt => ?_)
    · rw [if_pos rfl]
      rw [n3e] at hlt
      refine hq.1 4 ?_ _ pf_eq (by rw [pf_nk (by decide), pf_nk (by decide), F3 16 4 (by omega)])
      rw [hid, if_pos ⟨rfl, hlt⟩]
    rw [if_neg (by decide)]
    rw [n3e] at hlt ⊢
    have hid' : iPin nd true a = .inr (adv (sN (sN (sS (tch a false) (aS a ++ [.inr (s, sl (gd (cur a)) f (k - 2 - f))])) 3 (aN a 3 + 1)) 2 x2) k) := by
      rw [hid, if_neg (fun z => hlt z.2)]
      rfl
    have hev' := hev _ hid'
    rw [(adv_other).2.2.2.2.2.2.2.2.1] at hev'
    have hev2 : (kNs (aS a ++ [.inr (s, sl (gd (cur a)) f (k - 2 - f))])).1 ≤ 120000 := hev'
    have hR4 := hR3.n3 (v := aN a 3 + 1) hL
    have F4 : ∀ pp kk, ¬ (pp = 13 ∧ (kk = 1 ∨ kk = 6)) → ¬ (pp = 16 ∧ kk = 26) → (pf σ3 16 26 ((aN a 3 + 1 : Nat) : Int)).1 pp kk = ξ.1 pp kk := fun pp kk z1 z2 => by rw [pf_1, if_neg z2]; exact F3 pp kk z1
    have R4 : ∀ r, r < 211 ∨ 215 < r → r ≠ 168 → r ≠ rfo o 19 → (pf σ3 16 26 ((aN a 3 + 1 : Nat) : Int)).2 r = ξ.2 r := fun r z1 z2 z3 => R3 r z1 z2 z3
    generalize pf σ3 16 26 ((aN a 3 + 1 : Nat) : Int) = σ4 at hR4 F4 R4 ⊢
    generalize hB : sN (sN (tch a false) 2 x2) 3 (aN a 3 + 1) = B at hR4
    have hBS : aS B = aS a := by rw [← hB]; exact hSt
    have hst : KSt o σ4 (gB g1) (gP g1) (aS B) (aL B).length := hR4.2.2.2.2.2.2.2.2.2.2.2.1
    have hu4 : σ4.1 o 2 = ((gP g1).length : Int) := hR4.1.2.2.2.1.1
    obtain ⟨d1, d2⟩ := hR4.dy ho
    obtain ⟨G, ⟨g1', -⟩, -, g3, -, ⟨-, g5⟩, -⟩ := id hst
    have hkel : kel G + 4 ≤ 120000 := by
      rw [hBS] at g5
      rw [kNs_s, g5] at hev2
      exact hev2
    have hpl2 : (gP g1).length + (k - 2 - f) ≤ rm := by rw [hgl.1]; have := hC.1; have := hC.2.2.1; omega
    refine ⟨d2, ?_⟩
    unfold w_KDoc_event
    rw [d1, show Int.toNat (o : Int) = o from rfl, g3, show Int.toNat (kel G : Int) = kel G from rfl]
    refine ⟨⟨by omega, by omega⟩, ⟨by omega, by omega⟩, ?_⟩
    have s2 : (pf (pf (pr σ4 (rfo o 15) (kel G) 3) o 16 ((kel G : Int) + 1)) o 17 (-1)).1 16 2 = (o : Int) := by rw [pf_1, if_neg (by omega), pf_1, if_neg (by omega), pr_1]; exact d1
    have s16 : (pf (pf (pr σ4 (rfo o 15) (kel G) 3) o 16 ((kel G : Int) + 1)) o 17 (-1)).1 o 16 = ((kel G + 1 : Nat) : Int) := by rw [pf_nk (by decide), pf_eq]; omega
    have su : (pf (pf (pr σ4 (rfo o 15) (kel G) 3) o 16 ((kel G : Int) + 1)) o 17 (-1)).1 o 2 = ((gP g1).length : Int) := by rw [pf_nk (by decide), pf_nk (by decide), pr_1]; exact hu4
    dsimp only
    rw [s2, show Int.toNat (o : Int) = o from rfl, s16, su, show Int.toNat ((kel G + 1 : Nat) : Int) = kel G + 1 from rfl, show ((kel G + 1 : Nat) : Int) + 1 = ((kel G + 2 : Nat) : Int) by omega, show Int.toNat ((kel G + 2 : Nat) : Int) = kel G + 2 from rfl, show ((kel G + 1 : Nat) : Int) + 2 = ((kel G + 3 : Nat) : Int) by omega, show Int.toNat ((kel G + 3 : Nat) : Int) = kel G + 3 from rfl, show ((p + k : Nat) : Int) - 2 = ((p + (k - 2) : Nat) : Int) by omega, if_neg (show ¬ ((p + (k - 2) : Nat) : Int) - ((p + f : Nat) : Int) < 0 by omega), show ((p + (k - 2) : Nat) : Int) - ((p + f : Nat) : Int) = ((k - 2 - f : Nat) : Int) by omega]
    refine ⟨⟨by omega, by omega⟩, ⟨by omega, by omega⟩, by rw [← d1]; exact d2, ⟨by omega, by omega⟩, ⟨by omega, by omega⟩, ⟨by omega, by omega⟩, ⟨by omega, by omega⟩, ⟨by omega, by omega⟩, ⟨by omega, by omega⟩, ?_⟩
    generalize hs0 : pf (pr (pr (pr (pf (pf (pr σ4 (rfo o 15) (kel G) 3) o 16 ((kel G : Int) + 1)) o 17 (-1)) (rfo o 15) (kel G + 1) v19) (rfo o 15) (kel G + 2) ((gP g1).length : Int)) (rfo o 15) (kel G + 3) ((k - 2 - f : Nat) : Int)) o 16 (((kel G + 1 : Nat) : Int) + 3) = s0
    have c16 : s0.1 o 16 = (kel G : Int) + 4 := by rw [← hs0, pf_eq]; omega
    have c17 : s0.1 o 17 = -1 := by rw [← hs0, pf_nk (by decide), pr_1, pr_1, pr_1, pf_eq]
    have cF : ∀ pp kk, ¬ (pp = o ∧ (kk = 16 ∨ kk = 17)) → s0.1 pp kk = σ4.1 pp kk := fun pp kk z => by rw [← hs0, pf_1, if_neg (by omega), pr_1, pr_1, pr_1, pf_1, if_neg (by omega), pf_1, if_neg (by omega), pr_1]
    have cR : ∀ r, r ≠ rfo o 15 → s0.2 r = σ4.2 r := fun r z => by funext j; rw [← hs0, pf_2, pr_2, if_neg (fun y => z y.1), pr_2, if_neg (fun y => z y.1), pr_2, if_neg (fun y => z y.1), pf_2, pf_2, pr_2, if_neg (fun y => z y.1)]
    have cE : ∀ j : Nat, s0.2 (rfo o 15) j = if (j : Int) = (kel G : Int) then 3 else if (j : Int) = (kel G : Int) + 1 then v19 else if (j : Int) = (kel G : Int) + 2 then ((gP g1).length : Int) else if (j : Int) = (kel G : Int) + 3 then ((k - 2 - f : Nat) : Int) else σ4.2 (rfo o 15) j := fun j => by
      rw [← hs0, pf_2, pr_2]
      by_cases y3 : j = kel G + 3
      · rw [if_pos ⟨rfl, y3⟩, if_neg (by omega), if_neg (by omega), if_neg (by omega), if_pos (by omega)]
      · rw [if_neg (fun y => y3 y.2), pr_2]
        by_cases y2 : j = kel G + 2
        · rw [if_pos ⟨rfl, y2⟩, if_neg (by omega), if_neg (by omega), if_pos (by omega)]
        · rw [if_neg (fun y => y2 y.2), pr_2]
          by_cases y1 : j = kel G + 1
          · rw [if_pos ⟨rfl, y1⟩, if_neg (by omega), if_pos (by omega)]
          · rw [if_neg (fun y => y1 y.2), pf_2, pf_2, pr_2]
            by_cases y0 : j = kel G
            · rw [if_pos ⟨rfl, y0⟩, if_pos (by omega)]
            · rw [if_neg (fun y => y0 y.2), if_neg (by omega), if_neg (by omega), if_neg (by omega), if_neg (by omega)]
    have hT176 : ∀ i, i < (cur a).length → σ4.2 176 (p + i) = gd (cur a) i := fun i hi => by rw [R4 176 (by omega) (by omega) (by omega)]; exact hS i hi
    refine WL_ind (fun s ρ => ∃ m : Nat, s = ((p + (f + m) : Nat) : Int) ∧ f + m ≤ k - 2 ∧ (∀ pp kk, ¬ (pp = o ∧ kk = 2) → ρ.1 pp kk = s0.1 pp kk) ∧ ρ.1 o 2 = (((gP g1).length + m : Nat) : Int) ∧ (∀ r, r ≠ rfo o 1 → ρ.2 r = s0.2 r) ∧ (∀ j, j < (gP g1).length → ρ.2 (rfo o 1) j = s0.2 (rfo o 1) j) ∧ ∀ j, j < m → ρ.2 (rfo o 1) ((gP g1).length + j) = gd (cur a) (f + j)) (fun s _ => ((p + (k - 2) : Nat) - s).toNat) ?_ _ s0 ⟨0, by omega, by omega, fun _ _ _ => rfl, by rw [cF o 2 (by omega)]; exact hu4, fun _ _ => rfl, fun _ _ => rfl, fun j hj => absurd hj (Nat.not_lt_zero j)⟩
    rintro s' ρ ⟨m, rfl, m1, m2, m3, m4, m5, m6⟩ K hI
    try dsimp only
    try rw [show ((p + k : Nat) : Int) - 2 = ((p + (k - 2) : Nat) : Int) by omega]
    refine ⟨⟨by omega, by omega⟩, ?_⟩
    by_cases c : f + m < k - 2
    · have e6 : ρ.1 16 2 = (o : Int) := by rw [m2 16 2 (by omega), cF 16 2 (by omega)]; exact d1
      rw [if_pos (by omega), e6, show Int.toNat (o : Int) = o from rfl, show Int.toNat ((p + (f + m) : Nat) : Int) = p + (f + m) from rfl]
      refine ⟨by rw [← d1]; exact d2, ⟨by omega, by omega⟩, ?_⟩
      unfold w_KDoc_add
      rw [m3, show Int.toNat (((gP g1).length + m : Nat) : Int) = (gP g1).length + m from rfl]
      refine ⟨⟨by omega, by omega⟩, ⟨by omega, by omega⟩, ⟨by omega, by omega⟩, hI _ _ ⟨m + 1, by omega, by omega, fun pp kk z => ?_, ?_, fun r z => ?_, fun j hj => ?_, fun j hj => ?_⟩ (by omega)⟩
      · rw [pf_1, if_neg z, pr_1]; exact m2 pp kk z
      · rw [pf_eq]; omega
      · funext j; rw [pf_2, pr_2, if_neg (fun y => z y.1), m4 r z]
      · rw [pf_2, pr_2, if_neg (by omega)]; exact m5 j hj
      · rw [pf_2, pr_2]
        by_cases y : j = m
        · rw [if_pos ⟨rfl, by omega⟩, y, m4 176 (by omega), cR 176 (by omega)]
          exact hT176 (f + m) (by omega)
        · rw [if_neg (by omega)]
          exact m6 j (by omega)
    · rw [if_neg (by omega)]
      have hm' : m = k - 2 - f := by omega
      subst hm'
      have hd : ∀ j, j < (sl (gd (cur a)) f (k - 2 - f)).length → ρ.2 (rfo o 1) ((gP g1).length + j) = (sl (gd (cur a)) f (k - 2 - f)).getD j 0 := fun j hj => by
        rw [sl_ln] at hj
        rw [m6 j hj, List.getD_eq_getElem?_getD, sl_get hj]
        rfl
      generalize hdd : sl (gd (cur a)) f (k - 2 - f) = d at *
      have hdl : d.length = k - 2 - f := by rw [← hdd]; exact sl_ln
      have FF : ∀ pp kk, ¬ (pp = o ∧ (kk = 2 ∨ kk = 16 ∨ kk = 17)) → ρ.1 pp kk = σ4.1 pp kk := fun pp kk z => by rw [m2 pp kk (by omega), cF pp kk (by omega)]
      have RR : ∀ r, ¬ (r = 223 + 14 * (o - 14) ∨ r = 220 + 14 * (o - 14)) → ρ.2 r = σ4.2 r := fun r z => by rw [m4 r (by omega), cR r (by omega)]
      have hfin : RK rm nd o ρ (gB g1, gC g1, gP g1 ++ d, gV g1) (sS B (aS B ++ [.inr (s, d)])) := by
        have h := hR4
        have hF := FF
        have hR := RR
        refine (RK.mk' ho h kle.refl cle.refl ⟨d, rfl⟩ (KZ.pools ho h.1 (fun p k x => hF p k (by omega)) (fun r x => hR r (by omega)) (by rw [m3, hdl]) (fun j hj => by rw [m5 j hj, cR (rfo o 1) (by omega)]) hd) (Or.inl ⟨fun k x y => hF 16 k (by omega), fun r x y => hR r (by omega), rfl⟩) (Or.inl ⟨hF 16 32 (by omega), fun r x y => hR r (by omega), rfl, rfl⟩) (Or.inl ⟨fun k x => hF 16 k (by omega), hR _ (by have := rf_1 ho; omega), rfl⟩) (Or.inl ⟨hF 16 20 (by omega), hF 16 24 (by omega), rfl⟩) (Or.inl ⟨hF 16 40 (by omega), hF 16 47 (by omega), hF 16 58 (by omega), fun r x => hR r (by omega), rfl⟩) (Or.inl ⟨hF 16 56 (by omega), hF 16 58 (by omega), fun r x y => hR r (by omega), rfl⟩) (Or.inl ⟨hF 16 34 (by omega), hR 187 (by omega), rfl⟩) (Or.inl ⟨hF o 7 (by omega), fun k x y => hR _ (by have := rf_3 ho x y; omega), rfl⟩) (Or.inl ⟨hF 16 64 (by omega), hF 16 66 (by omega), fun r x y => hR r (by omega), hR 181 (by omega), rfl, rfl, rfl⟩) (Or.inl ⟨hF o 14 (by omega), fun k x y => hR _ (by have := rf_8 ho x y; omega), rfl, rfl⟩) (Or.inr ?_) (hF 16 3 (by omega)) (Or.inl ⟨hF 16 18 (by omega), hR 178 (by omega), rfl, rfl, rfl, hF 16 47 (by omega), hF 16 58 (by omega), rfl, rfl⟩))
        refine KSt.tgt hst hv1 hu4 (by rw [m2 o 16 (by omega), c16, g3]) (by rw [m2 o 17 (by omega), c17]) (hF o 20 (by omega)) (fun j => ?_)
        rw [m4 (rfo o 15) (by omega), cE, g3, hu4, hdl]
      have hcB : cur B = cur a := by rw [← hB]; exact hct
      have hg := hfin.go hL (k := k) (by show k ≤ (cur B).length; rw [hcB]; omega)
      rw [FF 16 16 (by omega), F4 16 16 (by omega) (by omega), h1, show (p : Int) + (k : Int) = ((p + k : Nat) : Int) by omega] at hg
      have eB : sS B (aS B ++ [.inr (s, d)]) = sN (sN (sS (tch a false) (aS a ++ [.inr (s, d)])) 3 (aN a 3 + 1)) 2 x2 := by
        rw [hBS, ← hB]
        exact sN_cm (A := sS (tch a false) (aS a ++ [.inr (s, d)])) (j := 2) (k := 3) (by decide)
      rw [eB] at hg
      have hr3 : rem (adv (sN (sN (sS (tch a false) (aS a ++ [.inr (s, d)])) 3 (aN a 3 + 1)) 2 x2) k) + k = rem a := by
        have hx : rem (adv (sN (sN (sS (tch a false) (aS a ++ [Sum.inr (s, d)])) 3 (aN a 3 + 1)) 2 x2) k) + k = rem (tch a false) := rem_adv (a := sN (sN (sS (tch a false) (aS a ++ [Sum.inr (s, d)])) 3 (aN a 3 + 1)) 2 x2) (k := k) (by show k ≤ (cur (tch a false)).length; rw [hct]; omega)
        rw [hx]
        exact tch_rem
      have hN : aN (adv (sN (sN (sS (tch a false) (aS a ++ [.inr (s, d)])) 3 (aN a 3 + 1)) 2 x2) k) = aN (sN (sN (sS (tch a false) (aS a ++ [.inr (s, d)])) 3 (aN a 3 + 1)) 2 x2) := (adv_other).2.1
      have hN0 : aN (adv (sN (sN (sS (tch a false) (aS a ++ [.inr (s, d)])) 3 (aN a 3 + 1)) 2 x2) k) 0 = aN a 0 := by rw [hN]; show aN (tch a false) 0 = _; rw [hNt]
      have hN8 : aN (adv (sN (sN (sS (tch a false) (aS a ++ [.inr (s, d)])) 3 (aN a 3 + 1)) 2 x2) k) 8 = aN a 8 := by rw [hN]; show aN (tch a false) 8 = _; rw [hNt]
      have hN1 : aN (adv (sN (sN (sS (tch a false) (aS a ++ [.inr (s, d)])) 3 (aN a 3 + 1)) 2 x2) k) 1 = aN a 1 := by rw [hN]; show aN (tch a false) 1 = _; rw [hNt]
      obtain ⟨c1, c2, c3, c4⟩ := hC
      refine hq.2 _ hid' _ _ hg hgB' (fun _ => hgl.2.1) (fun j _ => by show gV g1 j = _; rw [hgl.2.2.1]; rfl) ⟨?_, ?_, ?_, ?_⟩ (by rw [pf_nk (by decide), FF 16 4 (by omega), F4 16 4 (by omega) (by omega)]) (by rw [pf_nk (by decide), FF 16 15 (by omega), F4 16 15 (by omega) (by omega)]; omega)
      · rw [hN0]
        show (gP g1 ++ d).length + _ ≤ _
        rw [List.length_append, hgl.1, hdl]
        omega
      · rw [hN0, hN8]
        show (gC g1).length + _ ≤ _
        rw [hgl.2.1]
        omega
      · rw [hN0]; exact c3
      · rw [hN1]; show gV g1 22 = _; rw [hgl.2.2.1]; exact c4
end Kpj
