/-! ===== items of the reference: entities, the item ===== -/
section Keo
variable {L : Nat → Nat} {rm nd o : Nat} {σ τ : IS} {g g' : KG} {a a' A : AS} {Q : IS → Prop} {R : Int → IS → Prop} {T : Nat → Int} {x y v w : Int} {s : Str} {e : Nat}
/-- a new entity -/
theorem KEn.app {bk : List Str} {cs tx : List Int} {en : List Ent} {bs : List Nat} {b : Bool} {z : Int} (h : KEn σ bk cs en bs) (hv : Kn bk v s) (hx : Kpc cs z tx) (hb : ∀ k ∈ bs, k ≤ en.length) (t32 : τ.1 16 32 = σ.1 16 32 + 1) (r182 : ∀ j : Nat, τ.2 182 j = if j = en.length then v else σ.2 182 j) (r183 : ∀ j : Nat, τ.2 183 j = if j = en.length then b1 b else σ.2 183 j) (r184 : ∀ j : Nat, τ.2 184 j = if j = en.length then z else σ.2 184 j) (r185 : ∀ j : Nat, τ.2 185 j = if j = en.length then (tx.length : Int) else σ.2 185 j) (r186 : ∀ j : Nat, τ.2 186 j = if j = en.length then 0 else σ.2 186 j) : KEn τ bk cs (en ++ [(s, b, tx)]) bs := by
  obtain ⟨h1, h2⟩ := h
  refine ⟨by rw [t32, h1, List.length_append, List.length_singleton]; omega, fun i hi => ?_⟩
  rw [List.length_append, List.length_singleton] at hi
  rw [r182, r183, r184, r185, r186, getD_snoc]
  by_cases c : i = en.length
  · rw [if_pos c, if_pos c, if_pos c, if_pos c, if_pos c, if_neg (by omega), if_pos c]
    refine ⟨hv, rfl, hx, rfl, ?_⟩
    rw [if_neg (fun z => by have := hb _ z; omega)]
  · simp only [if_neg c]
    rw [if_pos (by omega)]
    exact h2 i (by omega)
/-- characters that were put are taken back -/
theorem KZ.shr {bk : List Str} {cs acc pl : List Int} {vv : Nat → Nat} (ho : o = 14 ∨ o = 15) (h : KZ rm nd o σ (bk, cs ++ acc, pl, vv)) (hf : ∀ p k, (p = 13 ∧ (k = 1 ∨ k = 6)) ∨ (p = 16 ∧ (k = 0 ∨ k = 1 ∨ k = 2)) ∨ (p = o ∧ k = 2) → τ.1 p k = σ.1 p k) (hr : ∀ r, r = 176 ∨ (211 ≤ r ∧ r ≤ 215) ∨ r = 223 + 14 * (o - 14) ∨ r = 221 + 14 * (o - 14) → τ.2 r = σ.2 r) (h6 : τ.1 16 6 = (cs.length : Int)) : KZ rm nd o τ (bk, cs, pl, vv) := by
  obtain ⟨⟨h1, h2, h3, h4⟩, h5, ⟨h6', h7, h8, h9⟩, ⟨h10, h11⟩, h12, h13⟩ := h
  have r1 := rf_1 ho
  have h7' : (cs ++ acc).length ≤ 262144 := h7
  rw [List.length_append] at h7'
  have eb : ∀ s, bstr τ s = bstr σ s := fun s => by unfold bstr bst bln; rw [hr 212 (by omega), hr 213 (by omega), hr 214 (by omega)]
  refine ⟨⟨?_, by rw [hf 13 6 (by omega)]; exact h2, by rw [hf 13 1 (by omega)]; exact h3, fun i hi => by rw [eb]; exact h4 i hi⟩, h5, ⟨h6, by show cs.length ≤ _; omega, fun i hi => ?_, fun d hd => h9 d (List.mem_append_left _ hd)⟩, ⟨by rw [hf o 2 (by omega)]; exact h10, by rw [hr (rfo o 1) (by omega)]; exact h11⟩, ?_, by rw [hr (rfo o 18) (by omega)]; exact h13⟩
  · unfold BK at h1 ⊢
    rw [hf 13 1 (by omega), hf 13 6 (by omega), hr 211 (by omega), hr 213 (by omega), hr 214 (by omega), hr 215 (by omega)]
    simp only [eb]
    exact h1
  · have hi' : i < cs.length := hi
    rw [hr 176 (by omega)]
    have := h8 i (by show i < (cs ++ acc).length; rw [List.length_append]; omega)
    rw [this]
    show (cs ++ acc).getD i 0 = cs.getD i 0
    exact getD_app_l hi'
  · rw [hf 16 2 (by omega), hf 16 0 (by omega), hf 16 1 (by omega)]
    exact h12
set_option maxHeartbeats 4000000 in
theorem qI_ent (hL : KLn L o rm nd) (h : RK rm nd o σ g a) (hG : GK rm nd a) (hC : KC rm g a) (hm : 8 ≤ (cur a).length) (h8c : aN a 8 + aN a 0 ≤ 262144) (hEl : (aE a).length < 8300) (hcap : kcL (gB g) (nmE a)) (hq : KO rm nd o σ g Q (iEnt a) (nmE a) (fun _ => 0)) : w_KReader_entity L Q σ := by
  obtain ⟨p, q, t, hF', h1, h2, hK, hc, hS, hp⟩ := h.at_ hL
  have hK2 := hK.2.2
  have ho := hL.2.1
  have r1 := rf_1 ho
  have l176 := hL.2.2.2.1
  have hremc : (cur a).length ≤ rem a := by
    unfold rem
    rw [hF', List.map_cons, List.sum_cons]
    exact Nat.le_add_right _ _
  generalize hT : gd (cur a) = T at *
  generalize he : (cur a).length = e at *
  unfold w_KReader_entity
  rw [h1]
  have p8 : ple e (some 8) := fun i hi => by cases hi; exact hm
  refine ⟨⟨by omega, by omega⟩, kr_spc hK hS (some 8) rfl p8 ?_⟩
  refine kr_word hK hS _ rfl (spc_le p8) ti_1144 ?_
  -- where the name begins
  have hP : (wd T e [37] (spc T e (some 8)) = none ↔ enP T e 0 = false) := by
    unfold enP
    rw [Nat.zero_add]
    cases hs : spc T e (some 8) with
    | none => exact ⟨fun _ => rfl, fun _ => rfl⟩
    | some s0 =>
      show wd T e [37] (some s0) = none ↔ mt T e s0 [37] = false
      rw [wd_mt]
      cases mt T e s0 [37] <;> simp
  have hFw : enF T e 0 = if wd T e [37] (spc T e (some 8)) = none then spc T e (some 8) else spc T e (wd T e [37] (spc T e (some 8))) := by
    unfold enF
    rw [Nat.zero_add]
    cases hs : spc T e (some 8) with
    | none => rfl
    | some s0 =>
      show (if mt T e s0 [37] = true then spc T e (some (s0 + 1)) else some s0) = if wd T e [37] (some s0) = none then some s0 else spc T e (wd T e [37] (some s0))
      rw [wd_mt]
      by_cases c : mt T e s0 [37] = true
      · rw [if_pos c, if_pos c, if_neg (by simp)]; rfl
      · rw [if_neg c, if_neg c, if_pos rfl]
  have pwd : ple e (wd T e [37] (spc T e (some 8))) := wdl_le ti_1144 (spc_le p8)
  have hvP : ∀ O : Option Nat, ((if enc (mvo p O) < 0 then (0 : Int) else 1) = 0 ↔ O = none) := fun O => by
    cases O with
    | none => exact ⟨fun _ => rfl, fun _ => rfl⟩
    | some z => rw [if_neg (show ¬ enc (mvo p (some z)) < 0 from (by show ¬ ((p + z : Nat) : Int) < 0; omega))]; simp
  have hbP : (if enc (mvo p (wd T e [37] (spc T e (some 8)))) < 0 then (0 : Int) else 1) = b1 (enP T e 0) := by
    cases hpe : enP T e 0 with
    | false => exact (hvP _).mpr (hP.mpr hpe)
    | true =>
      have : ¬ wd T e [37] (spc T e (some 8)) = none := fun z => by rw [hP.mp z] at hpe; cases hpe
      cases hw : wd T e [37] (spc T e (some 8)) with
      | none => exact absurd hw this
      | some z => rw [if_neg (show ¬ enc (mvo p (some z)) < 0 from (by show ¬ ((p + z : Nat) : Int) < 0; omega))]; rfl
  rw [hbP]
  have pF : ple e (enF T e 0) := by
    rw [hFw]
    split
    · exact spc_le p8
    · exact spc_le pwd
  refine WJ_of (fun z ρ => ρ = σ ∧ z = enc (mvo p (enF T e 0))) (fun J hJ => ?_) ?_
  · cases hpe : enP T e 0 with
    | false =>
      rw [if_pos (by decide)]
      exact hJ _ _ ⟨rfl, by rw [hFw, if_pos (hP.mpr hpe)]⟩
    | true =>
      rw [if_neg (by decide)]
      refine kr_spc hK hS _ rfl pwd ?_
      exact hJ _ _ ⟨rfl, by rw [hFw, if_neg (fun z => by rw [hP.mp z] at hpe; cases hpe)]⟩
  rintro z ρ ⟨rfl, rfl⟩
  refine kr_name hK hS _ rfl pF ?_
  refine kr_spc hK hS _ rfl nmg_le ?_
  have pT : ple e (spc T e (nmg T e true (enF T e 0))) := spc_le nmg_le
  have eT : enT T e 0 = spc T e (nmg T e true (enF T e 0)) := rfl
  rw [← eT] at pT ⊢
  refine kr_etx hK hc hS _ rfl pT ?_
  have hB : enB T e 0 = if etx T e (enT T e 0) = none then (if ¬ wd T e [78, 68, 65, 84, 65] (spc T e (outs T e (enT T e 0))) = none ∧ enP T e 0 = false then nmg T e true (spc T e (wd T e [78, 68, 65, 84, 65] (spc T e (outs T e (enT T e 0))))) else outs T e (enT T e 0)) else etx T e (enT T e 0) := en_eq.symm
  have pB : ple e (enB T e 0) := by
    rw [hB]
    split
    · split
      · exact nmg_le
      · exact outs_le
    · intro i hi
      cases hen : enT T e 0 with
      | none => rw [hen] at hi; cases hi
      | some t0 =>
        rw [hen] at hi
        have hi' : (if isQt (lk T e t0) = true then etg T e (T t0) (e + 1) (t0 + 1) else none) = some i := hi
        by_cases cq : isQt (lk T e t0) = true
        · rw [if_pos cq] at hi'
          have cq' : T t0 = 34 ∨ T t0 = 39 := by
            unfold isQt at cq
            rw [Bool.or_eq_true, beq_iff_eq, beq_iff_eq] at cq
            rcases cq with y | y
            · exact Or.inl (lk_lt (by decide) y).2
            · exact Or.inr (lk_lt (by decide) y).2
          exact (etg_ltl cq' _ _ _ hi').2.1
        · rw [if_neg cq] at hi'; cases hi'
  refine WJ_of (fun z ξ => ξ = ρ ∧ z = enc (mvo p (enB T e 0))) (fun J hJ => ?_) ?_
  · by_cases cx : etx T e (enT T e 0) = none
    · rw [if_pos ((hvP _).mpr cx)]
      rw [if_pos cx] at hB
      refine kr_outside hK hc hS _ rfl pT ?_
      refine kr_spc hK hS _ rfl outs_le ?_
      refine kr_word hK hS _ rfl (spc_le outs_le) ti_1145 ?_
      have pD : ple e (wd T e [78, 68, 65, 84, 65] (spc T e (outs T e (enT T e 0)))) := wdl_le ti_1145 (spc_le outs_le)
      by_cases cd : ¬ wd T e [78, 68, 65, 84, 65] (spc T e (outs T e (enT T e 0))) = none ∧ enP T e 0 = false
      · rw [if_pos cd] at hB
        rw [if_pos ⟨fun z => cd.1 (by
          cases hw : wd T e [78, 68, 65, 84, 65] (spc T e (outs T e (enT T e 0))) with
          | none => rfl
          | some u => rw [hw] at z; exact absurd z (by show ¬ ((p + u : Nat) : Int) < 0; omega)), by rw [cd.2]; rfl⟩]
        refine kr_spc hK hS _ rfl pD ?_
        refine kr_name hK hS _ rfl (spc_le pD) ?_
        exact hJ _ _ ⟨rfl, by rw [hB]⟩
      · rw [if_neg cd] at hB
        rw [if_neg (fun z => cd ⟨fun y => z.1 (by rw [y]; show (-1 : Int) < 0; decide), by
          cases hpe : enP T e 0 with
          | false => rfl
          | true => rw [hpe] at z; exact absurd z.2 (by decide)⟩)]
        exact hJ _ _ ⟨rfl, by rw [hB]⟩
    · rw [if_neg (fun z => cx ((hvP _).mp z))]
      exact hJ _ _ ⟨rfl, by rw [hB, if_neg cx]⟩
  rintro z ξ ⟨rfl, rfl⟩
  refine kr_asp hK hS _ rfl pB ?_
  refine kr_word hK hS _ rfl (asp_le pB) ti_1124 ?_
  have ek : enk T e 0 = wd T e [62] (asp T e (enB T e 0)) := rfl
  rw [← ek]
  have hidd : iEnt a = match enF T e 0, enT T e 0, enk T e 0 with
    | some f, some t, some k => if isQt (lk T e t) = false then .inl 3 else match nmg T e true (some f), etx T e (some t) with
      | some n, some m => match enx e (sl T (t + 1) (m - 1 - (t + 1))) [] with
        | .inl g => .inl g
        | .inr tx => .inr (adv (sN (if (eno (aE a) (sl T f (n - f)) (enP T e 0)).isSome = true then a else sE a (aE a ++ [(sl T f (n - f), enP T e 0, tx)])) 2 (aN a 2 + (hasc (sl T f (n - f))).toNat)) k)
      | _, _ => .inl 5
    | _, _, _ => .inl 5 := by rw [← hT, ← he]; rfl
  refine sp_K_written rfl h.f3 (fun hn => ?_) (fun k0 hk0 hv0 => ?_)
  · rw [if_pos rfl]
    refine hq.1 5 ?_ _ pf_eq (pf_nk (by decide))
    rw [hidd, mvo_eq_none.mp hn]
    cases enF T e 0 <;> cases enT T e 0 <;> rfl
  rw [if_neg (by decide)]
  obtain ⟨k, hk, e1⟩ := mvo_eq_some.mp hk0
  have hkl : k ≤ e := by rw [ek] at hk; exact wdl_le ti_1124 (asp_le pB) _ hk
  -- what is there
  cases hBb : enB T e 0 with
  | none => rw [ek, hBb] at hk; cases hk
  | some m =>
  cases hTt : enT T e 0 with
  | none =>
    have : enB T e 0 = none := by unfold enB; rw [hTt]
    rw [this] at hBb; cases hBb
  | some t0 =>
  cases hFf : enF T e 0 with
  | none =>
    rw [eT, hFf] at hTt; cases hTt
  | some f =>
  cases hNn : nmg T e true (some f) with
  | none => rw [eT, hFf, hNn] at hTt; cases hTt
  | some n =>
  have hnl := nmg_lt hNn
  have hfe := pF f hFf
  rw [hk, hFf, hTt] at hidd
  have hidd2 : iEnt a = if isQt (lk T e t0) = false then .inl 3 else match nmg T e true (some f), etx T e (some t0) with
      | some n, some m => match enx e (sl T (t0 + 1) (m - 1 - (t0 + 1))) [] with
        | .inl g => .inl g
        | .inr tx => .inr (adv (sN (if (eno (aE a) (sl T f (n - f)) (enP T e 0)).isSome = true then a else sE a (aE a ++ [(sl T f (n - f), enP T e 0, tx)])) 2 (aN a 2 + (hasc (sl T f (n - f))).toNat)) k)
      | _, _ => .inl 5 := hidd
  rw [hTt] at hB
  rw [hNn] at hidd2
  cases hx : etx T e (some t0) with
  | none =>
    rw [if_pos ((hvP none).mpr rfl)]
    refine sp_K_fail h.f3 ?_
    have cq : isQt (lk T e t0) = false := by
      cases hb : isQt (lk T e t0) with
      | false => rfl
      | true =>
        have : enB T e 0 = etx T e (some t0) := by
          unfold enB
          rw [hTt]
          exact if_pos hb
        rw [this, hx] at hBb
        cases hBb
    rw [if_pos cq] at hidd2
    exact hq.1 3 hidd2 _ pf_eq (pf_nk (by decide))
  | some m' =>
  rw [if_neg (fun z => by have := (hvP (some m')).mp z; cases this)]
  have hmm : m' = m := by
    rw [hx, if_neg (by simp)] at hB
    rw [hBb] at hB
    exact (Option.some.inj hB).symm
  subst hmm
  have cq : isQt (lk T e t0) = true := by
    cases hb : isQt (lk T e t0) with
    | true => rfl
    | false =>
      have : (if isQt (lk T e t0) = true then etg T e (T t0) (e + 1) (t0 + 1) else none) = some m' := hx
      rw [hb, if_neg (by decide)] at this
      cases this
  have het : etg T e (T t0) (e + 1) (t0 + 1) = some m' := by
    have : (if isQt (lk T e t0) = true then etg T e (T t0) (e + 1) (t0 + 1) else none) = some m' := hx
    rw [if_pos cq] at this
    exact this
  have cq' : T t0 = 34 ∨ T t0 = 39 := by
    unfold isQt at cq
    rw [Bool.or_eq_true, beq_iff_eq, beq_iff_eq] at cq
    rcases cq with y | y
    · exact Or.inl (lk_lt (by decide) y).2
    · exact Or.inr (lk_lt (by decide) y).2
  have hml := etg_ltl cq' _ _ _ het
  rw [if_neg (by rw [cq]; decide), hx] at hidd2
  have hidd3 : iEnt a = match enx e (sl T (t0 + 1) (m' - 1 - (t0 + 1))) [] with
        | .inl g => .inl g
        | .inr tx => .inr (adv (sN (if (eno (aE a) (sl T f (n - f)) (enP T e 0)).isSome = true then a else sE a (aE a ++ [(sl T f (n - f), enP T e 0, tx)])) 2 (aN a 2 + (hasc (sl T f (n - f))).toNat)) k) := hidd2
  generalize hnn : m' - 1 - (t0 + 1) = nn at hidd3
  have hm' : m' = t0 + 1 + nn + 1 := by omega
  generalize hRr : enx e (sl T (t0 + 1) nn) [] = Rr at hidd3
  have e12 : enc (mvo p (some t0)) + 1 = ((p + (t0 + 1) : Nat) : Int) := by show ((p + t0 : Nat) : Int) + 1 = _; omega
  have e17 : enc (mvo p (some m')) - 1 = ((p + (t0 + 1 + nn) : Nat) : Int) := by show ((p + m' : Nat) : Int) - 1 = _; omega
  rw [e12, e17, hk, show enc (mvo p (some n)) - enc (mvo p (some f)) = ((n - f : Nat) : Int) from (by show ((p + n : Nat) : Int) - ((p + f : Nat) : Int) = _; omega), show enc (mvo p (some f)) = ((p + f : Nat) : Int) from rfl, show enc (mvo p (some k)) = ((p + k : Nat) : Int) from rfl]
  refine ⟨⟨by omega, by omega⟩, ?_⟩
  have z6 : ξ.1 16 6 = ((gC g).length : Int) := h.1.2.2.1.1
  rw [z6]
  have hcc : (gC g).length + e ≤ 262144 := by have := hC.2.1; omega
  have hch : ∀ i, i < e → 0 ≤ T i ∧ T i ≤ 1114111 := fun i hi => by
    have := hc (p + i) (by omega)
    rw [hS i hi] at this
    exact this
  refine WL_ind (fun s ρ => ∃ i : Nat, s = ((p + (t0 + 1 + i) : Nat) : Int) ∧ i ≤ nn ∧ ((∃ (j M : Nat) (acc : List Int), i ≤ j ∧ j ≤ nn ∧ (∀ r, i ≤ r → r < j → T (t0 + 1 + r) ≠ 37 ∧ T (t0 + 1 + r) ≠ 38) ∧ etg T e (T t0) (e + 1) (t0 + 1 + j) = some (t0 + 1 + nn + 1) ∧ Rr = enx M (sl T (t0 + 1 + j) (nn - j)) (acc ++ sl T (t0 + 1 + i) (j - i)) ∧ nn - j < M ∧ acc.length ≤ i ∧ RK rm nd o ρ (gB g, gC g ++ acc, gP g, gV g) a ∧ (∀ pp kk, ¬ (pp = 16 ∧ kk = 6) → ρ.1 pp kk = ξ.1 pp kk) ∧ ∀ r, r ≠ 176 → ρ.2 r = ξ.2 r) ∨ (∃ ff : Nat, ff ≠ 0 ∧ Rr = .inl ff ∧ ρ.1 16 3 = (ff : Int) ∧ ρ.1 16 4 = ξ.1 16 4))) (fun s _ => (((p + (t0 + 1 + nn) : Nat) : Int) - s).toNat) ?_ _ ξ ⟨0, by omega, Nat.zero_le _, Or.inl ⟨0, e, [], Nat.le_refl _, Nat.zero_le _, fun r h1 h2 => absurd h2 (Nat.not_lt_zero r), by rw [Nat.add_zero, het, hm'], by rw [← hRr]; rfl, by omega, Nat.zero_le _, by rw [List.append_nil]; exact h, fun _ _ _ => rfl, fun _ _ => rfl⟩⟩
  rintro s' ρ ⟨i, rfl, hin, hI⟩ K hK'
  try dsimp only
  refine ⟨⟨by omega, by omega⟩, ?_⟩
  rcases hI.symm with ⟨ff, hff, hRf, h3, h4⟩ | ⟨j, M, acc, hij, hjn, hno, hej, hRs, hMj, hac, hR, f1, f2⟩
  · rw [if_neg (fun z => by have := z.2; omega), if_pos (by omega)]
    exact hq.1 ff (by rw [hidd3, hRf]) ρ h3 h4
  clear hI
  have hρ3 : ρ.1 16 3 = 0 := hR.f3
  have hρ6 : ρ.1 16 6 = (((gC g).length + acc.length : Nat) : Int) := by
    have : ρ.1 16 6 = ((gC g ++ acc).length : Int) := hR.1.2.2.1.1
    rw [this, List.length_append]
  have hSρ : SHT T (ρ.2 176) e p := fun i hi => by
    have y1 : ρ.2 176 (p + i) = (gC g ++ acc).getD (p + i) 0 := hR.1.2.2.1.2.2.1 (p + i) (by show p + i < (gC g ++ acc).length; rw [List.length_append]; omega)
    have y2 : ξ.2 176 (p + i) = (gC g).getD (p + i) 0 := h.1.2.2.1.2.2.1 (p + i) (by omega)
    rw [y1, getD_app_l (by omega), ← y2]
    exact hS i hi
  by_cases ci : i = nn
  · -- the text is made
    have hj : j = nn := by omega
    subst hj
    subst ci
    have hRr' : Rr = .inr acc := by
      rw [hRs, Nat.sub_self]
      cases M with
      | zero => omega
      | succ M => rw [sl_zero, List.append_nil]; rfl
    rw [if_neg (fun z => by have := z.1; omega), if_neg (by omega)]
    rw [hRr'] at hidd3
    have hid : iEnt a = .inr (adv (sN (if (eno (aE a) (sl T f (n - f)) (enP T e 0)).isSome = true then a else sE a (aE a ++ [(sl T f (n - f), enP T e 0, acc)])) 2 (aN a 2 + (hasc (sl T f (n - f))).toNat)) k) := hidd3
    have hnm : nmE a = [sl T f (n - f)] := by
      unfold nmE
      rw [hid, hT, he, hFf, hNn]
    rw [hnm] at hcap hq
    refine ⟨⟨by omega, by omega⟩, ?_⟩
    have esl : sl (ρ.2 176) (p + f) (n - f) = sl T f (n - f) := sh_sl hSρ (by omega)
    generalize hsn : sl T f (n - f) = s at *
    refine sp_K_kp (p := p + f) (n := n - f) hL hR (by omega) rfl rfl esl hcap.1 (fun v19 σ1 hv1 hR1 hf1 => ?_)
    have hR1' : RK rm nd o σ1 (kpS (gB g) s, gC g ++ acc, gP g, gV g) a := hR1
    have hv1' : Kn (kpS (gB g) s) v19 s := hv1
    have hN2 : aN a 2 ≤ 1000000 := by have := hG.2.1.2; have := hG.1.2; have := hL.2.2.1; omega
    refine sp_K_colons hL hR1' hv1' hN2 (fun hR2 => ?_)
    generalize hx2 : aN a 2 + (hasc s).toNat = x2 at *
    have g1 : (pr σ1 (rfo o 19) 5 (x2 : Int)).1 = σ1.1 := rfl
    have g2 : ∀ r, r ≠ rfo o 19 → (pr σ1 (rfo o 19) 5 (x2 : Int)).2 r = σ1.2 r := fun r z => by funext j; rw [pr_2, if_neg (fun y => z y.1)]
    generalize pr σ1 (rfo o 19) 5 (x2 : Int) = σ2 at hR2 g1 g2 ⊢
    have F2 : ∀ pp kk, ¬ (pp = 13 ∧ (kk = 1 ∨ kk = 6)) → ¬ (pp = 16 ∧ kk = 6) → σ2.1 pp kk = ξ.1 pp kk := fun pp kk z1 z2 => by rw [g1, hf1.1 pp kk z1]; exact f1 pp kk z2
    have R2 : ∀ r, r < 211 ∨ 215 < r → r ≠ 176 → r ≠ rfo o 19 → σ2.2 r = ξ.2 r := fun r z1 z2 z3 => by
      rw [g2 r z3]
      exact (funext (fun j => hf1.2 r j z1)).trans (f2 r z2)
    have h26 : σ2.1 16 6 = (((gC g).length + acc.length : Nat) : Int) := by rw [g1, hf1.1 16 6 (by omega)]; exact hρ6
    refine sp_K_entityOf (b := enP T e 0) hL hR2 (by show (aE a).length ≤ _; omega) hv1'.f rfl ?_
    have hr3 : ∀ B : AS, aF B = aF a → aN B = aN (sN a 2 x2) → rem (adv B k) + k = rem a ∧ aN (adv B k) 0 = aN a 0 ∧ aN (adv B k) 8 = aN a 8 ∧ aN (adv B k) 1 = aN a 1 := fun B b1' b2 => by
      have hcB : cur B = cur a := by unfold cur; rw [b1']
      have y1 := rem_adv (a := B) (k := k) (by rw [hcB, he]; exact hkl)
      have y2 : aN (adv B k) = aN B := (adv_other).2.1
      refine ⟨?_, by rw [y2, b2]; rfl, by rw [y2, b2]; rfl, by rw [y2, b2]; rfl⟩
      rw [y1]
      unfold rem
      rw [b1']
    obtain ⟨c1, c2, c3, c4⟩ := hC
    show WJ _ (fun J70 => if enc (eno (aE a) s (enP T e 0)) < 0 then _ else _)
    cases hen : eno (aE a) s (enP T e 0) with
    | some i0 =>
      refine WJ_dir ?_
      rw [if_neg (show ¬ enc (some i0) < 0 from (by show ¬ ((i0 : Nat) : Int) < 0; omega))]
      rw [hen, if_pos (show (some i0).isSome = true from rfl)] at hid
      have hfin : RK rm nd o (pf σ2 16 6 ((gC g).length : Int)) (kpS (gB g) s, gC g, gP g, gV g) (sN a 2 x2) := by
        have hF : ∀ pp kk, ¬ (pp = 13 ∧ (kk = 1 ∨ kk = 6)) → (pf σ2 16 6 ((gC g).length : Int)).1 pp kk = ξ.1 pp kk := fun pp kk x => by
          rw [pf_1]
          by_cases c : pp = 16 ∧ kk = 6
          · rw [if_pos c, c.1, c.2]; exact z6.symm
          · rw [if_neg c]; exact F2 pp kk x c
        have hR' : ∀ r : Nat, ¬ (r = 176 ∨ (211 ≤ r ∧ r ≤ 215) ∨ r = 222 + 14 * (o - 14)) → (pf σ2 16 6 ((gC g).length : Int)).2 r = ξ.2 r := fun r z => R2 r (by omega) (by omega) (by omega)
        have hZ2 : KZ rm nd o (pf σ2 16 6 ((gC g).length : Int)) (kpS (gB g) s, gC g, gP g, gV g) := KZ.shr (acc := acc) ho hR2.1 (fun pp kk x => by rw [pf_1, if_neg (by omega)]) (fun r x => rfl) pf_eq
        have hNn2 := hR2.2.2.2.1
        have hR := hR'
        refine (RK.mk' ho h kpS_pre cle.refl cle.refl hZ2 (Or.inl ⟨fun k x y => hF 16 k (by omega), fun r x y => hR r (by omega), rfl⟩) (Or.inl ⟨hF 16 32 (by omega), fun r x y => hR r (by omega), rfl, rfl⟩) (Or.inr ?_) (Or.inl ⟨hF 16 20 (by omega), hF 16 24 (by omega), rfl⟩) (Or.inl ⟨hF 16 40 (by omega), hF 16 47 (by omega), hF 16 58 (by omega), fun r x => hR r (by omega), rfl⟩) (Or.inl ⟨hF 16 56 (by omega), hF 16 58 (by omega), fun r x y => hR r (by omega), rfl⟩) (Or.inl ⟨hF 16 34 (by omega), hR 187 (by omega), rfl⟩) (Or.inl ⟨hF o 7 (by omega), fun k x y => hR _ (by have := rf_3 ho x y; omega), rfl⟩) (Or.inl ⟨hF 16 64 (by omega), hF 16 66 (by omega), fun r x y => hR r (by omega), hR 181 (by omega), rfl, rfl, rfl⟩) (Or.inl ⟨hF o 14 (by omega), fun k x y => hR _ (by have := rf_8 ho x y; omega), rfl, rfl⟩) (Or.inl ⟨fun k x => hF o k (by omega), hR _ (by have := rf_1 ho; omega), rfl, rfl, rfl⟩) (hF 16 3 (by omega)) (Or.inl ⟨hF 16 18 (by omega), hR 178 (by omega), rfl, rfl, rfl, hF 16 47 (by omega), hF 16 58 (by omega), rfl, rfl⟩))
        exact hNn2.dep (fun kk z => by rw [pf_1, if_neg (by omega)]) rfl
      have hg := hfin.go hL (k := k) (by show k ≤ (cur a).length; rw [he]; exact hkl)
      rw [pf_nk (by decide), F2 16 16 (by omega) (by omega), h1, show (p : Int) + (k : Int) = ((p + k : Nat) : Int) by omega] at hg
      obtain ⟨w1, w2, w3, w4⟩ := hr3 (sN a 2 x2) rfl rfl
      refine hq.2 _ hid _ _ hg rfl (fun _ => rfl) (fun _ _ => rfl) ⟨?_, ?_, ?_, ?_⟩ (by rw [pf_nk (by decide), pf_nk (by decide), F2 16 4 (by omega) (by omega)]) (by rw [pf_nk (by decide), pf_nk (by decide), F2 16 15 (by omega) (by omega)]; omega)
      · rw [w2]; show (gP g).length + _ ≤ _; omega
      · rw [w2, w3]; show (gC g).length + _ ≤ _; omega
      · rw [w2]; exact c3
      · rw [w4]; exact c4
    | none =>
      refine WJ_dir ?_
      rw [if_pos (show enc none < 0 by decide)]
      rw [hen, if_neg (by decide)] at hid
      have e32 : σ2.1 16 32 = ((aE a).length : Int) := hR2.2.2.1.1
      have l2 := hL.2.2.2.2.2.2.1 182 (by omega) (by omega)
      have l3 := hL.2.2.2.2.2.2.1 183 (by omega) (by omega)
      have l4 := hL.2.2.2.2.2.2.1 184 (by omega) (by omega)
      have l5 := hL.2.2.2.2.2.2.1 185 (by omega) (by omega)
      have l6 := hL.2.2.2.2.2.2.1 186 (by omega) (by omega)
      rw [e32, h26, show Int.toNat ((aE a).length : Int) = (aE a).length from rfl, show (((gC g).length + acc.length : Nat) : Int) - ((gC g).length : Int) = (acc.length : Int) by omega]
      refine ⟨⟨by omega, by omega⟩, ⟨by omega, by omega⟩, ⟨by omega, by omega⟩, ⟨by omega, by omega⟩, ⟨by omega, by omega⟩, ⟨by omega, by omega⟩, ⟨by omega, by omega⟩, ?_⟩
      generalize hs3 : pf (pr (pr (pr (pr (pr σ2 182 (aE a).length v19) 183 (aE a).length (b1 (enP T e 0))) 184 (aE a).length ((gC g).length : Int)) 185 (aE a).length (acc.length : Int)) 186 (aE a).length 0) 16 32 (((aE a).length : Int) + 1) = s3
      have hF : ∀ pp kk, ¬ (pp = 16 ∧ kk = 32) → s3.1 pp kk = σ2.1 pp kk := fun pp kk z => by rw [← hs3, pf_1, if_neg z, pr_1, pr_1, pr_1, pr_1, pr_1]
      have hRw : ∀ r : Nat, ¬ (182 ≤ r ∧ r ≤ 186) → s3.2 r = σ2.2 r := fun r z => by funext j; rw [← hs3, pf_2, pr_2, if_neg (by omega), pr_2, if_neg (by omega), pr_2, if_neg (by omega), pr_2, if_neg (by omega), pr_2, if_neg (by omega)]
      have hfin : RK rm nd o s3 (kpS (gB g) s, gC g ++ acc, gP g, gV g) (sE (sN a 2 x2) (aE a ++ [(s, enP T e 0, acc)])) := by
        have h := hR2
        have hR := hRw
        refine (RK.mk' ho h kle.refl cle.refl cle.refl (h.1.dep ho (fun p k x => hF p k (by omega)) (fun r x => hR r (by omega))) (Or.inl ⟨fun k x y => hF 16 k (by omega), fun r x y => hR r (by omega), rfl⟩) (Or.inr ?_) (Or.inl ⟨fun k x => hF 16 k (by omega), hR _ (by have := rf_1 ho; omega), rfl⟩) (Or.inl ⟨hF 16 20 (by omega), hF 16 24 (by omega), rfl⟩) (Or.inl ⟨hF 16 40 (by omega), hF 16 47 (by omega), hF 16 58 (by omega), fun r x => hR r (by omega), rfl⟩) (Or.inl ⟨hF 16 56 (by omega), hF 16 58 (by omega), fun r x y => hR r (by omega), rfl⟩) (Or.inl ⟨hF 16 34 (by omega), hR 187 (by omega), rfl⟩) (Or.inl ⟨hF o 7 (by omega), fun k x y => hR _ (by have := rf_3 ho x y; omega), rfl⟩) (Or.inl ⟨hF 16 64 (by omega), hF 16 66 (by omega), fun r x y => hR r (by omega), hR 181 (by omega), rfl, rfl, rfl⟩) (Or.inl ⟨hF o 14 (by omega), fun k x y => hR _ (by have := rf_8 ho x y; omega), rfl, rfl⟩) (Or.inl ⟨fun k x => hF o k (by omega), hR _ (by have := rf_1 ho; omega), rfl, rfl, rfl⟩) (hF 16 3 (by omega)) (Or.inl ⟨hF 16 18 (by omega), hR 178 (by omega), rfl, rfl, rfl, hF 16 47 (by omega), hF 16 58 (by omega), rfl, rfl⟩))
        have hpc : Kpc (gC g ++ acc) ((gC g).length : Int) acc := Kpc.mk' rfl (by rw [List.length_append]; exact Nat.le_refl _) (fun j hj => by
          rw [List.getD_eq_getElem?_getD, List.getD_eq_getElem?_getD, List.getElem?_append_right (by omega), Nat.add_sub_cancel_left])
        refine KEn.app (τ := s3) hR2.2.2.1 hv1' hpc (fun kk hkk => ?_) (by rw [← hs3, pf_eq, e32]) (fun jj => ?_) (fun jj => ?_) (fun jj => ?_) (fun jj => ?_) (fun jj => ?_)
        · obtain ⟨fr, fr1, fr2⟩ := List.mem_map.mp hkk
          rw [← fr2]
          exact hG.2.2.2.2.2.2.2.2.1.2 fr fr1
        · rw [← hs3, pf_2, pr_2, if_neg (by omega), pr_2, if_neg (by omega), pr_2, if_neg (by omega), pr_2, if_neg (by omega), pr_2]
          by_cases y : jj = (aE a).length
          · rw [if_pos ⟨rfl, y⟩, if_pos y]
          · rw [if_neg (fun w => y w.2), if_neg y]
        · rw [← hs3, pf_2, pr_2, if_neg (by omega), pr_2, if_neg (by omega), pr_2, if_neg (by omega), pr_2]
          by_cases y : jj = (aE a).length
          · rw [if_pos ⟨rfl, y⟩, if_pos y]
          · rw [if_neg (fun w => y w.2), if_neg y, pr_2, if_neg (by omega)]
        · rw [← hs3, pf_2, pr_2, if_neg (by omega), pr_2, if_neg (by omega), pr_2]
          by_cases y : jj = (aE a).length
          · rw [if_pos ⟨rfl, y⟩, if_pos y]
          · rw [if_neg (fun w => y w.2), if_neg y, pr_2, if_neg (by omega), pr_2, if_neg (by omega)]
        · rw [← hs3, pf_2, pr_2, if_neg (by omega), pr_2]
          by_cases y : jj = (aE a).length
          · rw [if_pos ⟨rfl, y⟩, if_pos y]
          · rw [if_neg (fun w => y w.2), if_neg y, pr_2, if_neg (by omega), pr_2, if_neg (by omega), pr_2, if_neg (by omega)]
        · rw [← hs3, pf_2, pr_2]
          by_cases y : jj = (aE a).length
          · rw [if_pos ⟨rfl, y⟩, if_pos y]
          · rw [if_neg (fun w => y w.2), if_neg y, pr_2, if_neg (by omega), pr_2, if_neg (by omega), pr_2, if_neg (by omega), pr_2, if_neg (by omega)]
      have hg := hfin.go hL (k := k) (by show k ≤ (cur a).length; rw [he]; exact hkl)
      rw [hF 16 16 (by omega), F2 16 16 (by omega) (by omega), h1, show (p : Int) + (k : Int) = ((p + k : Nat) : Int) by omega] at hg
      obtain ⟨w1, w2, w3, w4⟩ := hr3 (sE (sN a 2 x2) (aE a ++ [(s, enP T e 0, acc)])) rfl rfl
      refine hq.2 _ hid _ _ hg rfl (fun z => absurd (congrArg List.length ((adv_other (a := sE (sN a 2 x2) (aE a ++ [(s, enP T e 0, acc)])) (k := k)).1.symm.trans z)) (by show ¬ (aE a ++ [(s, enP T e 0, acc)]).length = 0; rw [List.length_append]; exact Nat.succ_ne_zero _)) (fun _ _ => rfl) ⟨?_, ?_, ?_, ?_⟩ (by rw [pf_nk (by decide), hF 16 4 (by omega), F2 16 4 (by omega) (by omega)]) (by rw [pf_nk (by decide), hF 16 15 (by omega), F2 16 15 (by omega) (by omega)]; omega)
      · show (gP g).length + rem (adv (sE (sN a 2 x2) (aE a ++ [(s, enP T e 0, acc)])) k) ≤ aN (adv (sE (sN a 2 x2) (aE a ++ [(s, enP T e 0, acc)])) k) 0
        rw [w2]; omega
      · show (gC g ++ acc).length + rem (adv (sE (sN a 2 x2) (aE a ++ [(s, enP T e 0, acc)])) k) ≤ aN (adv (sE (sN a 2 x2) (aE a ++ [(s, enP T e 0, acc)])) k) 8 + aN (adv (sE (sN a 2 x2) (aE a ++ [(s, enP T e 0, acc)])) k) 0
        have hka : t0 + 1 + i + 1 ≤ k := by
          rw [ek] at hk
          rw [hBb] at hk
          have hk' : wd T e [62] (some (sk isSp T e m')) = some k := hk
          have y1 := wd_gt hk'
          have y2 := sk_gt (p := isSp) (T := T) (e := e) (i := m')
          have y3 : ([62] : List Int).length = 1 := rfl
          omega
        rw [w2, w3, List.length_append]; omega
      · show aN (adv (sE (sN a 2 x2) (aE a ++ [(s, enP T e 0, acc)])) k) 0 ≤ rm
        rw [w2]; exact c3
      · show gV g 22 = aN (adv (sE (sN a 2 x2) (aE a ++ [(s, enP T e 0, acc)])) k) 1
        rw [w4]; exact c4
  · -- one more
    have hil : i < nn := by omega
    rw [if_pos ⟨by omega, hρ3⟩, show Int.toNat ((p + (t0 + 1 + i) : Nat) : Int) = p + (t0 + 1 + i) from rfl, hSρ (t0 + 1 + i) (by omega)]
    refine ⟨⟨by omega, by omega⟩, WJ_dir ?_⟩
    have hchi := hch (t0 + 1 + i) (by omega)
    -- a character is put
    have put : ∀ (s1 c : Int) (i' j' M2 : Nat), s1 + 1 = ((p + (t0 + 1 + i') : Nat) : Int) → i < i' → i' ≤ nn → 0 ≤ c → c ≤ 1114111 → i' ≤ j' → j' ≤ nn → (∀ r, i' ≤ r → r < j' → T (t0 + 1 + r) ≠ 37 ∧ T (t0 + 1 + r) ≠ 38) → etg T e (T t0) (e + 1) (t0 + 1 + j') = some (t0 + 1 + nn + 1) → Rr = enx M2 (sl T (t0 + 1 + j') (nn - j')) ((acc ++ [c]) ++ sl T (t0 + 1 + i') (j' - i')) → nn - j' < M2 → inL L 176 (ρ.1 16 6) ∧ inR (ρ.1 16 6 + 1) ∧ inR (s1 + 1) ∧ K (s1 + 1) (pf (pr ρ 176 (Int.toNat (ρ.1 16 6)) c) 16 6 (ρ.1 16 6 + 1)) := fun s1 c i' j' M2 q1 q2 q3 q4 q5 q6 q7 q8 q9 q10 q11 => by
      have hlen : (gC ((gB g, gC g ++ acc, gP g, gV g) : KG)).length = (gC g).length + acc.length := by
        show (gC g ++ acc).length = _
        rw [List.length_append]
      have hn := hR.ch1 (c := c) hL ⟨q4, q5⟩ (by rw [hlen]; omega)
      rw [hlen] at hn
      rw [hρ6, show Int.toNat (((gC g).length + acc.length : Nat) : Int) = (gC g).length + acc.length from rfl, q1]
      have hn' : RK rm nd o (pf (pr ρ 176 ((gC g).length + acc.length) c) 16 6 ((((gC g).length + acc.length : Nat) : Int) + 1)) (gB g, gC g ++ (acc ++ [c]), gP g, gV g) a := by
        rw [← List.append_assoc]
        exact hn
      refine ⟨⟨by omega, by omega⟩, ⟨by omega, by omega⟩, ⟨by omega, by omega⟩, hK' _ _ ⟨i', rfl, q3, Or.inl ⟨j', M2, acc ++ [c], q6, q7, q8, q9, q10, q11, by rw [List.length_append, List.length_singleton]; omega, hn', fun pp kk z => ?_, fun r z => ?_⟩⟩ (by omega)⟩
      · rw [pf_1, if_neg z, pr_1]; exact f1 pp kk z
      · funext jj; rw [pf_2, pr_2, if_neg (fun y => z y.1), f2 r z]
    -- a fault
    have bad : ∀ (s1 c : Int) (i' ff : Nat), s1 + 1 = ((p + (t0 + 1 + i') : Nat) : Int) → i < i' → i' ≤ nn → ff ≠ 0 → Rr = .inl ff → inL L 176 ((pf ρ 16 3 (ff : Int)).1 16 6) ∧ inR ((pf ρ 16 3 (ff : Int)).1 16 6 + 1) ∧ inR (s1 + 1) ∧ K (s1 + 1) (pf (pr (pf ρ 16 3 (ff : Int)) 176 (Int.toNat ((pf ρ 16 3 (ff : Int)).1 16 6)) c) 16 6 ((pf ρ 16 3 (ff : Int)).1 16 6 + 1)) := fun s1 c i' ff q1 q2 q3 q4 q5 => by
      have e6 : (pf ρ 16 3 (ff : Int)).1 16 6 = (((gC g).length + acc.length : Nat) : Int) := by rw [pf_nk (by decide)]; exact hρ6
      rw [e6, q1]
      refine ⟨⟨by omega, by omega⟩, ⟨by omega, by omega⟩, ⟨by omega, by omega⟩, hK' _ _ ⟨i', rfl, q3, Or.inr ⟨ff, q4, q5, ?_, ?_⟩⟩ (by omega)⟩
      · rw [pf_nk (by decide), pr_1, pf_eq]
      · rw [pf_nk (by decide), pr_1, pf_nk (by decide), f1 16 4 (by omega)]
    by_cases cij : i < j
    · have hx := hno i (Nat.le_refl _) cij
      rw [if_neg hx.1]
      refine ⟨fun z => absurd z hx.2, ?_⟩
      rw [if_neg (fun z => hx.2 z.1)]
      refine put _ _ (i + 1) j M (by omega) (by omega) (by omega) hchi.1 hchi.2 (by omega) hjn (fun r q1 q2 => hno r (by omega) q2) hej ?_ hMj
      rw [hRs, List.append_assoc]
      congr 2
      rw [show j - i = (j - (i + 1)) + 1 by omega, sl_cons2]
      rfl
    · have hj : j = i := by omega
      subst hj
      rw [Nat.sub_self, sl_zero, List.append_nil] at hRs
      have hSl : SHT (gd (sl T (t0 + 1 + j) (nn - j))) (ρ.2 176) (sl T (t0 + 1 + j) (nn - j)).length (p + (t0 + 1 + j)) := fun kk hkk => by
        rw [sl_ln] at hkk
        rw [show p + (t0 + 1 + j) + kk = p + (t0 + 1 + j + kk) by omega, hSρ _ (by omega)]
        unfold gd
        rw [List.getD_eq_getElem?_getD, sl_get hkk]
        rfl
      have hKρ : KT L ρ (p + e) := by unfold KT; rw [f1 16 17 (by omega)]; exact hK
      have hcρ : chs ρ (p + e) := fun kk hkk => by
        have y1 : ρ.2 176 kk = (gC g ++ acc).getD kk 0 := hR.1.2.2.1.2.2.1 kk (by show kk < (gC g ++ acc).length; rw [List.length_append]; omega)
        have y2 : ξ.2 176 kk = (gC g).getD kk 0 := h.1.2.2.1.2.2.1 kk (by omega)
        rw [y1, getD_app_l (by omega), ← y2]
        exact hc kk hkk
      rcases enx_step cq' (by omega) hil hej hRs hMj with ⟨s1, s2⟩ | ⟨s1, s2, jj, s3, s4, s5, s6, s7, s8, s9⟩ | ⟨s1, s2, jj, s3, s4, s5, s6, s7⟩ | ⟨s1, s2, s3, s4⟩
      · rw [if_pos s1]
        refine sp_K_fail hρ3 ?_
        exact bad _ _ (j + 1) 13 (by omega) (by omega) (by omega) (by decide) s2
      · rw [if_neg (by omega)]
        have e35 : ρ.2 176 (Int.toNat (((p + (t0 + 1 + j) : Nat) : Int) + 1)) = 35 := by
          rw [show Int.toNat (((p + (t0 + 1 + j) : Nat) : Int) + 1) = p + (t0 + 1 + j + 1) by omega, hSρ _ (by omega)]
          exact s2
        refine ⟨fun _ => ⟨⟨by omega, by omega⟩, ⟨by omega, by omega⟩⟩, ?_⟩
        rw [if_pos ⟨s1, e35⟩]
        refine kr_meant (P := p + (t0 + 1 + j)) hKρ hcρ (by rw [sl_ln]; omega) hSl s3 s8 rfl ?_
        rcases s9 with ⟨s9, s10⟩ | ⟨s9, s10⟩
        · rw [if_pos s9]
          have hN := isCh_le s9
          refine WJ_dir ?_
          rw [if_neg (by omega)]
          refine kr_ref hKρ hcρ hSρ (some (t0 + 1 + j)) rfl (fun ii hii => by cases hii; omega) ?_
          rw [s4]
          have e48 : enc (mvo p (some (t0 + 1 + (j + jj)))) = ((p + (t0 + 1 + (j + jj)) : Nat) : Int) := rfl
          rw [e48]
          refine ⟨⟨by omega, by omega⟩, ?_⟩
          refine put _ _ (j + jj) (j + jj) (M - 1) (by omega) (by omega) s5 hN.1 hN.2 (Nat.le_refl _) s5 (fun r q1 q2 => by omega) s7 ?_ (by omega)
          rw [s10, Nat.sub_self, sl_zero, List.append_nil]
        · rw [if_neg (by rw [s9]; decide)]
          refine WJ_dir ?_
          rw [if_pos (by decide)]
          refine sp_K_fail hρ3 ?_
          have hKρ2 : KT L (pf ρ 16 3 12) (p + e) := by unfold KT; rw [pf_nk (by decide)]; exact hKρ
          refine kr_ref (σ := pf ρ 16 3 12) hKρ2 hcρ hSρ (some (t0 + 1 + j)) rfl (fun ii hii => by cases hii; omega) ?_
          rw [s4]
          have e48 : enc (mvo p (some (t0 + 1 + (j + jj)))) = ((p + (t0 + 1 + (j + jj)) : Nat) : Int) := rfl
          rw [e48]
          refine ⟨⟨by omega, by omega⟩, ?_⟩
          exact bad _ _ (j + jj) 12 (by omega) (by omega) s5 (by decide) s10
      · rw [if_neg (by omega)]
        have e35 : ρ.2 176 (Int.toNat (((p + (t0 + 1 + j) : Nat) : Int) + 1)) = T (t0 + 1 + j + 1) := by
          rw [show Int.toNat (((p + (t0 + 1 + j) : Nat) : Int) + 1) = p + (t0 + 1 + j + 1) by omega, hSρ _ (by omega)]
        refine ⟨fun _ => ⟨⟨by omega, by omega⟩, ⟨by omega, by omega⟩⟩, ?_⟩
        rw [if_neg (fun z => s2 (by rw [← e35]; exact z.2))]
        refine put _ _ (j + 1) (j + jj) (M - 1) (by omega) (by omega) (by omega) hchi.1 hchi.2 (by omega) s4 (fun r q1 q2 => ?_) s5 ?_ (by omega)
        · have := s6 (r - j) (by omega) (by omega)
          rw [show t0 + 1 + j + (r - j) = t0 + 1 + r by omega] at this
          exact this
        · rw [s7, List.append_assoc]
          congr 2
          rw [show j + jj - (j + 1) = jj - 1 by omega]
          obtain ⟨j1, rfl⟩ : ∃ j1, jj = j1 + 1 := ⟨jj - 1, by omega⟩
          rw [sl_cons2]
          rfl
      · rw [if_neg s1]
        refine ⟨fun z => absurd z s2, ?_⟩
        rw [if_neg (fun z => s2 z.1)]
        refine put _ _ (j + 1) (j + 1) (M - 1) (by omega) (by omega) (by omega) hchi.1 hchi.2 (Nat.le_refl _) (by omega) (fun r q1 q2 => by omega) s3 ?_ (by omega)
        rw [s4, Nat.sub_self, sl_zero, List.append_nil]
end Keo
