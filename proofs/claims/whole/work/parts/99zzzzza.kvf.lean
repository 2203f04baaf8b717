/-! ===== the reference: a value is found ===== -/
/-- texts that are gone through in a value -/
def KVl (ρ : IS) (cs : List Int) : List (List Int × Nat) → Prop
  | [] => True
  | z :: st => (Kpc cs (ρ.2 208 st.length) z.1 ∧ ρ.2 209 st.length = ρ.2 208 st.length + (z.1.length : Int) ∧ (st ≠ [] → ρ.2 210 st.length + 1 = (z.2 : Int))) ∧ KVl ρ cs st
/-- what a value leaves as it was -/
def FD (o : Nat) (σ ρ : IS) : Prop := (∀ pp kk, ¬ ((pp = 16 ∧ kk = 25) ∨ (pp = o ∧ kk = 2)) → ρ.1 pp kk = σ.1 pp kk) ∧ ∀ r, ¬ (r = rfo o 1 ∨ r = rfo o 18 ∨ r = 186 ∨ (208 ≤ r ∧ r ≤ 210)) → ρ.2 r = σ.2 r
section Km2
variable {L : Nat → Nat} {Q : Int → IS → Prop} {σ : IS} {e : Nat}
theorem sp_meant2 (hk2 : L 176 = 262144) (hk3 : e ≤ 262144) (hc : chs σ e) {x : Int} (i j : Nat) (hx : x = (i : Int)) (hex : Bool) (hh : hex = true ↔ σ.2 176 (i + 2) = 120) (k0 : Nat) (hk0 : k0 = if hex = true then i + 3 else i + 2) (hkj : k0 ≤ j) (hj : j < e) (hs : σ.2 176 j = 59) (hd : ∀ q, k0 ≤ q → q < j → (if hex = true then hexd (σ.2 176 q) else isDg (σ.2 176 q)) = true)
    (h : Q (if isCh (numl (if hex = true then 16 else 10) (sl (σ.2 176) k0 (j - k0))) = true then numl (if hex = true then 16 else 10) (sl (σ.2 176) k0 (j - k0)) else -1) σ) : w_KReader_meant L 176 x Q σ := by
  have hi2 : i + 2 ≤ k0 := by cases hex <;> simp at hk0 <;> omega
  unfold w_KReader_meant
  rw [show Int.toNat (x + 2) = i + 2 by omega]
  have ehex : (if σ.2 176 (i + 2) = 120 then (1 : Int) else (0 : Int)) = b1 hex := by
    cases hex with
    | true => rw [if_pos (hh.mp rfl)]; rfl
    | false => rw [if_neg (fun z => Bool.noConfusion (hh.mpr z))]; rfl
  rw [ehex]
  refine ⟨⟨by omega, by omega⟩, ⟨by omega, by omega⟩, ⟨fun _ => ⟨by omega, by omega⟩, fun _ => ⟨by omega, by omega⟩⟩, ?_⟩
  have eb : (if b1 hex = 0 then (10 : Int) else (16 : Int)) = if hex = true then 16 else 10 := by cases hex <;> rfl
  have ek : (if b1 hex = 0 then (x + 2) else (x + 3)) = (k0 : Int) := by
    cases hex
    · rw [if_pos (show b1 false = 0 from rfl)]; simp at hk0; omega
    · rw [if_neg (show ¬ b1 true = 0 by decide)]; simp at hk0; omega
  rw [eb, ek]
  have hb : (if hex = true then (16 : Int) else 10) = 10 ∨ (if hex = true then (16 : Int) else 10) = 16 := by cases hex <;> simp
  generalize hbb : (if hex = true then (16 : Int) else 10) = b at *
  have hhex : ∀ q, k0 ≤ q → q < j → hexd (σ.2 176 q) = true := by
    intro q h1 h2
    have := hd q h1 h2
    cases hex
    · exact dg_hex this
    · exact this
  have hall : ∀ m, k0 + m ≤ j → ∀ c ∈ sl (σ.2 176) k0 m, hexd c = true := by
    intro m hm c hcm
    unfold sl at hcm
    obtain ⟨q, hq, rfl⟩ := List.mem_map.mp hcm
    have := List.mem_range.mp hq
    exact hhex _ (by omega) (by omega)
  refine WL_ind (fun s τ => τ = σ ∧ ∃ m : Nat, s.2 = ((k0 + m : Nat) : Int) ∧ k0 + m ≤ j ∧ s.1 = if 2000000 < numl b (sl (σ.2 176) k0 m) then 2000000 else numl b (sl (σ.2 176) k0 m)) (fun s _ => ((j : Int) + 1 - s.2).toNat) ?_ _ σ ⟨rfl, 0, by simp, by omega, by simp [sl, numl]⟩
  rintro ⟨v, k⟩ τ ⟨rfl, m, hkm, hmj, hv⟩ K hI
  dsimp only at hkm hv hI ⊢
  subst hkm
  rw [show Int.toNat ((k0 + m : Nat) : Int) = k0 + m by omega]
  have hN := numl_pos (b := b) (by omega) _ (hall m hmj)
  have hvr : 0 ≤ v ∧ v ≤ 2000000 := by
    rw [hv]
    split <;> omega
  refine ⟨⟨by omega, by omega⟩, ?_⟩
  by_cases c : τ.2 176 (k0 + m) = 59
  · rw [if_pos c]
    have ej : k0 + m = j := by
      by_cases z : k0 + m < j
      · have := hhex (k0 + m) (by omega) z
        rw [c] at this
        exact absurd this (by decide)
      · omega
    refine sp_K_isCharacter ?_
    rw [show j - k0 = m by omega] at h
    rw [hv, isCh_clamp (by decide)]
    by_cases c2 : isCh (numl b (sl (τ.2 176) k0 m)) = true
    · rw [c2] at h ⊢
      have := isCh_le c2
      rw [if_neg (show ¬ b1 true = 0 by decide), if_neg (by omega)]
      exact h
    · have c3 : isCh (numl b (sl (τ.2 176) k0 m)) = false := by simpa using c2
      rw [c3] at h ⊢
      rw [if_pos (show b1 false = 0 from rfl)]
      exact h
  · rw [if_neg c]
    have hlt : k0 + m < j := by
      by_cases z : k0 + m < j
      · exact z
      · have : k0 + m = j := by omega
        rw [this] at c
        exact absurd hs c
    have hcc := hc (k0 + m) (by omega)
    have hh2 := hhex (k0 + m) (by omega) hlt
    have hdv := dgv_in hh2
    have hgo : ∀ d, d = dgv (τ.2 176 (k0 + m)) → inR (v * b) ∧ inR (v * b + d) ∧ LETI (if 2000000 < v * b + d then (2000000 : Int) else (v * b + d)) (fun t20 => inR (((k0 + m : Nat) : Int) + 1) ∧ K (t20, ((k0 + m : Nat) : Int) + 1) τ) := by
      intro d hdd
      subst hdd
      have hmul : 0 ≤ v * b ∧ v * b ≤ 32000000 := by
        rcases hb with e2 | e2 <;> rw [e2] <;> omega
      refine ⟨⟨by omega, by omega⟩, ⟨by omega, by omega⟩, LETI_of (fun t ht => ⟨⟨by omega, by omega⟩, hI _ _ ⟨rfl, m + 1, by dsimp only; omega, by omega, ?_⟩ (by dsimp only; omega)⟩)⟩
      dsimp only
      rw [ht, clamp_step hN hb hdv (by decide) hv, sl_succ, numl_snoc]
    refine ⟨⟨by omega, by omega⟩, sp_K_isDigit ?_⟩
    unfold WJ
    try dsimp only
    rw [if_b1]
    by_cases cd : isDg (τ.2 176 (k0 + m)) = true
    · rw [if_pos cd]
      refine ⟨⟨by omega, by omega⟩, ⟨by omega, by omega⟩, hgo _ ?_⟩
      unfold dgv
      rw [if_pos cd]
    · rw [if_neg cd]
      refine ⟨⟨by omega, by omega⟩, sp_K_lower (by omega) ?_⟩
      have hlr : -1 ≤ lowr (τ.2 176 (k0 + m)) ∧ lowr (τ.2 176 (k0 + m)) ≤ 2000000 := by
        unfold lowr
        split <;> omega
      refine ⟨⟨by omega, by omega⟩, ⟨by omega, by omega⟩, hgo _ ?_⟩
      unfold dgv
      rw [if_neg cd]
/-- the number of a reference to a character, wherever it stands -/
theorem kr_meant2 {R : Int → IS → Prop} {x : Int} {l : List Int} {P j E : Nat} (hK2 : L 176 = 262144) (hK3 : E ≤ 262144) (hc : chs σ E) (hE : P + l.length ≤ E) (hS : SHT (gd l) (σ.2 176) l.length P) (hj : rfp (gd l) l.length (some 0) = some j) (h35 : gd l 1 = 35) (hx : x = (P : Int)) (h : R (if isCh (rfN l j) = true then rfN l j else -1) σ) : w_KReader_meant L 176 x R σ := by
  have hjp := rfp_pos (l := l) hj
  have t1 : σ.2 176 (P + 1) = 35 := by rw [hS 1 (by omega)]; exact h35
  have hj' : rfp (σ.2 176) (P + l.length) (some P) = some (P + j) := by
    have := sh_rfp hS (some 0)
    rw [hj] at this
    exact this
  generalize hhx : decide (σ.2 176 (P + 2) = 120) = hex
  have hh : hex = true ↔ σ.2 176 (P + 2) = 120 := by rw [← hhx]; exact decide_eq_true_iff
  generalize hk0 : (if hex = true then P + 3 else P + 2) = k0
  obtain ⟨b1', b2, b3, b4⟩ := rfp_num hj' t1 hex hh k0 hk0.symm
  have hn := (rfN_at (k := P) hS hj t1 hh hk0.symm).1
  refine sp_meant2 (e := E) hK2 hK3 hc P (P + j - 1) hx hex hh k0 hk0.symm (by omega) (by omega) b3 (fun q q1 q2 => ?_) ?_
  · exact sk_all (p := hxP hex) q q1 (by rw [b4]; exact q2)
  · rw [hn]
    exact h
end Km2
section Kvf
variable {L : Nat → Nat} {rm nd o : Nat} {σ ρ τ : IS} {g g' : KG} {a a' A : AS} {bs bs' : List Nat} {Q : IS → Prop} {R : Int → IS → Prop} {T : Nat → Int} {x y v w : Int} {s : Str} {e : Nat} {cs : List Int}
theorem KVl.dep : ∀ {st : List (List Int × Nat)}, KVl ρ cs st → (∀ r, 208 ≤ r → r ≤ 210 → ∀ i, i < st.length → τ.2 r i = ρ.2 r i) → KVl τ cs st
  | [], _, _ => trivial
  | z :: st, h, hr => by
    refine ⟨?_, KVl.dep h.2 (fun r a b i hi => hr r a b i (by rw [List.length_cons]; omega))⟩
    rw [hr 208 (by omega) (by omega) st.length (by rw [List.length_cons]; omega), hr 209 (by omega) (by omega) st.length (by rw [List.length_cons]; omega), hr 210 (by omega) (by omega) st.length (by rw [List.length_cons]; omega)]
    exact h.1
theorem FD.refl : FD o σ σ := ⟨fun _ _ _ => rfl, fun _ _ => rfl⟩
theorem FD.trans (h1 : FD o σ ρ) (h2 : FD o ρ τ) : FD o σ τ := ⟨fun p k x => (h2.1 p k x).trans (h1.1 p k x), fun r x => (h2.2 r x).trans (h1.2 r x)⟩
theorem Kpc.hd {x : Int} {c : Int} {r : List Int} (h : Kpc cs x (c :: r)) : ∃ P : Nat, x = (P : Int) ∧ P + (r.length + 1) ≤ cs.length ∧ cs.getD P 0 = c := by
  obtain ⟨P, p1, p2, p3⟩ := h.at_
  exact ⟨P, p1, p2, p3 0 (by rw [List.length_cons]; omega)⟩
theorem st_len {en : List Ent} {st : List (List Int × Nat)} (h1 : (st.map (fun z => z.2)).Nodup) (h2 : ∀ z ∈ st, z.2 ≤ en.length) : st.length ≤ en.length + 1 := by
  have hg : GO en (st.map (fun z => ((z.1, z.2, 0) : Frm))) := by
    refine ⟨?_, fun f hf => ?_⟩
    · rw [List.map_map]
      exact h1
    · obtain ⟨z, z1, z2⟩ := List.mem_map.mp hf
      rw [← z2]
      exact h2 z z1
  have := hg.len
  rw [List.length_map] at this
  exact this
set_option maxHeartbeats 4000000 in
theorem sp_K_find {p vv j : Nat} (hL : KLn L o rm nd) (h : KVx rm nd o σ g A bs) (he : (aE A).length ≤ 8300) (hN : aN A 0 ≤ rm) (h6 : aN A 6 ≠ 0 → (aR A).isSome = true) (hV : gV g 22 ≤ 900000000) (hK : KT L σ (p + e)) (hc : chs σ (p + e)) (hS : SHT T (σ.2 176) e p) (hp : p + e ≤ (gC g).length) (hx : x = ((p + vv : Nat) : Int)) (hl : ltl T e (some vv) = some j) (hlc : j - 1 - (vv + 1) ≤ aN A 0) (hcap : (gP g).length + (j - 1 - (vv + 1)) + (rm - aN A 0) ≤ L (rfo o 1))
    (hbad : ∀ f ρ, vrn rm (aE A) bs (und A) (2 * rm + 3) ([(sl T (vv + 1) (j - 1 - (vv + 1)), 0)], aN A 0, aN A 1, []) = .inl f → f ≠ 0 → ρ.1 16 3 = (f : Int) → (ρ.1 16 4 = σ.1 16 4 ∧ ρ.1 16 17 = σ.1 16 17 ∧ ρ.2 176 = σ.2 176) → R 0 ρ)
    (hgood : ∀ c m out ρ, vrn rm (aE A) bs (und A) (2 * rm + 3) ([(sl T (vv + 1) (j - 1 - (vv + 1)), 0)], aN A 0, aN A 1, []) = .inr (c, m, out) → aN A 1 ≤ m → c ≤ rm → out.length + m + aN A 0 ≤ aN A 1 + (j - 1 - (vv + 1)) + c → KVx rm nd o ρ (gB g, gC g, gP g ++ out, fun k => gV g k + if k = 22 then m - aN A 1 else 0) (sN (sN A 0 c) 1 m) bs → FD o σ ρ → R 1 ρ) : w_KReader_find L x R σ := by
  subst hx
  have ho := hL.2.1
  have r1 := rf_1 ho
  have hll := ltl_lt hl
  have hK2 := hK.2.2
  have l176 := hL.2.2.2.1
  have l8 := hL.2.2.2.2.2.2.2.2.2.2.2.2.1
  have l208 := l8 208 (by omega) (by omega)
  have l209 := l8 209 (by omega) (by omega)
  have l210 := l8 210 (by omega) (by omega)
  have l86 := hL.2.2.2.2.2.2.1 186 (by omega) (by omega)
  have l84 := hL.2.2.2.2.2.2.1 184 (by omega) (by omega)
  have l85 := hL.2.2.2.2.2.2.1 185 (by omega) (by omega)
  have l1 := hL.2.2.2.2.2.2.2.2.2.2.2.2.2.2.2.2.1
  have hrm := hL.2.2.1.1
  have hz := h.1.2.2.1
  generalize hl0 : sl T (vv + 1) (j - 1 - (vv + 1)) = l0 at *
  have hl0n : l0.length = j - 1 - (vv + 1) := by rw [← hl0]; exact sl_ln
  generalize hRr : vrn rm (aE A) bs (und A) (2 * rm + 3) ([(l0, 0)], aN A 0, aN A 1, []) = Rr at *
  have hpc0 : Kpc (gC g) ((p + (vv + 1) : Nat) : Int) l0 := Kpc.mk' rfl (by rw [hl0n]; omega) (fun i hi => by
    rw [hl0n] at hi
    have := hz.2.2.1 (p + (vv + 1) + i) (by omega)
    rw [← this, show p + (vv + 1) + i = p + (vv + 1 + i) by omega, hS _ (by omega), ← hl0, List.getD_eq_getElem?_getD, sl_get hi]
    rfl)
  unfold w_KReader_find
  rw [show ((p + vv : Nat) : Int) + 1 = ((p + (vv + 1) : Nat) : Int) by omega, show Int.toNat 0 = 0 from rfl]
  refine ⟨⟨by omega, by omega⟩, ⟨by omega, by omega⟩, ?_⟩
  have hS' : SHT T ((pr σ 208 0 ((p + (vv + 1) : Nat) : Int)).2 176) e p := fun i hi => by rw [pr_2, if_neg (by omega)]; exact hS i hi
  refine kr_literal (σ := pr σ 208 0 ((p + (vv + 1) : Nat) : Int)) hK hS' (some vv) rfl (fun i hi => by cases hi; omega) ?_
  rw [hl, show enc (mvo p (some j)) - 1 = ((p + (j - 1) : Nat) : Int) from (by show ((p + j : Nat) : Int) - 1 = _; omega)]
  refine ⟨⟨by omega, by omega⟩, ⟨by omega, by omega⟩, ⟨by omega, by omega⟩, ?_⟩
  generalize hs0 : pr (pr (pr σ 208 0 ((p + (vv + 1) : Nat) : Int)) 209 0 ((p + (j - 1) : Nat) : Int)) 210 0 (-1) = s0
  have s0F : s0.1 = σ.1 := by rw [← hs0]; rfl
  have s0R : ∀ r, ¬ (208 ≤ r ∧ r ≤ 210) → s0.2 r = σ.2 r := fun r z => by funext jj; rw [← hs0, pr_2, if_neg (by omega), pr_2, if_neg (by omega), pr_2, if_neg (by omega)]
  have hV0 : KVx rm nd o s0 g A bs := h.dep ho (fun pp kk z => by rw [s0F]) (fun r z => s0R r (by omega))
  have hNn : aN A 0 = aN A 0 := rfl
  refine WL_ind2 (fun nn s ρ => (∃ (st : List (List Int × Nat)) (c m : Nat) (out : List Int), s = (st.length : Int) ∧ nn = vms rm (st, c, m, out) + 1 ∧ Rr = vrn rm (aE A) bs (und A) (2 * rm + 3) (st, c, m, out) ∧ vms rm (st, c, m, out) < 2 * rm + 3 ∧ c ≤ rm ∧ KVx rm nd o ρ (gB g, gC g, gP g ++ out, fun k => gV g k + if k = 22 then m - aN A 1 else 0) (sN (sN A 0 c) 1 m) (st.map (fun z => z.2) ++ bs) ∧ KVl ρ (gC g) st ∧ ((st.map (fun z => z.2)).Nodup ∧ (∀ z ∈ st, z.2 ≤ (aE A).length) ∧ (∀ i, i + 1 < st.length → 0 < (st.getD i ([], 0)).2) ∧ (∀ z ∈ st, 0 < z.2 → ¬ z.2 ∈ bs) ∧ (st.getD (st.length - 1) ([], 0)).2 = 0) ∧ (aN A 1 ≤ m ∧ aN A 0 ≤ c ∧ out.length + m + vln st + aN A 0 ≤ aN A 1 + l0.length + c) ∧ FD o σ ρ) ∨ (nn = 0 ∧ ∃ f : Nat, f ≠ 0 ∧ Rr = .inl f ∧ ρ.1 16 3 = (f : Int) ∧ ρ.1 16 4 = σ.1 16 4 ∧ ρ.1 16 17 = σ.1 16 17 ∧ ρ.2 176 = σ.2 176)) ?_ (vms rm ([(l0, 0)], aN A 0, aN A 1, []) + 1) _ s0 (Or.inl ⟨[(l0, 0)], aN A 0, aN A 1, [], rfl, rfl, hRr.symm, ?_, hN, ?_, ⟨⟨?_, ?_, fun z => absurd rfl z⟩, trivial⟩, ⟨?_, ?_, ?_, ?_, rfl⟩, ⟨Nat.le_refl _, Nat.le_refl _, ?_⟩, ?_⟩)
  rotate_left
  · show 2 * (rm - aN A 0) + ((2 * l0.length + 1) + 0) < 2 * rm + 3
    omega
  · rw [List.append_nil]
    have e1 : (fun k => gV g k + if k = 22 then aN A 1 - aN A 1 else 0) = gV g := by
      funext k
      rw [Nat.sub_self]
      split <;> rfl
    have e2 : ((gB g, gC g, gP g, fun k => gV g k + if k = 22 then aN A 1 - aN A 1 else 0) : KG) = g := by rw [e1]; rfl
    rw [e2]
    obtain ⟨q1, q2, q3, q4, q5⟩ := hV0
    obtain ⟨n1, n2, n3, n4, n5, n6, n7⟩ := q3
    refine ⟨q1, KEn.bs q2 rfl (fun _ _ _ => rfl) (fun i hi => ?_), ⟨n1, n2, n3, n4, n5, n6, n7⟩, q4, q5⟩
    rw [(q2.2 i hi).2.2.2.2]
    by_cases c : (i + 1) ∈ bs
    · rw [if_pos c, if_pos (List.mem_append_right _ c)]
    · rw [if_neg c, if_neg (fun z => (List.mem_append.mp z).elim (fun y => by
        have y' : i + 1 ∈ [0] := y
        rw [List.mem_singleton] at y'
        omega) c)]
  · show Kpc (gC g) (s0.2 208 0) l0
    rw [← hs0, pr_2, if_neg (by omega), pr_2, if_neg (by omega), pr_2, if_pos ⟨rfl, rfl⟩]
    exact hpc0
  · show s0.2 209 0 = s0.2 208 0 + (l0.length : Int)
    rw [← hs0, pr_2, if_neg (by omega), pr_2, if_pos ⟨rfl, rfl⟩, pr_2, if_neg (by omega), pr_2, if_neg (by omega), pr_2, if_pos ⟨rfl, rfl⟩]
    omega
  · exact List.pairwise_singleton _ _
  · intro z hz'
    rw [List.mem_singleton] at hz'
    rw [hz']
    exact Nat.zero_le _
  · intro i hi
    have hi' : i + 1 < 1 := hi
    omega
  · intro z hz' hpos
    rw [List.mem_singleton] at hz'
    rw [hz'] at hpos
    exact absurd hpos (Nat.lt_irrefl 0)
  · show 0 + aN A 1 + (l0.length + 0) + aN A 0 ≤ _
    omega
  · exact ⟨fun pp kk _ => by rw [s0F], fun r z => s0R r (by omega)⟩
  rintro nn s' ρ hI K hK'
  try dsimp only
  rcases hI.symm with ⟨-, f, hf, hRf, h3, h4⟩ | ⟨st, c, m, out, rfl, rfl, hRs, hvm, hcr, hX, hVl, ⟨g1, g2, g3, g4, g5⟩, ⟨m1, m2, m3⟩, hFD⟩
  · rw [if_neg (fun z => by have := z.2; omega), if_neg (by omega)]
    exact hbad f ρ hRf hf h3 h4
  clear hI
  have hρ3 : ρ.1 16 3 = 0 := hX.2.2.2.2
  have hρ4 : ρ.1 16 4 = σ.1 16 4 := hFD.1 16 4 (by omega)
  -- a fault
  have bad : ∀ (f : Nat) (k : Int), f ≠ 0 → Rr = .inl f → K k (pf ρ 16 3 (f : Int)) := fun f k q1 q2 => hK' 0 _ _ (Or.inr ⟨rfl, f, q1, q2, pf_eq, by rw [pf_nk (by decide)]; exact hρ4, by rw [pf_nk (by decide)]; exact hFD.1 16 17 (by omega), hFD.2 176 (by omega)⟩) (by omega)
  cases st with
  | nil =>
    rw [if_neg (fun z => by have := z.1; exact absurd this (by show ¬ (0 : Int) < ((0 : Nat) : Int); omega)), if_pos hρ3]
    rw [show 2 * rm + 3 = (2 * rm + 2) + 1 from rfl, vrn_nil] at hRs
    rw [hl0n] at m3
    have m3' : out.length + m + 0 + aN A 0 ≤ aN A 1 + (j - 1 - (vv + 1)) + c := m3
    exact hgood c m out ρ hRs m1 hcr (by omega) hX hFD
  | cons z st =>
    obtain ⟨l, w⟩ := z
    obtain ⟨⟨k1, k2, k3⟩, k4⟩ := hVl
    have k1' : Kpc (gC g) (ρ.2 208 st.length) l := k1
    have k2' : ρ.2 209 st.length = ρ.2 208 st.length + (l.length : Int) := k2
    have hsl := st_len g1 g2
    rw [List.length_cons] at hsl
    have hstep := vrn_step (en := aE A) (bus := bs) (und := und A) (s := ((l, w) :: st, c, m, out)) (N := 2 * rm + 3) (by simp) hcr hvm
    rw [hstep] at hRs
    have hvd := fun s' hh => vst_dec (rm := rm) (en := aE A) (bus := bs) (und := und A) (s := ((l, w) :: st, c, m, out)) (s' := s') hh (by simp) hcr
    have hvmk := fun s' hh => vst_mk (rm := rm) (en := aE A) (bus := bs) (und := und A) (s := ((l, w) :: st, c, m, out)) (s' := s') hh (by simp)
    -- it goes on
    have next : ∀ (st2 : List (List Int × Nat)) (c2 m2 : Nat) (out2 : List Int) (ρ2 : IS), vst rm (aE A) bs (und A) ((l, w) :: st, c, m, out) = .inr (st2, c2, m2, out2) → KVx rm nd o ρ2 (gB g, gC g, gP g ++ out2, fun k => gV g k + if k = 22 then m2 - aN A 1 else 0) (sN (sN A 0 c2) 1 m2) (st2.map (fun z => z.2) ++ bs) → KVl ρ2 (gC g) st2 → ((st2.map (fun z => z.2)).Nodup ∧ (∀ z ∈ st2, z.2 ≤ (aE A).length) ∧ (∀ i, i + 1 < st2.length → 0 < (st2.getD i ([], 0)).2) ∧ (∀ z ∈ st2, 0 < z.2 → ¬ z.2 ∈ bs) ∧ (st2.getD (st2.length - 1) ([], 0)).2 = 0) → FD o σ ρ2 → K (st2.length : Int) ρ2 := fun st2 c2 m2' out2 ρ2 q1 q2 q3 q4 q5 => by
      have w1 := hvd _ q1
      have w2 := hvmk _ q1
      rw [q1] at hRs
      have w1a : vms rm (st2, c2, m2', out2) < vms rm ((l, w) :: st, c, m, out) := w1.1
      have w1b : c2 ≤ rm := w1.2
      have w2a : c ≤ c2 := w2.1
      have w2b : m ≤ m2' := w2.2.1
      have w2c : out2.length + m2' + vln st2 + c ≤ out.length + m + vln ((l, w) :: st) + c2 := w2.2.2
      refine hK' (vms rm (st2, c2, m2', out2) + 1) _ _ (Or.inl ⟨st2, c2, m2', out2, rfl, rfl, hRs, by omega, w1b, q2, q3, q4, ⟨by omega, by omega, by omega⟩, q5⟩) (by omega)
    have hvf : ∀ f : Nat, vst rm (aE A) bs (und A) ((l, w) :: st, c, m, out) = .inl f → Rr = .inl f := fun f q => by rw [q] at hRs; exact hRs
    have hGt : (st.map (fun z => z.2)).Nodup ∧ (∀ z ∈ st, z.2 ≤ (aE A).length) ∧ (∀ i, i + 1 < st.length → 0 < (st.getD i ([], 0)).2) ∧ (∀ z ∈ st, 0 < z.2 → ¬ z.2 ∈ bs) ∧ (st.getD (st.length - 1) ([], 0)).2 = 0 := by
      rw [List.map_cons, List.nodup_cons] at g1
      refine ⟨g1.2, fun z hz' => g2 z (List.mem_cons_of_mem _ hz'), fun i hi => ?_, fun z hz' => g4 z (List.mem_cons_of_mem _ hz'), ?_⟩
      · have := g3 (i + 1) (by rw [List.length_cons]; omega)
        exact this
      · cases st with
        | nil => rfl
        | cons z2 st2 => exact g5
    rw [show ((((l, w) :: st).length : Nat) : Int) - 1 = (st.length : Int) from (by rw [List.length_cons]; omega), show Int.toNat (st.length : Int) = st.length from rfl]
    rw [if_pos ⟨by rw [List.length_cons]; omega, hρ3⟩]
    refine ⟨⟨by omega, by omega⟩, ⟨by omega, by omega⟩, ⟨by omega, by omega⟩, WJ_dir ?_⟩
    cases l with
    | nil =>
      have k2'' : ρ.2 209 st.length = ρ.2 208 st.length := by rw [k2']; show _ + (0 : Int) = _; omega
      rw [if_pos k2''.symm]
      have hv0 : vst rm (aE A) bs (und A) (([], w) :: st, c, m, out) = .inr (st, c, m, out) := rfl
      refine WJ_dir ?_
      have hfin : ∀ ρ2 : IS, KVx rm nd o ρ2 (gB g, gC g, gP g ++ out, fun k => gV g k + if k = 22 then m - aN A 1 else 0) (sN (sN A 0 c) 1 m) (st.map (fun z => z.2) ++ bs) → (∀ r, 208 ≤ r → r ≤ 210 → ρ2.2 r = ρ.2 r) → FD o σ ρ2 → inR (((((([], w) : List Int × Nat) :: st).length : Nat) : Int) + -1) ∧ K (((((([], w) : List Int × Nat) :: st).length : Nat) : Int) + -1) ρ2 := fun ρ2 q1 q2 q3 => by
        have e1 : ((((([], w) : List Int × Nat) :: st).length : Nat) : Int) + -1 = (st.length : Int) := by rw [List.length_cons]; omega
        rw [e1]
        exact ⟨⟨by omega, by omega⟩, next st c m out ρ2 hv0 q1 (k4.dep (fun r x1 x2 i _ => by rw [q2 r x1 x2])) hGt q3⟩
      by_cases cst : st = []
      · rw [if_neg (by rw [cst]; show ¬ (0 : Int) < ((0 : Nat) : Int); omega)]
        refine hfin ρ ?_ (fun _ _ _ => rfl) hFD
        obtain ⟨q1, q2, q3, q4, q5⟩ := hX
        refine ⟨q1, KEn.bs q2 rfl (fun _ _ _ => rfl) (fun i hi => ?_), q3, q4, q5⟩
        rw [(q2.2 i hi).2.2.2.2]
        subst cst
        have hw : w = 0 := g5
        rw [hw]
        by_cases cm : (i + 1) ∈ bs
        · rw [if_pos (List.mem_append_right _ cm), if_pos (List.mem_append_right _ cm)]
        · rw [if_neg (fun y => (List.mem_append.mp y).elim (fun y => by
            have y' : i + 1 ∈ [0] := y
            rw [List.mem_singleton] at y'
            omega) cm)]
          show (0 : Int) = if i + 1 ∈ bs then 1 else 0
          rw [if_neg cm]
      · have hst : 0 < st.length := List.length_pos_iff.mpr cst
        rw [if_pos (by omega)]
        have hw : 0 < w := g3 0 (by rw [List.length_cons]; omega)
        have hw2 : w ≤ (aE A).length := g2 ([], w) List.mem_cons_self
        have hw3 : ρ.2 210 st.length + 1 = (w : Int) := k3 cst
        rw [show ρ.2 210 st.length = ((w - 1 : Nat) : Int) by omega, show Int.toNat ((w - 1 : Nat) : Int) = w - 1 from rfl]
        refine ⟨⟨by omega, by omega⟩, ⟨by omega, by omega⟩, hfin _ ?_ (fun r x1 x2 => by funext jj; rw [pr_2, if_neg (by omega)]) ?_⟩
        · refine hX.bz ho (fun jj hjj => ?_)
          rw [List.map_cons, List.nodup_cons] at g1
          have hnb : ¬ w ∈ bs := g4 ([], w) List.mem_cons_self hw
          by_cases cj : jj = w - 1
          · rw [if_pos cj, if_neg (fun y => (List.mem_append.mp y).elim (fun y => g1.1 (by rw [show w = jj + 1 by omega]; exact y)) (fun y => hnb (by rw [show w = jj + 1 by omega]; exact y)))]
          · rw [if_neg cj, List.map_cons, List.cons_append]
            by_cases cm : (jj + 1) ∈ st.map (fun z => z.2) ++ bs
            · rw [if_pos cm, if_pos (List.mem_cons_of_mem _ cm)]
            · rw [if_neg cm, if_neg (fun y => (List.mem_cons.mp y).elim (fun y => cj (by have y' : jj + 1 = w := y; omega)) cm)]
        · exact hFD.trans ⟨fun _ _ _ => rfl, fun r z => by funext jj; rw [pr_2, if_neg (by omega)]⟩
    | cons xc r =>
      obtain ⟨P, P1, P2, P3⟩ := k1'.hd
      have hkl : (((xc :: r).length : Nat) : Int) = (r.length : Int) + 1 := by rw [List.length_cons]; omega
      have hgx := hX.1.2.2.1
      have hgC : gC ((gB g, gC g, gP g ++ out, fun k => gV g k + if k = 22 then m - aN A 1 else 0) : KG) = gC g := rfl
      rw [hgC] at hgx
      have h176 : ∀ i, i < (gC g).length → ρ.2 176 i = (gC g).getD i 0 := hgx.2.2.1
      have hcx : 0 ≤ xc ∧ xc ≤ 1114111 := by
        rw [← P3]
        refine hgx.2.2.2 _ ?_
        rw [List.getD_eq_getElem?_getD, List.getElem?_eq_getElem (by omega)]
        exact List.getElem_mem _
      have hgl := hgx.2.1
      rw [if_neg (by rw [k2']; omega), P1, show Int.toNat (P : Int) = P from rfl, h176 P (by omega), P3]
      refine ⟨⟨by omega, by omega⟩, ?_⟩
      have hvs := vst_cons (rm := rm) (en := aE A) (bus := bs) (und := und A) (x := xc) (r := r) (w := w) (st := st) (c := c) (m := m) (o := out)
      -- the innermost text goes on
      have up : ∀ (l2 : List Int) (q : Nat) (ρ2 : IS), l2 = (xc :: r).drop q → q ≤ r.length + 1 → ρ2.2 208 st.length = ((P + q : Nat) : Int) → (∀ i, i < st.length → ρ2.2 208 i = ρ.2 208 i) → (ρ2.2 209 = ρ.2 209) → (ρ2.2 210 = ρ.2 210) → KVl ρ2 (gC g) ((l2, w) :: st) ∧ ((((l2, w) :: st).map (fun z => z.2)).Nodup ∧ (∀ z ∈ ((l2, w) :: st), z.2 ≤ (aE A).length) ∧ (∀ i, i + 1 < ((l2, w) :: st).length → 0 < (((l2, w) :: st).getD i ([], 0)).2) ∧ (∀ z ∈ ((l2, w) :: st), 0 < z.2 → ¬ z.2 ∈ bs) ∧ (((l2, w) :: st).getD (((l2, w) :: st).length - 1) ([], 0)).2 = 0) := fun l2 q ρ2 q1 q2 q3 q4 q5 q6 => by
        refine ⟨⟨⟨?_, ?_, ?_⟩, k4.dep (fun r' x1 x2 i hi => ?_)⟩, g1, fun z hz' => ?_, fun i hi => ?_, fun z hz' => ?_, ?_⟩
        · rw [q3, q1]
          have := k1'.drop (k := q) (by rw [List.length_cons]; exact q2)
          rw [P1] at this
          rw [show ((P + q : Nat) : Int) = (P : Int) + (q : Int) by omega]
          exact this
        · rw [q3, q5, k2', P1, q1, List.length_drop, List.length_cons]
          omega
        · intro hst
          rw [q6]
          exact k3 hst
        · have hr' : r' = 208 ∨ r' = 209 ∨ r' = 210 := by omega
          rcases hr' with rfl | rfl | rfl
          · exact q4 i hi
          · rw [q5]
          · rw [q6]
        · rcases List.mem_cons.mp hz' with y | y
          · rw [y]; exact g2 (xc :: r, w) List.mem_cons_self
          · exact g2 z (List.mem_cons_of_mem _ y)
        · cases i with
          | zero => exact g3 0 hi
          | succ i => exact g3 (i + 1) hi
        · rcases List.mem_cons.mp hz' with y | y
          · rw [y]; exact g4 (xc :: r, w) List.mem_cons_self
          · exact g4 z (List.mem_cons_of_mem _ y)
        · cases st with
          | nil => exact g5
          | cons z2 st2 => exact g5
      by_cases c60 : xc = 60
      · rw [if_pos c60]
        refine sp_K_fail hρ3 ?_
        exact bad 11 _ (by decide) (hvf 11 (by rw [hvs, if_pos c60]))
      rw [if_neg c60]
      rw [if_neg c60] at hvs
      refine ⟨⟨by omega, by omega⟩, ?_⟩
      obtain ⟨d1, d2⟩ := hX.dy ho
      have hu : ρ.1 o 2 = (((gP g).length + out.length : Nat) : Int) := by
        have : ρ.1 o 2 = ((gP g ++ out).length : Int) := hX.1.2.2.2.1.1
        rw [this, List.length_append]
      have hroom : (gP g).length + out.length < L (rfo o 1) := by
        have m3' : out.length + m + ((r.length + 1) + vln st) + aN A 0 ≤ aN A 1 + l0.length + c := m3
        omega
      -- a letter is put
      have put : ∀ (cc : Int) (q : Nat) (ρ1 : IS) (Z : Int), Z = ((((xc :: r, w) :: st).length : Nat) : Int) → 0 < q → q ≤ r.length + 1 → vst rm (aE A) bs (und A) ((xc :: r, w) :: st, c, m, out) = .inr (((xc :: r).drop q, w) :: st, c, m, out ++ [cc]) → ρ1.1 = ρ.1 → (∀ r', r' ≠ 208 → ρ1.2 r' = ρ.2 r') → (∀ i, i < st.length → ρ1.2 208 i = ρ.2 208 i) → ∀ X2 : IS, (X2 = pf (pr ρ1 (rfo o 1) ((gP g).length + out.length) cc) o 2 ((((gP g).length + out.length : Nat) : Int) + 1) ∧ ρ1.2 208 st.length = ((P + q : Nat) : Int)) ∨ (X2 = pr (pf (pr ρ1 (rfo o 1) ((gP g).length + out.length) cc) o 2 ((((gP g).length + out.length : Nat) : Int) + 1)) 208 st.length ((P + q : Nat) : Int)) → K Z X2 := fun cc q ρ1 Z hZ q0 q1 q2 q3 q4 q5 X2 q6 => by
        have hX1 : KVx rm nd o ρ1 (gB g, gC g, gP g ++ out, fun k => gV g k + if k = 22 then m - aN A 1 else 0) (sN (sN A 0 c) 1 m) (((xc :: r, w) :: st).map (fun z => z.2) ++ bs) := hX.dep ho (fun pp kk _ => by rw [q3]) (fun r' z => q4 r' (by omega))
        have hX2 := hX1.add (c := cc) ho
        have hlen : (gP ((gB g, gC g, gP g ++ out, fun k => gV g k + if k = 22 then m - aN A 1 else 0) : KG)).length = (gP g).length + out.length := by
          show (gP g ++ out).length = _
          rw [List.length_append]
        rw [hlen] at hX2
        have ea : (gP ((gB g, gC g, gP g ++ out, fun k => gV g k + if k = 22 then m - aN A 1 else 0) : KG)) ++ [cc] = gP g ++ (out ++ [cc]) := List.append_assoc _ _ _
        rw [ea] at hX2
        generalize hY : pf (pr ρ1 (rfo o 1) ((gP g).length + out.length) cc) o 2 ((((gP g).length + out.length : Nat) : Int) + 1) = Y at hX2 q6
        have hYF : ∀ pp kk, ¬ (pp = o ∧ kk = 2) → Y.1 pp kk = ρ.1 pp kk := fun pp kk z => by rw [← hY, pf_1, if_neg z, pr_1, q3]
        have hYR : ∀ r', r' ≠ rfo o 1 → Y.2 r' = ρ1.2 r' := fun r' z => by funext jj; rw [← hY, pf_2, pr_2, if_neg (fun y => z y.1)]
        rw [hZ]
        have key : ∀ X3 : IS, X3.1 = Y.1 → (∀ r', r' ≠ 208 → X3.2 r' = Y.2 r') → X3.2 208 st.length = ((P + q : Nat) : Int) → (∀ i, i < st.length → X3.2 208 i = ρ.2 208 i) → K ((((xc :: r, w) :: st).length : Nat) : Int) X3 := fun X3 b1' b2 b3 b4 => by
          have hup := up ((xc :: r).drop q) q X3 rfl q1 b3 b4 (by rw [b2 209 (by omega), hYR 209 (by omega), q4 209 (by omega)]) (by rw [b2 210 (by omega), hYR 210 (by omega), q4 210 (by omega)])
          refine next (((xc :: r).drop q, w) :: st) c m (out ++ [cc]) X3 q2 ?_ hup.1 hup.2 ?_
          · exact hX2.dep ho (fun pp kk _ => by rw [b1']) (fun r' z => b2 r' (by omega))
          · refine hFD.trans ⟨fun pp kk z => by rw [b1']; exact hYF pp kk (by omega), fun r' z => ?_⟩
            rw [b2 r' (by omega), hYR r' (by omega), q4 r' (by omega)]
        rcases q6 with ⟨q6, q7⟩ | q6
        · rw [q6]
          exact key Y rfl (fun _ _ => rfl) (by rw [hYR 208 (by omega)]; exact q7) (fun i hi => by rw [hYR 208 (by omega)]; exact q5 i hi)
        · rw [q6]
          refine key _ rfl (fun r' z => by funext jj; rw [pr_2, if_neg (fun y => z y.1)]) (by rw [pr_2, if_pos ⟨rfl, rfl⟩]) (fun i hi => ?_)
          rw [pr_2, if_neg (by omega), hYR 208 (by omega)]
          exact q5 i hi
      by_cases c38 : xc = 38
      · rw [if_pos c38]
        rw [if_neg (by rw [c38]; simp)] at hvs
        unfold w_KReader_valueReference
        rw [show Int.toNat (st.length : Int) = st.length from rfl, k2', P1]
        refine ⟨⟨by omega, by omega⟩, ?_⟩
        have hSl : SHT (gd (xc :: r)) (ρ.2 176) (xc :: r).length P := fun i hi => by
          obtain ⟨P', p1, p2, p3⟩ := k1'.at_
          have : P' = P := by omega
          subst this
          rw [List.length_cons] at hi
          rw [h176 (P' + i) (by omega)]
          exact p3 i (by rw [List.length_cons]; omega)
        have hcl : ∀ i, i < P + (xc :: r).length → 0 ≤ ρ.2 176 i ∧ ρ.2 176 i ≤ 1114111 := fun i hi => by
          rw [List.length_cons] at hi
          rw [h176 i (by omega)]
          refine hgx.2.2.2 _ ?_
          rw [List.getD_eq_getElem?_getD, List.getElem?_eq_getElem (by omega)]
          exact List.getElem_mem _
        have hKe : KT L (pf ρ 16 17 ((P : Int) + (((xc :: r).length : Nat) : Int))) (P + (xc :: r).length) := ⟨by rw [pf_eq]; omega, l176, by rw [List.length_cons]; omega⟩
        refine kr_ref (σ := pf ρ 16 17 ((P : Int) + (((xc :: r).length : Nat) : Int))) hKe hcl hSl (some 0) rfl (fun i hi => by cases hi; exact Nat.zero_le _) ?_
        rw [show (ρ.1 16 17) = ρ.1 16 17 from rfl, pf_back]
        have erl : rfp (gd (xc :: r)) (xc :: r).length (some 0) = rfp (gd (xc :: r)) (r.length + 1) (some 0) := rfl
        have eK : (st.length : Int) + 1 = ((((xc :: r, w) :: st).length : Nat) : Int) := by rw [List.length_cons]; omega
        cases hrf : rfp (gd (xc :: r)) (xc :: r).length (some 0) with
        | none =>
          rw [← erl, hrf] at hvs
          refine sp_K_written (x := none) rfl hρ3 (fun _ => ?_) (fun k hk => by cases hk)
          rw [if_pos rfl]
          refine ⟨⟨by omega, by omega⟩, ?_⟩
          exact bad 5 _ (by decide) (hvf 5 hvs)
        | some q =>
          have hqp := rfp_pos (l := xc :: r) hrf
          rw [List.length_cons] at hqp
          rw [← erl, hrf] at hvs
          have hvs2 : vst rm (aE A) bs (und A) ((xc :: r, w) :: st, c, m, out) = if 0 ≤ rfK (xc :: r) q then .inr (((xc :: r).drop q, w) :: st, c, m, out ++ [rfK (xc :: r) q])
              else if rfK (xc :: r) q = -2 then .inl 12
              else match eno (aE A) (sl (gd (xc :: r)) 1 (q - 2)) false with
                | none => if und A = true then .inl 9 else .inr (((xc :: r).drop q, w) :: st, c, m + 1, out)
                | some i => if rm < c + (((aE A).getD i ([], false, [])).2.2).length then .inl 4
                  else if (i + 1) ∈ bs ∨ (i + 1) ∈ (((xc :: r), w) :: st).map (fun z => z.2) then .inl 10
                  else .inr ((((aE A).getD i ([], false, [])).2.2, i + 1) :: ((xc :: r).drop q, w) :: st, c + (((aE A).getD i ([], false, [])).2.2).length, m, out) := hvs
          refine sp_K_written (x := some (P + q)) rfl hρ3 (fun hk => by cases hk) (fun k0 hk0 hv0 => ?_)
          rw [if_neg (by decide), show enc (mvo P (some q)) = ((P + q : Nat) : Int) from rfl]
          refine ⟨⟨by omega, by omega⟩, ⟨by omega, by omega⟩, ⟨by omega, by omega⟩, WJ_dir ?_⟩
          have e1' : ρ.2 176 (Int.toNat ((P : Int) + 1)) = gd (xc :: r) 1 := by
            rw [show Int.toNat ((P : Int) + 1) = P + 1 by omega]
            exact hSl 1 (by rw [List.length_cons]; omega)
          generalize hυ : pr ρ 208 st.length ((P + q : Nat) : Int) = υ
          have υF : υ.1 = ρ.1 := by rw [← hυ]; rfl
          have υR : ∀ r', r' ≠ 208 → υ.2 r' = ρ.2 r' := fun r' z => by funext jj; rw [← hυ, pr_2, if_neg (fun y => z y.1)]
          have υ8 : υ.2 208 st.length = ((P + q : Nat) : Int) := by rw [← hυ, pr_2, if_pos ⟨rfl, rfl⟩]
          have υ8' : ∀ i, i < st.length → υ.2 208 i = ρ.2 208 i := fun i hi => by rw [← hυ, pr_2, if_neg (by omega)]
          have hXυ : KVx rm nd o υ (gB g, gC g, gP g ++ out, fun k => gV g k + if k = 22 then m - aN A 1 else 0) (sN (sN A 0 c) 1 m) (((xc :: r, w) :: st).map (fun z => z.2) ++ bs) := hX.dep ho (fun pp kk _ => by rw [υF]) (fun r' z => υR r' (by omega))
          have badυ : ∀ (f : Nat) (k : Int), f ≠ 0 → Rr = .inl f → K k (pf υ 16 3 (f : Int)) := fun f k q1 q2 => hK' 0 _ _ (Or.inr ⟨rfl, f, q1, q2, pf_eq, by rw [pf_nk (by decide), υF]; exact hρ4, by rw [pf_nk (by decide), υF]; exact hFD.1 16 17 (by omega), (υR 176 (by omega)).trans (hFD.2 176 (by omega))⟩) (by omega)
          have hSυ : SHT (gd (xc :: r)) (υ.2 176) (xc :: r).length P := by rw [υR 176 (by omega)]; exact hSl
          have hupυ := up ((xc :: r).drop q) q υ rfl (by omega) υ8 υ8' (υR 209 (by omega)) (υR 210 (by omega))
          have hFDυ : FD o σ υ := hFD.trans ⟨fun pp kk _ => by rw [υF], fun r' z => υR r' (by omega)⟩
          have letter : ∀ cc : Int, 0 ≤ cc → rfK (xc :: r) q = cc → dyD (υ.1 16 2) ∧ w_KDoc_add L (Int.toNat (υ.1 16 2)) cc (fun σ46 => inR ((st.length : Int) + 1) ∧ K ((st.length : Int) + 1) σ46) υ := fun cc h0 hk => by
            rw [hk, if_pos h0] at hvs2
            rw [υF, d1, show Int.toNat (o : Int) = o from rfl]
            refine ⟨by rw [← d1]; exact d2, ?_⟩
            unfold w_KDoc_add
            rw [υF, hu, show Int.toNat (((gP g).length + out.length : Nat) : Int) = (gP g).length + out.length from rfl]
            refine ⟨⟨by omega, by omega⟩, ⟨by omega, by omega⟩, ⟨by omega, by omega⟩, ?_⟩
            exact put cc q υ _ eK (by omega) (by omega) hvs2 υF υR υ8' _ (Or.inl ⟨rfl, υ8⟩)
          rw [e1']
          have hKυ : KT L υ (p + e) := by unfold KT; rw [υF, hFD.1 16 17 (by omega)]; exact hK
          have hcυ : chs υ (P + (xc :: r).length) := fun i hi => by rw [υR 176 (by omega)]; exact hcl i hi
          have e1υ : υ.2 176 (Int.toNat ((P : Int) + 1)) = gd (xc :: r) 1 := by rw [υR 176 (by omega)]; exact e1'
          by_cases c35 : gd (xc :: r) 1 = 35
          · rw [if_pos c35]
            refine kr_meant2 l176 (E := P + (xc :: r).length) (by rw [List.length_cons]; omega) hcυ (Nat.le_refl _) hSυ hrf c35 rfl ?_
            have hrK : rfK (xc :: r) q = if isCh (rfN (xc :: r) q) = true then rfN (xc :: r) q else -2 := by
              unfold rfK
              rw [if_pos c35]
            by_cases ci : isCh (rfN (xc :: r) q) = true
            · rw [if_pos ci] at hrK ⊢
              have hpos := (isCh_le ci).1
              dsimp only
              rw [if_neg (by omega)]
              exact letter _ hpos hrK
            · rw [if_neg ci] at hrK ⊢
              dsimp only
              rw [if_pos (by decide), e1υ, if_pos c35]
              refine ⟨⟨by omega, by omega⟩, ⟨by omega, by omega⟩, ?_⟩
              refine sp_K_fail (by rw [υF]; exact hρ3) ⟨⟨by omega, by omega⟩, ?_⟩
              exact badυ 12 _ (by decide) (hvf 12 (by rw [hvs2, hrK, if_neg (by decide), if_pos rfl]))
          · rw [if_neg c35, show ((P + q : Nat) : Int) - (P : Int) - 2 = ((q - 2 : Nat) : Int) by omega]
            refine ⟨⟨by omega, by omega⟩, ⟨by omega, by omega⟩, ⟨by omega, by omega⟩, ?_⟩
            refine sp_KReader_always hKυ (P + 1) (q - 2) (by omega) rfl (by omega) ?_
            have esl : sl (υ.2 176) (P + 1) (q - 2) = sl (gd (xc :: r)) 1 (q - 2) := sh_sl hSυ (by rw [List.length_cons]; omega)
            rw [esl]
            have hrK : rfK (xc :: r) q = alw (sl (gd (xc :: r)) 1 (q - 2)) := by
              unfold rfK
              rw [if_neg c35]
            rcases alw_cs (l := sl (gd (xc :: r)) 1 (q - 2)) with ca | ca
            · rw [ca] at hrK ⊢
              dsimp only
              rw [if_pos (by decide), e1υ, if_neg c35]
              rw [hrK, if_neg (by decide), if_neg (by decide)] at hvs2
              refine ⟨⟨by omega, by omega⟩, ⟨by omega, by omega⟩, (hXυ.dy ho).2, ⟨by omega, by omega⟩, ⟨by omega, by omega⟩, ⟨by omega, by omega⟩, ?_⟩
              refine sp_Z_bf (p := P + 1) (n := q - 2) hL hXυ.1 ⟨by omega, by omega⟩ (by omega) rfl esl (fun vq hvq => ?_)
              refine sp_V_entityOf (b := false) hL hXυ he hvq rfl ?_
              rw [show aE (sN (sN A 0 c) 1 m) = aE A from rfl]
              cases hen : eno (aE A) (sl (gd (xc :: r)) 1 (q - 2)) false with
              | none =>
                rw [hen] at hvs2
                rw [if_pos (show enc none < 0 by decide)]
                have m3' : out.length + m + ((r.length + 1) + vln st) + aN A 0 ≤ aN A 1 + l0.length + c := m3
                have hgv : gV ((gB g, gC g, gP g ++ out, fun k => gV g k + if k = 22 then m - aN A 1 else 0) : KG) 22 = gV g 22 + (m - aN A 1) := rfl
                refine sp_V_und hL hXυ h6 (by rw [hgv]; omega) (fun hu => ?_) (fun hu => ?_)
                · refine ⟨⟨by omega, by omega⟩, ?_⟩
                  exact badυ 9 _ (by decide) (hvf 9 (by rw [hvs2]; exact if_pos hu))
                · refine ⟨⟨by omega, by omega⟩, ?_⟩
                  have hvs3 : vst rm (aE A) bs (und A) ((xc :: r, w) :: st, c, m, out) = .inr (((xc :: r).drop q, w) :: st, c, m + 1, out) := by
                    rw [hvs2]
                    have hu' : und A = false := hu
                    exact if_neg (by rw [hu']; decide)
                  have hXv := (hXυ.vio (k := 22) (m := 1) ho rfl).n1 (m := m + 1)
                  rw [hgv]
                  rw [hgv] at hXv
                  have egv : (fun jj => gV ((gB g, gC g, gP g ++ out, fun k => gV g k + if k = 22 then m - aN A 1 else 0) : KG) jj + if jj = 22 then 1 else 0) = (fun k => gV g k + if k = 22 then m + 1 - aN A 1 else 0) := by
                    funext jj
                    show gV g jj + (if jj = 22 then m - aN A 1 else 0) + (if jj = 22 then 1 else 0) = _
                    by_cases cj : jj = 22
                    · rw [if_pos cj, if_pos cj, if_pos cj]; omega
                    · rw [if_neg cj, if_neg cj, if_neg cj]
                  rw [egv] at hXv
                  rw [eK]
                  generalize hY : pr υ (rfo o 18) 22 ((gV g 22 + (m - aN A 1) + 1 : Nat) : Int) = Y at hXv
                  have hYR : ∀ r', r' ≠ rfo o 18 → Y.2 r' = υ.2 r' := fun r' z => by funext jj; rw [← hY, pr_2, if_neg (fun y => z y.1)]
                  refine next (((xc :: r).drop q, w) :: st) c (m + 1) out Y hvs3 ?_ (hupυ.1.dep (fun r' x1 x2 i _ => by rw [hYR r' (by omega)])) hupυ.2 (hFDυ.trans ⟨fun _ _ _ => by rw [← hY]; rfl, fun r' z => hYR r' (by omega)⟩)
                  exact hXv
              | some i =>
                rw [hen] at hvs2
                have hi : i < (aE A).length := eno_lt hen
                have hvs3 : vst rm (aE A) bs (und A) ((xc :: r, w) :: st, c, m, out) = if rm < c + (((aE A).getD i ([], false, [])).2.2).length then .inl 4
                    else if (i + 1) ∈ bs ∨ (i + 1) ∈ (((xc :: r), w) :: st).map (fun z => z.2) then .inl 10
                    else .inr ((((aE A).getD i ([], false, [])).2.2, i + 1) :: ((xc :: r).drop q, w) :: st, c + (((aE A).getD i ([], false, [])).2.2).length, m, out) := hvs2
                rw [if_neg (show ¬ enc (some i) < 0 from (by show ¬ ((i : Nat) : Int) < 0; omega))]
                refine sp_V_fits (A := sN (sN A 0 c) 1 m) (i := i) hL hXυ he hcr hi rfl (fun f1 => ?_) (fun f1 f2 => ?_) (fun f1 f2 => ?_)
                · rw [if_pos rfl]
                  refine ⟨⟨by omega, by omega⟩, ?_⟩
                  have f1' : rm < c + (((aE A).getD i ([], false, [])).2.2).length := f1
                  exact badυ 4 _ (by decide) (hvf 4 (by rw [hvs3, if_pos f1']))
                · rw [if_pos rfl]
                  refine ⟨⟨by omega, by omega⟩, ?_⟩
                  have f1' : ¬ rm < c + (((aE A).getD i ([], false, [])).2.2).length := f1
                  exact badυ 10 _ (by decide) (hvf 10 (by rw [hvs3, if_neg f1', if_pos ((List.mem_append.mp f2).symm)]))
                · have f1' : ¬ rm < c + (((aE A).getD i ([], false, [])).2.2).length := f1
                  have f2a : ¬ (i + 1) ∈ bs := fun z => f2 (List.mem_append_right _ z)
                  have f2b : ¬ (i + 1) ∈ ((xc :: r, w) :: st).map (fun z => z.2) := fun z => f2 (List.mem_append_left _ z)
                  rw [if_neg f1', if_neg (fun z => z.elim f2a f2b)] at hvs3
                  rw [if_neg (by decide)]
                  have hXn := (hXυ.n0 (m := c + (((aE A).getD i ([], false, [])).2.2).length) ho)
                  obtain ⟨em1, em2⟩ := hXυ.2.1
                  obtain ⟨n1, n2, ⟨pe, q1, q2, q3⟩, n4, n5⟩ := em2 i hi
                  have q1' : υ.2 184 i = (pe : Int) := q1
                  have q2' : pe + (((aE A).getD i ([], false, [])).2.2).length ≤ (gC g).length := q2
                  have q3' : Kpc (gC g) (pe : Int) (((aE A).getD i ([], false, [])).2.2) := ⟨pe, rfl, q2, q3⟩
                  have n4' : υ.2 185 i = ((((aE A).getD i ([], false, [])).2.2).length : Int) := n4
                  rw [show enc (some i) = (i : Int) from rfl, show Int.toNat (i : Int) = i from rfl]
                  rw [show aN (sN (sN A 0 c) 1 m) 0 = c from rfl, show aE (sN (sN A 0 c) 1 m) = aE A from rfl]
                  generalize htx : ((aE A).getD i ([], false, [])).2.2 = tx at *
                  generalize hζ : pf υ 16 25 ((c + tx.length : Nat) : Int) = ζ at *
                  have ζF : ∀ pp kk, ¬ (pp = 16 ∧ kk = 25) → ζ.1 pp kk = υ.1 pp kk := fun pp kk z => by rw [← hζ, pf_1, if_neg z]
                  have ζR : ζ.2 = υ.2 := by rw [← hζ]; rfl
                  rw [ζR, q1', n4', show (st.length : Int) + 1 = ((st.length + 1 : Nat) : Int) by omega, show Int.toNat ((st.length + 1 : Nat) : Int) = st.length + 1 from rfl]
                  refine ⟨⟨by omega, by omega⟩, ⟨by omega, by omega⟩, ⟨by omega, by omega⟩, ⟨by omega, by omega⟩, ⟨by omega, by omega⟩, ⟨by omega, by omega⟩, ⟨by omega, by omega⟩, ⟨by omega, by omega⟩, ⟨by omega, by omega⟩, ⟨by omega, by omega⟩, ⟨by omega, by omega⟩, ⟨by omega, by omega⟩, ?_⟩
                  have eK2 : (st.length : Int) + 2 = ((((tx, i + 1) :: ((xc :: r).drop q, w) :: st).length : Nat) : Int) := by rw [List.length_cons, List.length_cons]; omega
                  rw [eK2]
                  generalize hY : pr (pr (pr (pr ζ 186 i 1) 208 (st.length + 1) (pe : Int)) 209 (st.length + 1) ((pe : Int) + (tx.length : Int))) 210 (st.length + 1) (i : Int) = Y
                  have YF : Y.1 = ζ.1 := by rw [← hY]; rfl
                  have YR : ∀ r', r' ≠ 186 → ¬ (208 ≤ r' ∧ r' ≤ 210) → Y.2 r' = υ.2 r' := fun r' z1 z2 => by funext jj; rw [← hY, pr_2, if_neg (by omega), pr_2, if_neg (by omega), pr_2, if_neg (by omega), pr_2, if_neg (by omega), ζR]
                  have Y86 : ∀ jj, Y.2 186 jj = (pr ζ 186 i 1).2 186 jj := fun jj => by rw [← hY, pr_2, if_neg (by omega), pr_2, if_neg (by omega), pr_2, if_neg (by omega)]
                  have Y8 : Y.2 208 (st.length + 1) = (pe : Int) ∧ ∀ jj, jj < st.length + 1 → Y.2 208 jj = υ.2 208 jj := ⟨by rw [← hY, pr_2, if_neg (by omega), pr_2, if_neg (by omega), pr_2, if_pos ⟨rfl, rfl⟩], fun jj hjj => by rw [← hY, pr_2, if_neg (by omega), pr_2, if_neg (by omega), pr_2, if_neg (by omega), pr_2, if_neg (by omega), ζR]⟩
                  have Y9 : Y.2 209 (st.length + 1) = (pe : Int) + (tx.length : Int) ∧ ∀ jj, jj < st.length + 1 → Y.2 209 jj = υ.2 209 jj := ⟨by rw [← hY, pr_2, if_neg (by omega), pr_2, if_pos ⟨rfl, rfl⟩], fun jj hjj => by rw [← hY, pr_2, if_neg (by omega), pr_2, if_neg (by omega), pr_2, if_neg (by omega), pr_2, if_neg (by omega), ζR]⟩
                  have Y10 : Y.2 210 (st.length + 1) = (i : Int) ∧ ∀ jj, jj < st.length + 1 → Y.2 210 jj = υ.2 210 jj := ⟨by rw [← hY, pr_2, if_pos ⟨rfl, rfl⟩], fun jj hjj => by rw [← hY, pr_2, if_neg (by omega), pr_2, if_neg (by omega), pr_2, if_neg (by omega), pr_2, if_neg (by omega), ζR]⟩
                  have hXb : KVx rm nd o (pr ζ 186 i 1) (gB g, gC g, gP g ++ out, fun k => gV g k + if k = 22 then m - aN A 1 else 0) (sN (sN (sN A 0 c) 1 m) 0 (c + tx.length)) ((((tx, i + 1) :: ((xc :: r).drop q, w) :: st).map (fun z => z.2)) ++ bs) := by
                    refine hXn.bz ho (fun jj hjj => ?_)
                    have em : ∀ kk, kk ∈ (((tx, i + 1) :: ((xc :: r).drop q, w) :: st).map (fun z => z.2)) ++ bs ↔ kk = i + 1 ∨ kk ∈ ((xc :: r, w) :: st).map (fun z => z.2) ++ bs := fun kk => by
                      show kk ∈ ((i + 1) :: w :: st.map (fun z => z.2)) ++ bs ↔ kk = i + 1 ∨ kk ∈ (w :: st.map (fun z => z.2)) ++ bs
                      rw [List.cons_append, List.mem_cons]
                    by_cases cj : jj = i
                    · rw [if_pos cj, if_pos ((em _).mpr (Or.inl (by omega)))]
                    · rw [if_neg cj]
                      by_cases cm : (jj + 1) ∈ ((xc :: r, w) :: st).map (fun z => z.2) ++ bs
                      · rw [if_pos cm, if_pos ((em _).mpr (Or.inr cm))]
                      · rw [if_neg cm, if_neg (fun y => ((em _).mp y).elim (fun y => cj (by omega)) cm)]
                  have hXY : KVx rm nd o Y (gB g, gC g, gP g ++ out, fun k => gV g k + if k = 22 then m - aN A 1 else 0) (sN (sN (sN A 0 c) 1 m) 0 (c + tx.length)) ((((tx, i + 1) :: ((xc :: r).drop q, w) :: st).map (fun z => z.2)) ++ bs) := by
                    refine hXb.dep ho (fun pp kk _ => by rw [YF]; rfl) (fun r' z => ?_)
                    by_cases c86 : r' = 186
                    · rw [c86]; funext jj; exact Y86 jj
                    · rw [YR r' c86 (by omega)]; funext jj; rw [pr_2, if_neg (fun y => c86 y.1), ζR]
                  have eN : sN (sN (sN A 0 c) 1 m) 0 (c + tx.length) = sN (sN A 0 (c + tx.length)) 1 m := by
                    have e0 : (fun jj => if jj = 0 then c + tx.length else if jj = 1 then m else if jj = 0 then c else aN A jj) = (fun jj => if jj = 1 then m else if jj = 0 then c + tx.length else aN A jj) := by
                      funext jj
                      by_cases y0 : jj = 0
                      · rw [if_pos y0, if_neg (by omega), if_pos y0]
                      · rw [if_neg y0, if_neg y0, if_neg y0]
                    exact congrArg (fun f => (A.1, A.2.1, f, A.2.2.2)) e0
                  rw [eN] at hXY
                  refine next ((tx, i + 1) :: ((xc :: r).drop q, w) :: st) (c + tx.length) m out Y hvs3 hXY ⟨⟨?_, ?_, fun _ => ?_⟩, ?_⟩ ⟨?_, ?_, ?_, ?_, ?_⟩ ?_
                  · show Kpc (gC g) (Y.2 208 (((xc :: r).drop q, w) :: st).length) tx
                    rw [List.length_cons, Y8.1]; exact q3'
                  · show Y.2 209 (((xc :: r).drop q, w) :: st).length = Y.2 208 (((xc :: r).drop q, w) :: st).length + (tx.length : Int)
                    rw [List.length_cons, Y8.1, Y9.1]
                  · show Y.2 210 (((xc :: r).drop q, w) :: st).length + 1 = ((i + 1 : Nat) : Int)
                    rw [List.length_cons, Y10.1]; omega
                  · refine hupυ.1.dep (fun r' x1 x2 jj hjj => ?_)
                    rw [List.length_cons] at hjj
                    have hr' : r' = 208 ∨ r' = 209 ∨ r' = 210 := by omega
                    rcases hr' with rfl | rfl | rfl
                    · exact Y8.2 jj hjj
                    · exact Y9.2 jj hjj
                    · exact Y10.2 jj hjj
                  · rw [List.map_cons, List.nodup_cons]
                    exact ⟨f2b, hupυ.2.1⟩
                  · intro z hz'
                    rcases List.mem_cons.mp hz' with y | y
                    · rw [y]; show i + 1 ≤ _; omega
                    · exact hupυ.2.2.1 z y
                  · intro jj hjj
                    cases jj with
                    | zero => show 0 < i + 1; omega
                    | succ jj => exact hupυ.2.2.2.1 jj (by rw [List.length_cons] at hjj; omega)
                  · intro z hz' hpos
                    rcases List.mem_cons.mp hz' with y | y
                    · rw [y]; exact f2a
                    · exact hupυ.2.2.2.2.1 z y hpos
                  · exact hupυ.2.2.2.2.2
                  · refine hFDυ.trans ⟨fun pp kk z => by rw [YF]; exact ζF pp kk (by omega), fun r' z => YR r' (by omega) (by omega)⟩
            · dsimp only
              rw [if_neg (by omega)]
              exact letter _ ca hrK
      · rw [if_neg c38]
        rw [if_pos c38] at hvs
        refine ⟨d2, ⟨by omega, by omega⟩, sp_K_isSpace ?_⟩
        rw [d1, show Int.toNat (o : Int) = o from rfl]
        refine ⟨fun _ => ⟨by omega, by omega⟩, ?_⟩
        unfold w_KDoc_add
        rw [hu, show Int.toNat (((gP g).length + out.length : Nat) : Int) = (gP g).length + out.length from rfl]
        refine ⟨⟨by omega, by omega⟩, ⟨by omega, by omega⟩, ⟨by omega, by omega⟩, ⟨by omega, by omega⟩, ?_⟩
        have ev : (if b1 (isSp xc) = 0 then ρ.2 176 P else (32 : Int)) = if isSp xc = true then 32 else xc := by
          rw [h176 P (by omega), P3]
          cases isSp xc <;> rfl
        rw [ev]
        exact put _ 1 ρ _ rfl (by omega) (by omega) hvs rfl (fun _ _ => rfl) (fun _ _ => rfl) _ (Or.inr rfl)
end Kvf
