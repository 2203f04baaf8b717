/-! ===== the reference's trees: whether a model makes a row of names ===== -/
section Kmk
variable {L : Nat → Nat} {σ τ ρ : IS} {t : List KNd} {G : Nat → KGv} {W : MVl} {NS : List Str} {bk : List Str} {n0 n p i : Nat} {A B S : Nat → Bool} {Q : IS → Prop} {R : Int → IS → Prop}
theorem any_rs {n : Nat} {f : Nat → Bool} : (List.range (n + 1)).any f = ((List.range n).any f || f n) := by
  rw [List.range_succ, List.any_append]
  simp
set_option maxHeartbeats 2000000 in
theorem sp_K_makes {fr : Nat} {chs : List Str} {a2 : Int} (hL9 : ∀ r, 193 ≤ r → r ≤ 198 → L r = 50000) (h17 : ∀ r, 172 ≤ r → r ≤ 174 → L r = 256) (h171 : L 171 = 16384) (hbk : bk.Nodup) (hT : TFk t G W NS) (hR : KTr σ bk n0 t) (hns : NS.length ≤ 255) (h47 : (n0 : Int) + (t.length : Int) ≤ σ.1 16 47) (h47b : σ.1 16 47 ≤ 50000) (hx : (n0 : Int) + (t.length : Int) = σ.1 16 47 ∨ σ.2 198 (n0 + t.length) = -1) (ha2 : a2 = (fr : Int)) (h66 : σ.1 16 66 = ((fr + chs.length : Nat) : Int)) (hch : ∀ j, j < chs.length → Kn bk (σ.2 171 (fr + j)) (chs.getD j [])) (hle : fr + chs.length ≤ 16384) (hq : ∀ τ, TXk σ τ → R (b1 (acc NS W W.2.1 W.1 chs)) τ) : w_KReader_makes L (n0 : Int) a2 R σ := by
  subst ha2
  have h172 := h17 172 (by omega) (by omega)
  have h173 := h17 173 (by omega) (by omega)
  have h174 := h17 174 (by omega) (by omega)
  have l195 := hL9 195 (by omega) (by omega)
  have hn : n0 + t.length ≤ 50000 := by omega
  unfold w_KReader_makes
  refine sp_K_leafs hL9 h172 hT hR (by omega) h47 h47b hx (fun σ1 f1 f2 hF1 => ?_)
  have x1 : TXk σ σ1 := ⟨fun pp kk _ => by rw [f1], fun r z => f2 r (by omega)⟩
  refine sp_K_clearLater h174 (by omega) (fun σ2 c1 c2 c3 c4 => ?_)
  have x2 : TXk σ σ2 := x1.trans ⟨c1, fun r z => c3 r (by omega)⟩
  have hF2 : LF σ2 t G bk n0 NS := hF1.keep (c3 172 (by decide)) (c3 195 (by decide))
  have en0 : (n0 : Int) = ((n0 + 0 : Nat) : Int) := rfl
  rw [en0]
  refine sp_K_enter hL9 h174 hT hn (by omega) 70 0 σ2 _ (hR.tx x2) hT.2.1 (by omega) (fun σ3 hE => ?_)
  have x3 := x2.trans hE.tx
  have hF3 : LF σ3 t G bk n0 NS := hF2.keep (hE.2.1 172 (by decide)) (hE.2.1 195 (by decide))
  have hM3 : MKs σ3 NS.length W.2.1 := fun q hq' => by
    rw [hE.2.2, c4 q hq', hT.2.2.1]
    cases W.2.1 q <;> rfl
  refine sp_K_isNullable hL9 hT hn 70 0 σ3 _ (hR.tx x3) hT.2.1 (by omega) ?_
  rw [hT.2.2.1]
  refine ⟨is01_b, ?_⟩
  have x4 : TXk σ (pf σ3 16 73 (b1 W.1)) := x3.trans ⟨fun pp kk z => by rw [pf_1, if_neg z], fun r _ => rfl⟩
  refine WL_ind (fun (s : Int) ρ => ∃ (j : Nat) (M : Nat → Bool) (cc : Bool), j ≤ chs.length ∧ s = ((fr + j : Nat) : Int) ∧ TXk σ ρ ∧ LF ρ t G bk n0 NS ∧ MKs ρ NS.length M ∧ ρ.1 16 73 = b1 cc ∧ acc NS W W.2.1 W.1 chs = acc NS W M cc (chs.drop j)) (fun s _ => (((fr + chs.length : Nat) : Int) - s).toNat) ?_ _ (pf σ3 16 73 (b1 W.1)) ⟨0, W.2.1, W.1, by omega, rfl, x4, hF3, hM3, pf_eq, rfl⟩
  rintro s ρ ⟨j, M, cc, hj, rfl, hX, hF, hM, h73, hacc⟩ K hI
  have e66 : ρ.1 16 66 = ((fr + chs.length : Nat) : Int) := by rw [hX.1 16 66 (by omega)]; exact h66
  rw [e66]
  by_cases c : j < chs.length
  · rw [if_pos (by omega)]
    have hdrop : chs.drop j = chs.getD j [] :: chs.drop (j + 1) := by
      rw [List.drop_eq_getElem_cons c, List.getD_eq_getElem?_getD, List.getElem?_eq_getElem c]
      rfl
    have hw : Kn bk (σ.2 171 (fr + j)) (chs.getD j []) := hch j c
    rw [hdrop] at hacc
    generalize hwd : chs.getD j [] = w at *
    have hacc2 : acc NS W W.2.1 W.1 chs = acc NS W (stM NS W M w NS.length) (cpM NS W M w NS.length) (chs.drop (j + 1)) := hacc
    -- the marks are copied
    refine WL_ind (fun (s : Int) υ => ∃ k : Nat, k ≤ NS.length ∧ s = (k : Int) ∧ υ.1 = ρ.1 ∧ (∀ r, r ≠ 173 → υ.2 r = ρ.2 r) ∧ ∀ q, q < k → υ.2 173 q = b1 (M q)) (fun s _ => ((NS.length : Int) - s).toNat) ?_ _ ρ ⟨0, by omega, rfl, rfl, fun _ _ => rfl, fun q hq' => absurd hq' (Nat.not_lt_zero q)⟩
    rintro s υ ⟨k, hk, rfl, u1, u2, u3⟩ K2 hI2
    by_cases ck : k < NS.length
    · rw [if_pos (by omega), show Int.toNat (k : Int) = k from rfl, u2 174 (by decide), hM k ck]
      refine ⟨⟨by omega, by omega⟩, ⟨by omega, by omega⟩, is01_b, ⟨by omega, by omega⟩, hI2 _ _ ⟨k + 1, by omega, rfl, u1, fun r z => ?_, fun q hq' => ?_⟩ (by omega)⟩
      · funext q; rw [pr_2, if_neg (fun y => z y.1), u2 r z]
      · rw [pr_2]
        by_cases cq : q = k
        · rw [if_pos ⟨rfl, cq⟩, cq]
        · rw [if_neg (fun y => cq y.2)]; exact u3 q (by omega)
    · have hkn : k = NS.length := by omega
      rw [if_neg (by omega)]
      have xu : TXk σ υ := hX.trans ⟨fun pp kk _ => by rw [u1], fun r z => u2 r (by omega)⟩
      have hFu : LF υ t G bk n0 NS := hF.keep (u2 172 (by decide)) (u2 195 (by decide))
      refine sp_K_clearLater h174 (by omega) (fun σ5 d1 d2 d3 d4 => ?_)
      have x5 : TXk σ σ5 := xu.trans ⟨d1, fun r z => d3 r (by omega)⟩
      have hF5 : LF σ5 t G bk n0 NS := hFu.keep (d3 172 (by decide)) (d3 195 (by decide))
      refine WL_ind (fun (s : Int) ξ => ∃ k : Nat, k ≤ NS.length ∧ s = (k : Int) ∧ TXk σ ξ ∧ LF ξ t G bk n0 NS ∧ MKs ξ NS.length (stM NS W M w k) ∧ ξ.1 16 73 = b1 (cpM NS W M w k) ∧ ∀ q, q < NS.length → ξ.2 173 q = b1 (M q)) (fun s _ => ((NS.length : Int) - s).toNat) ?_ _ σ5 ⟨0, by omega, rfl, x5, hF5, fun q hq' => d4 q hq', d2, fun q hq' => by rw [d3 173 (by decide)]; exact u3 q (by omega)⟩
      rintro s ξ ⟨k, hk', rfl, xx, hFx, hMx, h73x, h173x⟩ K3 hI3
      by_cases ck2 : k < NS.length
      · rw [if_pos (by omega), show Int.toNat (k : Int) = k from rfl, h173x k ck2]
        obtain ⟨pk, k1, k2, k3, k4, k5⟩ := hFx k ck2
        refine ⟨⟨by omega, by omega⟩, ?_⟩
        have hs1 : ∀ q, stM NS W M w (k + 1) q = (stM NS W M w k q || ((NS.getD k [] == w) && (M k && W.2.2.2 k q))) := fun q => any_rs
        have hs2 : cpM NS W M w (k + 1) = (cpM NS W M w k || ((NS.getD k [] == w) && (M k && W.2.2.1 k))) := any_rs
        refine WJ_of (fun (_ : Unit) ζ => TXk σ ζ ∧ LF ζ t G bk n0 NS ∧ MKs ζ NS.length (stM NS W M w (k + 1)) ∧ ζ.1 16 73 = b1 (cpM NS W M w (k + 1)) ∧ ∀ q, q < NS.length → ζ.2 173 q = b1 (M q)) (fun J hJ => ?_) ?_
        · rw [k4, show Int.toNat ((n0 + pk : Nat) : Int) = n0 + pk from rfl, show Int.toNat ((fr + j : Nat) : Int) = fr + j from rfl]
          refine ⟨fun _ => ⟨⟨by omega, by omega⟩, ⟨by omega, by omega⟩, ⟨by omega, by omega⟩⟩, ?_⟩
          have e171 : ξ.2 171 (fr + j) = σ.2 171 (fr + j) := by rw [xx.2 171 (by omega)]
          rw [e171]
          have same : ((NS.getD k [] == w) && M k) = false → J () ξ := fun hz => by
            have hz2 : ∀ b, ((NS.getD k [] == w) && (M k && b)) = false := fun b => by rw [← Bool.and_assoc, hz]; rfl
            refine hJ () ξ ⟨xx, hFx, fun q hq' => ?_, ?_, h173x⟩
            · rw [hs1, hz2, Bool.or_false]; exact hMx q hq'
            · rw [hs2, hz2, Bool.or_false]; exact h73x
          by_cases cw : ¬ b1 (M k) = 0 ∧ ξ.2 195 (n0 + pk) = σ.2 171 (fr + j)
          · rw [if_pos cw]
            have hMk : M k = true := by
              cases h : M k with
              | true => rfl
              | false => rw [h] at cw; exact absurd (by decide : b1 false = 0) cw.1
            have hwk : NS.getD k [] = w := (Kn.eqI hbk k5 hw).mp cw.2
            refine ⟨⟨by omega, by omega⟩, sp_K_leave hL9 h174 hT hn (by omega) (hR.tx xx) k1 k2 k3 (fun ζ hV => ?_)⟩
            have hb : ∀ b, ((NS.getD k [] == w) && (M k && b)) = b := fun b => by rw [hMk, hwk]; simp
            refine hJ () ζ ⟨xx.trans hV.tx, hFx.keep (hV.2.2.1 172 (by decide)) (hV.2.2.1 195 (by decide)), fun q hq' => ?_, ?_, fun q hq' => by rw [hV.2.2.1 173 (by decide)]; exact h173x q hq'⟩
            · rw [hV.2.2.2, hMx q hq', hs1, hb]
              cases W.2.2.2 k q <;> cases stM NS W M w k q <;> rfl
            · rw [hV.2.1, h73x, hs2, hb]
              cases W.2.2.1 k <;> cases cpM NS W M w k <;> rfl
          · rw [if_neg cw]
            refine same ?_
            cases h : M k with
            | false => rw [Bool.and_false]
            | true =>
              have : NS.getD k [] ≠ w := fun z => cw ⟨by rw [h]; decide, (Kn.eqI hbk k5 hw).mpr z⟩
              have : (NS.getD k [] == w) = false := by simpa using this
              rw [this]; rfl
        · rintro - ζ ⟨z1, z2, z3, z4, z5⟩
          exact ⟨⟨by omega, by omega⟩, hI3 _ _ ⟨k + 1, by omega, rfl, z1, z2, z3, z4, z5⟩ (by omega)⟩
      · have hkn2 : k = NS.length := by omega
        rw [if_neg (by omega)]
        rw [hkn2] at hMx h73x
        exact ⟨⟨by omega, by omega⟩, hI _ _ ⟨j + 1, _, _, by omega, by omega, xx, hFx, hMx, h73x, hacc2⟩ (by omega)⟩
  · rw [if_neg (by omega)]
    have hd0 : chs.drop j = [] := List.drop_eq_nil_of_le (by omega)
    rw [hd0] at hacc
    have hacc3 : acc NS W W.2.1 W.1 chs = cc := hacc
    have := hq ρ hX
    rw [hacc3] at this
    rw [h73]
    exact ⟨is01_b, this⟩
end Kmk
