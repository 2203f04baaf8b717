/-! ===== items of the class: one definition of an attribute list (3): kept ===== -/
section JI26
variable {L : Nat → Nat} {rm nd : Nat} {ρ σ τ : IS} {A : AS} {Q : IS → Prop}
theorem AP.of {b : Nat} {ls : List Str} (hR : RJ L rm nd (pf σ 4 16 (b : Int)) A) (h16 : σ.1 4 16 = (b : Int) + (ls.length : Int)) (hls : ∀ k, k < ls.length → Jn σ (σ.2 124 (b + k)) (ls.getD k [])) : AP L rm nd A (σ.1 2 2) b ls σ := by
  refine ⟨?_, h16, hls⟩
  rw [pf_self (σ := pf σ 4 16 (b : Int)) (by rw [pf_no (by decide)])]
  exact hR
set_option maxHeartbeats 1000000 in
theorem j_def3 {b s n ty dk : Nat} {x1 x2 xe xv : Int} {el nm vl : Str} {ls : List Str} (hln : JLn L rm nd) (hR : RJ L rm nd (pf σ 4 16 (b : Int)) A) (h16 : σ.1 4 16 = (b : Int) + (ls.length : Int)) (hls : ∀ k, k < ls.length → Jn σ (σ.2 124 (b + k)) (ls.getD k [])) (hnm : sl (σ.2 101) s n = nm) (hs : s + n ≤ jtp σ) (hx1 : x1 = (s : Int)) (hx2 : x2 = (n : Int)) (hxe : Jn σ xe el) (hxv : 3 ≤ dk → Jn σ xv vl) (hcw : jw σ < L 102) (hn : (aA A).length ≤ rm / 8) (hb : b + ls.length ≤ 200000)
    (hq : ∀ σ', RJ L rm nd σ' (sA A (if (adf (aA A) el nm).isSome = true then aA A else aA A ++ [(el, nm, ty, dk, vl, ls)])) → sgr σ σ' → jw σ' ≤ jw σ + 1 → jtp σ' = jtp σ → (∀ o k, ¬ (o = 1 ∧ (k = 13 ∨ k = 14)) → ¬ (o = 4 ∧ (k = 12 ∨ k = 14 ∨ k = 16)) → σ'.1 o k = σ.1 o k) → σ'.1 4 16 ≤ σ.1 4 16 ∧ 0 ≤ σ'.1 4 16 → Q σ') :
    w_Store_intern L x1 x2 (fun v44 σ43 => w_Declared_addAttribute L xe v44 ((ty : Int) + 10) (jhw dk) xv (b : Int) Q σ43) σ := by
  have hA := AP.of hR h16 hls
  refine hA.int hln hcw hs hx1 hx2 (fun x σ1 hA1 hg1 hJn hjw1 hjt1 hfr => ?_)
  rw [hnm] at hJn
  have hR1 : RJ L rm nd (pf σ1 4 16 (b : Int)) A := by
    have := hA1.1
    rw [pf_self (σ := pf σ1 4 16 (b : Int)) (by rw [pf_no (by decide)]; exact hfr.1 2 2 (by omega))] at this
    exact this
  refine sp_addAttribute hln hR1 hn (hxe.gr hg1) hJn hA1.2.1 hb hA1.2.2 (fun z => (hxv z).gr hg1) (fun σ2 hR2 hf2 h162 hg2 => ?_)
  refine hq σ2 hR2 (hg1.trans hg2) ?_ ?_ (fun o k k1 k2 => by rw [hf2 o k k2]; exact hfr.1 o k k1) (by rw [hfr.1 4 16 (by omega)] at h162; exact h162)
  · have : jw σ2 = jw σ1 := by unfold jw; rw [hf2 1 14 (by omega)]
    omega
  · have : jtp σ2 = jtp σ1 := by unfold jtp; rw [hf2 1 3 (by omega)]
    omega
end JI26
