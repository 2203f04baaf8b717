/-! ===== items of the class: one definition of an attribute list (5): the whole body ===== -/
section JI28
variable {L : Nat → Nat} {rm nd : Nat} {ρ : IS} {B : AS} {KK : IS → Prop}
set_option maxHeartbeats 2000000 in
theorem j_df {l : List Int} {g : Nat × Nat} {t : List Frm} {p x j b y w0 w : Nat} {all : List Str} {xe : Int} {el : Str} (hln : JLn L rm nd) (hR : RJ L rm nd ρ (adv B x)) (hF : aF B = (l, g) :: t) (hp : ρ.1 2 2 = ((p + x : Nat) : Int)) (h23 : ρ.1 2 3 = ((p + l.length : Nat) : Int)) (hT : SHT (gd l) (ρ.2 101) l.length p) (htp : p + l.length ≤ jtp ρ) (hxe : Jn ρ xe el)
    (hb : nmg (gd l) l.length true (some x) = some b) (hy : spc (gd l) l.length (some b) = some y) (hty : typ (gd l) l.length y = some w0) (hw : spc (gd l) l.length (some w0) = some w) (hj : dft (gd l) l.length w = some j) (hall : all = (atyL (gd l) l.length y).map (fun z => sl (gd l) z.1 (z.2 - z.1))) (hcw : jw ρ + all.length + 2 < L 102) (hcl : (ρ.1 4 16).toNat + all.length < L 124) (hcb : (ρ.1 4 16).toNat + all.length ≤ 200000)
    (hGO : GO (aE B) (aF B)) (hen : (aE B).length < rm / 14 + 2) (hN5 : aN B 5 ≤ 1) (hc : aN B 0 ≤ rm) (hl : l.length ≤ aN B 0) (hm : aN B 1 ≤ 700000) (hcapT : jtp ρ + (j - w) + (rm - aN B 0) ≤ L 101) (hn : (aA B).length ≤ rm / 8)
    (hbad : ∀ f ρ' v, dfV (gd l) l.length w = some v → vlp (gd l) l.length (some v) = some j → val rm B (sl (gd l) (v + 1) (j - 1 - (v + 1))) (aN B 0) (aN B 1) = .inl f → JBd L rm nd ρ' f (ρ.1 2 5) → KK ρ')
    (hgood : ∀ c m vl ρ', ((dfV (gd l) l.length w = none ∧ c = aN B 0 ∧ m = aN B 1 ∧ vl = []) ∨ ∃ v out, dfV (gd l) l.length w = some v ∧ vlp (gd l) l.length (some v) = some j ∧ val rm B (sl (gd l) (v + 1) (j - 1 - (v + 1))) (aN B 0) (aN B 1) = .inr (c, m, out) ∧ vl = nrt (atyN (gd l) l.length y) out ∧ c ≤ rm) → RJ L rm nd ρ' (sA (adv (sN (sN B 0 c) 1 m) j) (if (adf (aA B) el (sl (gd l) x (b - x))).isSome = true then aA B else aA B ++ [(el, sl (gd l) x (b - x), atyN (gd l) l.length y, dfK (gd l) l.length w, vl, all)])) → sgr ρ ρ' → jw ρ' ≤ jw ρ + all.length + 2 → jtp ρ' ≤ jtp ρ + vl.length → ρ'.1 4 16 ≤ ρ.1 4 16 + (all.length : Int) ∧ 0 ≤ ρ'.1 4 16 → ρ'.1 1 2 = ρ.1 1 2 → ρ'.1 2 5 = ρ.1 2 5 → ρ'.1 2 3 = ρ.1 2 3 → ρ'.1 1 16 = ρ.1 1 16 → KK ρ') :
    w_Reader_readName L (fun v25 σ24 => inR ((σ24.1 2 2) - v25) ∧ w_Reader_needSpace L (fun σ26 => w_Doctype_readType L 1 (fun v29 σ28 => w_Reader_needSpace L (fun σ30 => w_Doctype_readHow L (fun v33 σ32 => WJ (fun (s36 : Int) (σ37 : IS) => WJ (fun (s40 : Unit) (σ41 : IS) => KK σ41) (fun J38 => if ¬ (1 : Int) = 0 ∧ ((σ37.1 2 4) = 0) then w_Store_intern L v25 ((σ24.1 2 2) - v25) (fun v44 σ43 => w_Declared_addAttribute L xe v44 v29 v33 s36 (σ26.1 4 16) (fun σ45 => J38 () σ45) σ43) σ37 else J38 () σ37)) (fun J34 => if ¬ v33 < 2 ∧ (¬ (1 : Int) = 0) then w_Entities_readValue L (fun v53 σ52 => WJ (fun (s56 : Int) (σ57 : IS) => J34 s56 σ57) (fun J54 => if (σ52.1 2 4) = 0 then w_Entities_keepValue L v53 v29 (fun v60 σ59 => J54 v60 σ59) σ52 else J54 (-1) σ52)) σ32 else if v33 < 2 then J34 (-1) σ32 else w_Reader_checkValue L (fun σ62 => J34 (-1) σ62) σ32)) σ30) σ28) σ26) σ24) ρ := by
  have g1 := nmg_lt hb
  have g2 := spc_gt g1.2.2 hy
  have g3 := typ_len (by omega) hty
  have g4 := spc_gt g3.2.2 hw
  have g5 := dft_gt hj
  have h16 : (((ρ.1 4 16).toNat : Nat) : Int) = ρ.1 4 16 := by have := hR.2.2.2.2.2.2.1.2.2.2; omega
  refine j_def1 (Q := fun v25 σ24 b16 v29 v33 σ32 => WJ (fun (s36 : Int) (σ37 : IS) => WJ (fun (s40 : Unit) (σ41 : IS) => KK σ41) (fun J38 => if ¬ (1 : Int) = 0 ∧ ((σ37.1 2 4) = 0) then w_Store_intern L v25 ((σ24.1 2 2) - v25) (fun v44 σ43 => w_Declared_addAttribute L xe v44 v29 v33 s36 b16 (fun σ45 => J38 () σ45) σ43) σ37 else J38 () σ37)) (fun J34 => if ¬ v33 < 2 ∧ (¬ (1 : Int) = 0) then w_Entities_readValue L (fun v53 σ52 => WJ (fun (s56 : Int) (σ57 : IS) => J34 s56 σ57) (fun J54 => if (σ52.1 2 4) = 0 then w_Entities_keepValue L v53 v29 (fun v60 σ59 => J54 v60 σ59) σ52 else J54 (-1) σ52)) σ32 else if v33 < 2 then J34 (-1) σ32 else w_Reader_checkValue L (fun σ62 => J34 (-1) σ62) σ32)) hln hR hF hp h23 hT htp hb hy hty hw hj hall (by omega) hcl hcb (fun ρ5 σ24 h24 hA hK hw5 hkk => ?_)
  obtain ⟨k, hk, hkl, h2⟩ := hkk
  have hwk : w ≤ k := by
    unfold dfP at hk
    split at hk
    · cases hk; omega
    · split at hk
      · cases hk; omega
      · unfold dfV at hk
        split at hk
        · cases hk; omega
        · split at hk
          · by_cases c6 : w + 6 ≤ l.length
            · have := spc_gt c6 hk; omega
            · have : w + 6 ≤ sk isSp (gd l) l.length (w + 6) := sk_gt
              have h6 : (if sk isSp (gd l) l.length (w + 6) = w + 6 then none else some (sk isSp (gd l) l.length (w + 6))) = some k := hk
              split at h6
              · cases h6
              · have := Option.some.inj h6; omega
          · cases hk
  generalize hbb : (ρ.1 4 16).toNat = bb at *
  have hjt5 : jtp ρ5 = jtp ρ := hK.2.1
  refine WJ_of (fun s36 σ37 => (∃ f v, dfV (gd l) l.length w = some v ∧ vlp (gd l) l.length (some v) = some j ∧ val rm B (sl (gd l) (v + 1) (j - 1 - (v + 1))) (aN B 0) (aN B 1) = .inl f ∧ JBd L rm nd σ37 f (ρ.1 2 5)) ∨ (∃ c m vl, ((dfV (gd l) l.length w = none ∧ c = aN B 0 ∧ m = aN B 1 ∧ vl = []) ∨ ∃ v out, dfV (gd l) l.length w = some v ∧ vlp (gd l) l.length (some v) = some j ∧ val rm B (sl (gd l) (v + 1) (j - 1 - (v + 1))) (aN B 0) (aN B 1) = .inr (c, m, out) ∧ vl = nrt (atyN (gd l) l.length y) out ∧ c ≤ rm) ∧ RJ L rm nd (pf σ37 4 16 (bb : Int)) (adv (sN (sN B 0 c) 1 m) j) ∧ sgr ρ σ37 ∧ σ37.1 4 16 = (bb : Int) + (all.length : Int) ∧ (∀ k, k < all.length → Jn σ37 (σ37.2 124 (bb + k)) (all.getD k [])) ∧ (3 ≤ dfK (gd l) l.length w → Jn σ37 s36 vl) ∧ jw σ37 ≤ jw ρ + all.length + 1 ∧ jtp σ37 ≤ jtp ρ + vl.length ∧ σ37.1 1 2 = ρ.1 1 2 ∧ σ37.1 2 5 = ρ.1 2 5 ∧ σ37.1 2 3 = ρ.1 2 3 ∧ σ37.1 1 16 = ρ.1 1 16)) (fun J hJ => ?_) ?_
  · refine j_def2 (ty := atyN (gd l) l.length y) hln hA hF hk (by omega) hkl h2 hj rfl rfl hGO hen hN5 hc (by omega) hm (by omega) (by omega) (fun hv hR5 => hJ _ _ (Or.inr ⟨aN B 0, aN B 1, [], Or.inl ⟨hv, rfl, rfl, rfl⟩, ?_, hK.1, hA.2.1, hA.2.2, fun z => ?_, by omega, by omega, hK.2.2.2 1 2 (by omega) (by omega) (by omega), hK.2.2.2 2 5 (by omega) (by omega) (by omega), hK.2.2.2 2 3 (by omega) (by omega) (by omega), hK.2.2.2 1 16 (by omega) (by omega) (by omega)⟩)) (fun f ρ' x1 hv hvl hvf hB => hJ _ _ (Or.inl ⟨f, k, hv, hvl, hvf, by rw [hK.2.2.2 2 5 (by omega) (by omega) (by omega)] at hB; exact hB⟩)) (fun c m out x1 ρ' hv hvl hvo hR6 hg6 hJn hjw6 hjt6 hcr hf6 h124 h623 => hJ _ _ (Or.inr ⟨c, m, nrt (atyN (gd l) l.length y) out, Or.inr ⟨k, out, hv, hvl, hvo, rfl, hcr⟩, hR6, hK.1.trans hg6, ?_, fun i hi => ?_, fun _ => hJn, by omega, by omega, ?_, ?_, by rw [h623]; exact hK.2.2.2 2 3 (by omega) (by omega) (by omega), by rw [hf6 1 16 (by omega) (by omega) (by omega)]; exact hK.2.2.2 1 16 (by omega) (by omega) (by omega)⟩))
    · have e : ∀ v : Nat → Nat, (fun j => if j = 1 then v 1 else if j = 0 then v 0 else v j) = v := fun v => by
        funext i
        by_cases c1 : i = 1
        · subst c1; rfl
        · by_cases c0 : i = 0
          · subst c0; rfl
          · rw [if_neg c1, if_neg c0]
      have e2 : sN (sN B 0 (aN B 0)) 1 (aN B 1) = B := by
        show (B.1, B.2.1, (fun j => if j = 1 then aN B 1 else if j = 0 then aN B 0 else B.2.2.1 j), B.2.2.2) = B
        have := e B.2.2.1
        show (B.1, B.2.1, (fun j => if j = 1 then B.2.2.1 1 else if j = 0 then B.2.2.1 0 else B.2.2.1 j), B.2.2.2) = B
        rw [this]
      rw [e2]
      exact hR5
    · exfalso
      have := dfK_rng (T := gd l) (e := l.length) (i := w)
      unfold dfP at hk
      rw [if_neg (by omega), if_neg (by omega), hv] at hk
      cases hk
    · rw [hf6 4 16 (by omega) (by omega) (by omega)]; exact hA.2.1
    · rw [h124]; exact (hA.2.2 i hi).gr hg6
    · rw [hf6 1 2 (by omega) (by omega) (by omega)]; exact hK.2.2.2 1 2 (by omega) (by omega) (by omega)
    · rw [hf6 2 5 (by omega) (by omega) (by omega)]; exact hK.2.2.2 2 5 (by omega) (by omega) (by omega)
  · rintro s36 σ37 (⟨f, v, q1, q2, q3, q4⟩ | ⟨c, m, vl, q1, q2, q3, q4, q5, q6, q7, q8, q9, q10, q11, q12⟩)
    · refine WJ_dir ?_
      dsimp only
      rw [if_neg (by rintro ⟨-, z⟩; rw [q4.2.1] at z; have := q4.2.2.1; omega)]
      exact hbad f σ37 v q1 q2 q3 q4
    · refine WJ_dir ?_
      dsimp only
      have hz4 : σ37.1 2 4 = 0 := by have := q2.2.2.2.2.2.2.2.2.2.2.2.1; rw [pf_no (by decide)] at this; exact this
      rw [if_pos ⟨by decide, hz4⟩, h24]
      have hT37 := hT.gr htp q3
      refine j_def3 (s := p + x) (n := b - x) (el := el) (nm := sl (gd l) x (b - x)) (vl := vl) (ls := all) hln q2 q4 q5 (sh_sl hT37 (by omega)) (by have := q3.2.1; omega) rfl (by omega) (hxe.gr q3) q6 (by omega) ?_ hcb (fun σ' hR' hg' hjw' hjt' hf' h16' => ?_)
      · show (aA (adv (sN (sN B 0 c) 1 m) j)).length ≤ _
        rw [adv_other.2.2.2.2.1]
        exact hn
      · have eA : aA (adv (sN (sN B 0 c) 1 m) j) = aA B := adv_other.2.2.2.2.1
        rw [eA] at hR'
        exact hgood c m vl σ' q1 hR' (q3.trans hg') (by omega) (by omega) (by rw [q4] at h16'; omega) (by rw [hf' 1 2 (by omega) (by omega)]; exact q9) (by rw [hf' 2 5 (by omega) (by omega)]; exact q10) (by rw [hf' 2 3 (by omega) (by omega)]; exact q11) (by rw [hf' 1 16 (by omega) (by omega)]; exact q12)
end JI28
