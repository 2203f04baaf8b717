/-! ===== items of the class: one definition of an attribute list (2) ===== -/
section JI25
variable {L : Nat → Nat} {rm nd : Nat} {ρ σ τ : IS} {B : AS}
theorem brL_mem {T : Nat → Int} {e : Nat} {b : Bool} : ∀ (n k : Nat), ∀ z ∈ brL T e b n k, z.1 ≤ z.2 ∧ z.2 ≤ e := by
  intro n
  induction n with
  | zero => intro k z hz; cases hz
  | succ n ih =>
    intro k z hz
    have hL : brL T e b (n + 1) k = (match nmg T e b (asp T e (some k)) with
      | none => []
      | some j => (sk isSp T e k, j) :: (if mt T e (sk isSp T e j) [124] = true then brL T e b n (sk isSp T e j + 1) else [])) := rfl
    rw [hL] at hz
    cases hn : nmg T e b (asp T e (some k)) with
    | none => rw [hn] at hz; cases hz
    | some j =>
      rw [hn] at hz
      dsimp only at hz
      have g1 := nmg_lt (i := sk isSp T e k) hn
      rcases List.mem_cons.mp hz with rfl | hz
      · dsimp only; omega
      · split at hz
        · exact ih _ z hz
        · cases hz
theorem atyL_mem {T : Nat → Int} {e i : Nat} : ∀ z ∈ atyL T e i, z.1 ≤ z.2 ∧ z.2 ≤ e := by
  intro z hz
  unfold atyL at hz
  split at hz
  · exact brL_mem _ _ z hz
  · split at hz
    · cases hz
    · split at hz
      · cases hz
      · split at hz
        · split at hz
          · cases hz
          · exact brL_mem _ _ z hz
        · cases hz
theorem sh_dfP {T T' : Nat → Int} {e d : Nat} (h : SHT T T' e d) (i : Nat) : dfP T' (d + e) (d + i) = mvo d (dfP T e i) := by
  unfold dfP
  rw [sh_dfK h, sh_dfV h]
  split
  · rfl
  · split
    · rfl
    · rfl
theorem dfP_some {T : Nat → Int} {e i j : Nat} (h : dft T e i = some j) : ∃ k, dfP T e i = some k := by
  unfold dft at h
  unfold dfP
  split at h
  · rename_i c
    exact ⟨i + 9, by rw [if_pos c]⟩
  · rename_i c
    rw [if_neg c]
    split at h
    · rename_i c2
      exact ⟨i + 8, by rw [if_pos c2]⟩
    · rename_i c2
      rw [if_neg c2]
      cases hv : dfV T e i with
      | none => rw [hv] at h; cases h
      | some v => exact ⟨v, rfl⟩
set_option maxHeartbeats 2000000 in
/-- name, type and how of a definition are read; the names of its list are kept -/
theorem j_def1 {Q : Int → IS → Int → Int → Int → IS → Prop} {l : List Int} {g : Nat × Nat} {t : List Frm} {p x j b y w0 w : Nat} {all : List Str} (hln : JLn L rm nd) (hR : RJ L rm nd ρ (adv B x)) (hF : aF B = (l, g) :: t) (hp : ρ.1 2 2 = ((p + x : Nat) : Int)) (h23 : ρ.1 2 3 = ((p + l.length : Nat) : Int)) (hT : SHT (gd l) (ρ.2 101) l.length p) (htp : p + l.length ≤ jtp ρ)
    (hb : nmg (gd l) l.length true (some x) = some b) (hy : spc (gd l) l.length (some b) = some y) (hty : typ (gd l) l.length y = some w0) (hw : spc (gd l) l.length (some w0) = some w) (hj : dft (gd l) l.length w = some j) (hall : all = (atyL (gd l) l.length y).map (fun z => sl (gd l) z.1 (z.2 - z.1))) (hcw : jw ρ + all.length < L 102) (hcl : (ρ.1 4 16).toNat + all.length < L 124) (hcb : (ρ.1 4 16).toNat + all.length ≤ 200000)
    (hq : ∀ (ρ5 σ24 : IS), σ24.1 2 2 = ((p + b : Nat) : Int) → AP L rm nd (adv B y) ((p + y : Nat) : Int) (ρ.1 4 16).toNat all ρ5 → AK ρ ρ5 → jw ρ5 ≤ jw ρ + all.length → (∃ k, dfP (gd l) l.length w = some k ∧ k ≤ l.length ∧ ρ5.1 2 2 = ((p + k : Nat) : Int)) → Q ((p + x : Nat) : Int) σ24 (((ρ.1 4 16).toNat : Nat) : Int) ((atyN (gd l) l.length y : Int) + 10) (jhw (dfK (gd l) l.length w)) ρ5) :
    w_Reader_readName L (fun v25 σ24 => inR ((σ24.1 2 2) - v25) ∧ w_Reader_needSpace L (fun σ26 => w_Doctype_readType L 1 (fun v29 σ28 => w_Reader_needSpace L (fun σ30 => w_Doctype_readHow L (fun v33 σ32 => Q v25 σ24 (σ26.1 4 16) v29 v33 σ32) σ30) σ28) σ26) σ24) ρ := by
  have hjl := hR.1.1.jtp_le
  have h9 : L 101 < 1000000 := hln.1.2.2.2.2.2.2.2
  have g1 := nmg_lt hb
  have g2 := spc_gt g1.2.2 hy
  have g3 := typ_len (by omega) hty
  have g4 := spc_gt g3.2.2 hw
  have g5 := dft_gt hj
  have h4 : ρ.1 2 4 = 0 := hR.2.2.2.2.2.2.2.2.2.2.2.1
  have hS : JS L ρ (p + l.length) := ⟨h23, by omega, h9, h4, hR.1.2.2.2.2.2.1⟩
  have hj0 : jp (p + l.length) 0 ρ (some (p + x)) ρ := jp.start' hS (by omega) hp
  have h16 : (((ρ.1 4 16).toNat : Nat) : Int) = ρ.1 4 16 := by have := hR.2.2.2.2.2.2.1.2.2.2; omega
  refine p_readName hS (by omega) hj0 (fun v25 ρ1 h1 hv25 _ => ?_)
  have e25 := hv25 _ rfl
  rw [sh_nmgs hT, hb, mvo_some] at h1
  rw [h1.at.1, e25]
  refine ⟨⟨by omega, by omega⟩, ?_⟩
  refine p_needSpace hS (by omega) h1 (fun ρ2 h2 => ?_)
  rw [sh_spcs hT, hy, mvo_some] at h2
  have hcx : (cur (adv B x)).length = l.length - x := by
    rw [adv_of hF]
    show (l.drop x).length = _
    rw [List.length_drop]
  have hR2 := hR.rd (k := y - x) hln hp (by rw [hcx]; omega) (by rw [show p + x + (y - x) = p + y by omega]; exact h2)
  rw [adv_adv, show x + (y - x) = y by omega] at hR2
  have hs2 := h2.store
  have e16 : ρ2.1 4 16 = (((ρ.1 4 16).toNat : Nat) : Int) := by rw [hs2.2.2.2.1, h16]
  have hAP : AP L rm nd (adv B y) ((p + y : Nat) : Int) (ρ.1 4 16).toNat [] ρ2 := by
    refine ⟨?_, by rw [e16]; rfl, fun k hk => by cases hk⟩
    rw [pf_self e16, pf_self h2.at.1]
    exact hR2.1
  have hT2 : ρ2.2 101 = ρ.2 101 := by rw [h2.row]
  have hK2 : AK ρ ρ2 := by
    obtain ⟨c1, c2, c3, c4⟩ := h2.cells
    exact ⟨hR2.2, hs2.2.1, hT2, fun o k x1 x2 x3 => c1 o k x2 (by omega)⟩
  have hty2 := sh_typ hT y
  rw [hty, mvo_some] at hty2
  have hal2 := sh_atyL hT (by omega) hty
  refine j_readType1 hln hAP (by rw [hK2.2.2.2 2 3 (by omega) (by omega) (by omega)]; exact h23) h2.at.1 (by omega) (by rw [hK2.2.1]; exact htp) (by rw [hT2]; exact hty2) (all := all) ?_ (by rw [hs2.1]; exact hcw) hcl hcb (fun ρ3 hA3 hK3 h32 hw3 => ?_)
  · rw [hT2, hal2, List.map_map, hall]
    refine List.map_congr_left (fun z hz => ?_)
    show sl (gd l) z.1 (z.2 - z.1) = sl (ρ.2 101) (p + z.1) (p + z.2 - (p + z.1))
    have hz' := atyL_mem z hz
    rw [show p + z.2 - (p + z.1) = z.2 - z.1 by omega]
    exact (sh_sl hT (by omega)).symm
  · have hKK := hK2.trans hK3
    have hT3 : ρ3.2 101 = ρ.2 101 := hKK.2.2.1
    have hS3 : JS L ρ3 (p + l.length) := hA3.js hln (by rw [hKK.2.2.2 2 3 (by omega) (by omega) (by omega)]; exact h23) (by rw [hKK.2.1]; exact htp)
    refine p_needSpace hS3 (by omega) (show jp (p + l.length) 0 ρ3 (some (p + w0)) ρ3 from jp.start' hS3 (by omega) h32) (fun ρ4 h4' => ?_)
    rw [hT3, sh_spcs hT, hw, mvo_some] at h4'
    refine j_readHow hS3 h4' (fun v33 ρ5 h5 hv33 hv => ?_)
    have ev := hv _ rfl
    rw [hT3, sh_dfK hT] at ev
    have ev' : v33 = jhw (dfK (gd l) l.length w) := ev
    have h5' : jp (p + l.length) 0 ρ3 (dfP (ρ3.2 101) (p + l.length) (p + w)) ρ5 := h5
    rw [hT3, sh_dfP hT] at h5'
    obtain ⟨k, hk⟩ := dfP_some hj
    rw [hk, mvo_some] at h5'
    rw [ev', e16, hT2, sh_atyN hT]
    have hkl := h5'.at.2
    refine hq ρ5 ρ1 h1.at.1 (hA3.mv hln h5') (hKK.trans (AK.jpp hA3 h5')) (by rw [h5'.store.1]; rw [hs2.1] at hw3; exact hw3) ⟨k, hk, by omega, h5'.at.1⟩
end JI25
