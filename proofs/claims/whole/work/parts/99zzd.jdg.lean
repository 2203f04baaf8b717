/-! ===== judge, up to where a text is well formed or not ===== -/
/-- what a row of bytes comes to: a fault and its place, or what it means -/
def jdg (rm nd : Nat) (B : Nat → Int) (n : Nat) : (Nat × Nat) ⊕ AS := match ldT B n with
  | .inl p => .inl (1, p)
  | .inr w => if rm < (nle w).length then .inl (4, 0) else rdA rm nd 200000 (bom B n).1 (a0 (nle w))
/-- no tree -/
def TF (σ : IS) : Prop := σ.1 6 1 = 0 ∧ σ.1 6 2 = 0 ∧ σ.1 6 10 = 0 ∧ σ.1 6 15 = 0 ∧ σ.1 6 16 = 0 ∧ σ.1 6 3 = -1
/-- the end of judge for a well-formed text -/
def wVal (L : Nat → Nat) (Q : Int → IS → Prop) (σ : IS) : Prop := w_Validator_countAll L (fun σ12 => w_Meanings_countAll L (σ12.1 2 6) (fun σ14 => w_Validator_sum L (fun v17 σ16 => Q (if v17 = 0 then (0 : Int) else (1 : Int)) σ16) σ14) σ12) σ
section JJd
variable {L : Nat → Nat} {rm nd S S' : Nat} {σ σ' : IS}
theorem JI.out (h : JI L rm nd S σ) (hS : S ≤ S') (hf : ∀ o k, (o = 1 ∨ (o = 2 ∧ 6 ≤ k) ∨ (o = 6 ∧ k = 0)) → σ'.1 o k = σ.1 o k) (hr : σ'.2 = σ.2) : JI L rm nd S' σ' := by
  obtain ⟨h1, h2, h3, h4, ⟨h5, h5'⟩, h6, h7, h8⟩ := h
  have hI := (SI_of h1 (σ' := σ') (hf 1 14 (by omega)) (by rw [hf 1 3 (by omega)]; have := h1.1; omega) (fun r _ _ => by rw [hr]) (fun i _ => by rw [hr])).1
  have hjw : jw σ' = jw σ := by unfold jw; rw [hf 1 14 (by omega)]
  have hw : ∀ i, wst σ' i = wst σ i := fun i => by unfold wst wfr wsz; rw [hr]
  refine ⟨hI, fun i hi => by rw [hr]; exact h2 i hi, ⟨by omega, fun i hi => by rw [hw]; exact h3.2 i hi⟩, ⟨by rw [hf 1 12 (by omega)]; exact h4.1, by rw [hf 1 0 (by omega)]; exact h4.2.1, by rw [hf 6 0 (by omega)]; exact h4.2.2⟩, ⟨by rw [hf 1 16 (by omega)]; omega, fun w => by rw [hr, hf 1 16 (by omega)]; exact h5' w⟩, fun j y1 y2 => by rw [hf 2 j (by omega)]; exact h6 j y1 y2, fun r y0 w y1 y2 => by rw [hr]; exact h7 r y0 w (by omega) y2, ?_⟩
  rw [hf 1 2 (by omega), hf 1 3 (by omega), hr]
  exact h8
theorem JBd.JI {f : Nat} {pl : Int} (h : JBd L rm nd σ f pl) : JI L rm nd (L 999 + 1000000) σ := by
  obtain ⟨⟨h1, h2, h3, h4, ⟨⟨h5, h5', -⟩, h5''⟩, h6, h7, h8⟩, -, -, -, hz⟩ := h
  refine ⟨h1, h2, h3, h4, ⟨⟨h5, by omega⟩, h5''⟩, h6, fun r hr w y1 y2 => ?_, h8⟩
  rcases hr with y | y | y | y | y | y | y
  · exact hz r (by omega) w y1 y2
  · exact hz r (by omega) w y1 y2
  · exact hz r (by omega) w y1 y2
  · exact hz r (by omega) w y1 y2
  · exact hz r (by omega) w y1 y2
  · rw [y]; exact (h7 w y1 y2).1
  · rw [y]; exact (h7 w y1 y2).2
theorem sp_fail {Q : IS → Prop} {f : Int} (h4 : σ.1 2 4 = 0) (hq : Q (pf σ 2 4 f)) : w_Reader_fail L f Q σ := by
  unfold w_Reader_fail
  refine WJ_dir ?_
  rw [if_pos h4]
  exact hq
end JJd
section JJe
variable {L : Nat → Nat} {rm nd S n : Nat} {σ : IS} {B : Nat → Int} {Q : Int → IS → Prop}
set_option maxHeartbeats 1000000 in
theorem sp_judge (hln : JLn L rm nd) (hm : JLm L) (h : JI L rm nd S σ) (hn : σ.1 0 1 = (n : Int)) (hn6 : n ≤ 65536) (hL0 : n ≤ L 100) (hB : ∀ i, B i = ia (σ.2 100 i) 255) (hbg : σ.1 1 2 = (L 997 : Int)) (h998 : ∀ w, ldT B n = .inr w → L 998 = L 997 + (nle w).length) (hS9 : S ≤ L 999)
    (hbad : ∀ σ' f p, jdg rm nd B n = .inl (f, p) → JI L rm nd (L 999 + 1000000) σ' → (σ'.1 0 1 = 0 ∧ σ'.1 0 12 = 0 ∧ σ'.1 0 13 = (f : Int) ∧ σ'.1 0 14 = (p : Int)) → TF σ' → Q 2 σ')
    (hgood : ∀ σ' a', jdg rm nd B n = .inr a' → RJ L rm nd σ' a' → GI rm nd a' → JC L σ' a' → fin a' = true → σ'.1 0 1 = 0 → ((∀ w, w < L 155 → σ'.2 156 w = 0) ∧ ∀ w, w < L 155 → σ'.2 158 w = if w = 6 then 8 else 0) → wVal L Q (pf (pf (pf σ' 0 13 0) 0 12 1) 0 14 (-1))) : w_J_judge L Q σ := by
  unfold w_J_judge
  rw [hn]
  have hI0 : JI L rm nd S (pf σ 0 1 0) := h.out (Nat.le_refl _) (fun o k y => pf_no (by omega)) rfl
  refine sp_J_forget hln hm hI0 (fun σ1 hF => ?_)
  have hbg0 : (pf σ 0 1 0).1 1 2 = (L 997 : Int) := by rw [pf_no (by decide)]; exact hbg
  have hB1 : ∀ i, B i = ia (σ1.2 100 i) 255 := fun i => by
    rw [hF.2.2.1 100 (by decide) (by decide) (by decide) (by decide) (by decide) (by decide) (by decide) (by decide)]; exact hB i
  have h10 : σ1.1 1 0 = (rm : Int) := by rw [hF.2.1 1 0 (by omega)]; exact hI0.2.2.2.1.2.1
  have h997 : L 997 ≤ 256 := by have := hI0.2.2.2.2.2.2.2.2.1; omega
  have h101 := hln.2.2.1
  have hrm := hln.2.1
  have h9 : L 101 < 1000000 := hln.1.2.2.2.2.2.2.2
  have hfit : L 997 + rm + 50 < L 101 := by split at h101 <;> omega
  -- how a bad end goes on
  have hend : ∀ (ρ : IS) (f p : Nat), jdg rm nd B n = .inl (f, p) → JI L rm nd (L 999 + 1000000) ρ → ρ.1 0 1 = 0 → f ≠ 0 → ρ.1 2 4 = (f : Int) → ρ.1 2 5 = (p : Int) → (if (if (ρ.1 2 4) = 0 then (1 : Int) else (0 : Int)) = 0 then w_Tree_forget L (fun σ22 => Q 2 σ22) (pf (pf (pf ρ 0 13 (ρ.1 2 4)) 0 12 (if (ρ.1 2 4) = 0 then (1 : Int) else (0 : Int))) 0 14 (if (if (ρ.1 2 4) = 0 then (1 : Int) else (0 : Int)) = 0 then (ρ.1 2 5) else ((-1) : Int))) else w_Validator_countAll L (fun σ12 => w_Meanings_countAll L (σ12.1 2 6) (fun σ14 => w_Validator_sum L (fun v17 σ16 => Q (if v17 = 0 then (0 : Int) else (1 : Int)) σ16) σ14) σ12) (pf (pf (pf ρ 0 13 (ρ.1 2 4)) 0 12 (if (ρ.1 2 4) = 0 then (1 : Int) else (0 : Int))) 0 14 (if (if (ρ.1 2 4) = 0 then (1 : Int) else (0 : Int)) = 0 then (ρ.1 2 5) else ((-1) : Int)))) := by
    intro ρ f p hj hJ h01 hf0 h4 h5
    have hne : ¬ ρ.1 2 4 = 0 := by omega
    rw [if_neg hne, if_pos rfl, if_pos rfl, h4, h5]
    unfold w_Tree_forget
    refine hbad _ f p hj (hJ.out (Nat.le_refl _) (fun o k y => ?_) rfl) ⟨?_, ?_, ?_, ?_⟩ ⟨?_, ?_, ?_, ?_, ?_, ?_⟩
    · rw [pf_1, if_neg (by omega), pf_1, if_neg (by omega), pf_1, if_neg (by omega), pf_1, if_neg (by omega), pf_1, if_neg (by omega), pf_1, if_neg (by omega), pf_1, if_neg (by omega), pf_1, if_neg (by omega), pf_1, if_neg (by omega)]
    · rw [pf_no (by decide), pf_no (by decide), pf_no (by decide), pf_no (by decide), pf_no (by decide), pf_no (by decide), pf_nk (by decide), pf_nk (by decide), pf_nk (by decide)]; exact h01
    · rw [pf_no (by decide), pf_no (by decide), pf_no (by decide), pf_no (by decide), pf_no (by decide), pf_no (by decide), pf_nk (by decide), pf_eq]
    · rw [pf_no (by decide), pf_no (by decide), pf_no (by decide), pf_no (by decide), pf_no (by decide), pf_no (by decide), pf_nk (by decide), pf_nk (by decide), pf_eq]
    · rw [pf_no (by decide), pf_no (by decide), pf_no (by decide), pf_no (by decide), pf_no (by decide), pf_no (by decide), pf_eq]
    · rw [pf_nk (by decide), pf_nk (by decide), pf_nk (by decide), pf_nk (by decide), pf_nk (by decide), pf_eq]
    · rw [pf_nk (by decide), pf_nk (by decide), pf_nk (by decide), pf_nk (by decide), pf_eq]
    · rw [pf_nk (by decide), pf_nk (by decide), pf_nk (by decide), pf_eq]
    · rw [pf_nk (by decide), pf_nk (by decide), pf_eq]
    · rw [pf_nk (by decide), pf_eq]
    · rw [pf_eq]
  have h01 : σ1.1 0 1 = 0 := by rw [hF.2.1 0 1 (by omega), pf_eq]
  refine sp_load hB1 h10 (bg := L 997) (by omega) h9 hn6 hL0 (by rw [hF.2.2.2.2.2.1.1]; exact hbg0) hF.2.2.2.2.2.1.2.1 hF.2.2.2.2.2.1.2.2.1 (fun w ρ hw hLD => ?_) (fun p s ρ hp hpn hLD => ?_)
  · have hI2 := (JI.ld hln hI0 hF hbg0 hLD).1
    have h01r : (rst ρ).1 0 1 = 0 := by rw [rst_o (Or.inl (by decide)), hLD.1 0 1 (by omega), pf_no (by decide)]; exact h01
    unfold w_Reader_start
    refine WJ_dir ?_
    rw [if_pos rfl]
    show (if ((rst ρ).1 1 0) < ((rst ρ).1 1 4) then _ else _)
    have e0 : (rst ρ).1 1 0 = (rm : Int) := hI2.2.2.2.1.2.1
    have hl : (w.foldl nlc ([], false)).1 = nle w := rfl
    have e4 : (rst ρ).1 1 4 = ((nle w).length : Int) := by rw [rst_o (Or.inl (by decide)), hLD.2.2.2.1.2.1, hl]
    obtain ⟨r2, r3, r4, r5, r6⟩ := rst_2 (ρ := ρ)
    by_cases c : rm < (nle w).length
    · rw [if_pos (by rw [e0, e4]; omega)]
      have hj : jdg rm nd B n = .inl (4, 0) := by unfold jdg; rw [hw]; dsimp only; rw [if_pos c]
      refine sp_fail r4 ?_
      refine hend _ 4 0 hj (hI2.out (by omega) (fun o k y => by rw [pf_1, if_neg (by omega)]; rfl) rfl) (by rw [pf_no (by decide)]; exact h01r) (by decide) pf_eq ?_
      rw [pf_nk (by decide)]
      exact r5
    · rw [if_neg (by rw [e0, e4]; omega)]
      have hlen := ldT_len hw
      have hnl := nle_len w ([], false)
      rw [hl, List.length_nil] at hnl
      have hln2 : (nle w).length ≤ rm := by omega
      obtain ⟨hR, hC⟩ := RJ.first hln hI0 hF hbg0 hLD (by rw [hl]; exact hln2) (by rw [hl]; exact h998 w hw) hS9
      rw [hl] at hR hC
      unfold w_Entities_start
      have hj : jdg rm nd B n = rdA rm nd 200000 (bom B n).1 (a0 (nle w)) := by unfold jdg; rw [hw]; dsimp only; rw [if_neg c]
      have h15 : (rst ρ).1 1 5 = if (bom B n).1 = true then 1 else 0 := by rw [rst_o (Or.inl (by decide)), hLD.1 1 5 (by omega), pf_eq]
      have hgm : gmu rm (a0 (nle w)) = 2 * rm + 1 := by
        show 2 * (rm - (nle w).length) + ([2 * (nle w).length + 1] : List Nat).sum = _
        rw [List.sum_cons, List.sum_nil]
        omega
      have h8 := h998 w hw
      have h01t : (pf (rst ρ) 3 13 ((rst ρ).1 1 4)).1 0 1 = 0 := by rw [pf_no (by decide)]; exact h01r
      have key : w_Content_readAll L (fun σ' => (∃ a', jdg rm nd B n = .inr a' ∧ RJ L rm nd σ' a' ∧ GI rm nd a' ∧ JC L σ' a' ∧ fin a' = true) ∨ ∃ f p : Nat, jdg rm nd B n = .inl (f, p) ∧ JBd L rm nd σ' f (p : Int)) (pf (rst ρ) 3 13 ((rst ρ).1 1 4)) := by
        refine j_readAll hln hR (GI_a0 hln2 (by omega)) hC (l := nle w) (n8 := (nle w).length) rfl h8 rfl ?_ rfl (wide := (bom B n).1) ?_ (by omega) (N := 200000) rfl (by omega) (by decide) (fun σ' a' hr hR' hG' hC' _ hf' => Or.inl ⟨a', hj.trans hr, hR', hG', hC', hf'⟩) (fun σ' f p hr hB' => Or.inr ⟨f, p, hj.trans hr, hB'⟩)
        · rw [pf_no (by decide)]; exact r5
        · rw [pf_no (by decide), h15]
          cases (bom B n).1 <;> simp
      refine fm_Content_readAll (m := fun i => decide (i = 0 ∨ i = 156 ∨ i = 158)) (σ0 := pf (rst ρ) 3 13 ((rst ρ).1 1 4)) (fun i hi => ?_) (fun σ' pσ' hc => ?_) FP.refl key
      · by_cases z : i = 0 ∨ i = 156 ∨ i = 158
        · rcases z with z | z | z
          · subst z; exact absurd hi (by decide)
          · subst z; exact absurd hi (by decide)
          · subst z; exact absurd hi (by decide)
        · exact decide_eq_false z
      have hz : σ'.1 0 1 = 0 := (pσ'.1 0 1 rfl).trans h01t
      rcases hc with ⟨a', hr, hR', hG', hC', hf'⟩ | ⟨f, p, hr, hB'⟩
      · have h24 : σ'.1 2 4 = 0 := hR'.2.2.2.2.2.2.2.2.2.2.2.1
        dsimp only
        rw [h24, if_pos rfl, if_neg (by decide), if_neg (by decide)]
        refine hgood σ' a' hr hR' hG' hC' hf' hz ⟨fun w hw => ?_, fun w hw => ?_⟩
        · rw [pσ'.2 156 rfl]
          show (rst ρ).2 156 w = 0
          rw [show (rst ρ).2 = ρ.2 from rfl, hLD.2.1 156 (by decide)]
          exact hF.2.2.2.1 156 (by omega) w hw
        · rw [pσ'.2 158 rfl]
          show (rst ρ).2 158 w = _
          rw [show (rst ρ).2 = ρ.2 from rfl, hLD.2.1 158 (by decide)]
          exact hF.2.2.2.2.1 w hw
      · exact hend σ' f p hr hB'.JI hz hB'.2.2.1 hB'.2.1 hB'.2.2.2.1
  · have hI2 := (JI.ld hln hI0 hF hbg0 hLD).1
    have h01r : (rst ρ).1 0 1 = 0 := by rw [rst_o (Or.inl (by decide)), hLD.1 0 1 (by omega), pf_no (by decide)]; exact h01
    unfold w_Reader_start
    refine WJ_dir ?_
    rw [if_neg (by omega)]
    obtain ⟨r2, r3, r4, r5, r6⟩ := rst_2 (ρ := ρ)
    have hj : jdg rm nd B n = .inl (1, p) := by unfold jdg; rw [hp]
    refine sp_fail (by rw [pf_nk (by decide)]; exact r4) ?_
    refine hend _ 1 p hj (hI2.out (by omega) (fun o k y => by rw [pf_1, if_neg (by omega), pf_1, if_neg (by omega)]; rfl) rfl) (by rw [pf_no (by decide), pf_no (by decide)]; exact h01r) (by decide) pf_eq ?_
    rw [pf_nk (by decide), pf_eq]
end JJe
