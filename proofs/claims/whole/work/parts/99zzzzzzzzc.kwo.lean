/-! ===== the reference at the end of a text: words of a value ===== -/
section Kwo
variable {L : Nat → Nat} {rm nd o : Nat} {σ τ : IS} {g : KG} {a : AS} {Q : IS → Prop} {R : Int → IS → Prop}
theorem pct_le2 {cf : Str → Nat} (h : ∀ s, cf s ≤ 1) : ∀ (l acc : List Int), pct cf acc l ≤ l.length + 1
  | [], acc => by
    show (if acc = [] then 0 else cf acc) ≤ 0 + 1
    split
    · omega
    · exact h acc
  | c :: r, acc => by
    show (if c = 32 then (if acc = [] then 0 else cf acc) + pct cf [] r else pct cf (acc ++ [c]) r) ≤ r.length + 1 + 1
    have h1 := pct_le2 h r []
    have h2 := pct_le2 h r (acc ++ [c])
    have h3 := h acc
    split
    · split <;> omega
    · omega
theorem cfw_le2 {seen : List Str} {ty : Nat} (s : Str) : cfw seen ty s ≤ 1 := by
  unfold cfw
  split
  · omega
  · split <;> omega
/-- identities are marked -/
def KId (σ : IS) (bk seen : List Str) : Prop := (∀ s ∈ seen, s ∈ bk) ∧ ∀ i, i < bk.length → σ.2 188 i = if bk.getD i [] ∈ seen then 1 else 0
theorem sp_K_wordsOf {i : Nat} {a1 a2 : Int} {seen : List Str} {ty : Nat} (hL : KLn L o rm nd) (h : KFn rm nd o σ g a) (hid : KId σ (gB g) seen) (hi : i < (aB a).length) (hB : (aB a).length ≤ L (rfo o 8)) (hpl : (gP g).length ≤ L (rfo o 1)) (hbk : (gB g).length ≤ 50000) (ha1 : a1 = (i : Int)) (hty : 2 ≤ ty ∧ ty ≤ 5) (ha2 : a2 = if ty = 4 ∨ ty = 5 then 1 else 0) (hV : gV g (kw ty) + ((aB a).getD i atD).2.1.length + 1 ≤ 2000000000)
    (hq : ∀ ρ v, KFn rm nd o ρ (gsv g v) a → (∀ k, v k = gV g k + (if k = kw ty then pct (cfw seen ty) [] ((aB a).getD i atD).2.1 else 0)) → ρ.1 = σ.1 → (∀ r, r ≠ rfo o 18 → ρ.2 r = σ.2 r) → Q ρ) : w_KReader_wordsOf L a1 a2 Q σ := by
  subst ha1
  have ho := hL.2.1
  have r1 := rf_1 ho
  have e2 : σ.1 16 2 = (o : Int) := h.1.2.2.2.2.1.1
  have hdy : dyD (σ.1 16 2) := by unfold dyD; rcases ho with y | y <;> rw [e2, y] <;> decide
  have l18 : L (rfo o 18) = 23 := by obtain ⟨-, -, -, -, -, -, -, -, -, -, -, -, -, -, -, -, -, -, -, x, -⟩ := hL; exact x
  have l188 : L 188 = 50000 := hL.2.2.2.2.2.2.2.1
  obtain ⟨lp1, lp2⟩ : rm ≤ L (rfo o 1) ∧ L (rfo o 1) ≤ 262144 := by obtain ⟨-, -, -, -, -, -, -, -, -, -, -, -, -, -, -, -, x, -⟩ := hL; exact x
  obtain ⟨l8, l8', l8''⟩ : (∀ k, 8 ≤ k → k ≤ 13 → L (rfo o k) = L (rfo o 8)) ∧ 16500 ≤ L (rfo o 8) ∧ L (rfo o 8) ≤ 32768 := by obtain ⟨-, -, -, -, -, -, -, -, -, -, -, -, -, -, -, -, -, x, -⟩ := hL; exact x
  obtain ⟨m1, m2, m3, m4, m5, m6⟩ := h.2.2.2.2.2.2.1.2 i hi
  obtain ⟨p, mp1, mp2, mp3⟩ := m2.at_
  generalize hval : ((aB a).getD i atD).2.1 = val at *
  have hpool := h.1.2.2.2.1
  have hkw : kw ty = if ty = 4 ∨ ty = 5 then 21 else 12 := rfl
  have hkwI : (if a2 = 0 then (12 : Int) else (21 : Int)) = ((kw ty : Nat) : Int) := by
    rw [ha2, hkw]
    by_cases c : ty = 4 ∨ ty = 5
    · rw [if_pos c, if_pos c, if_neg (by decide)]; rfl
    · rw [if_neg c, if_neg c, if_pos rfl]; rfl
  have hkw2 : kw ty < 23 := by rw [hkw]; split <;> omega
  unfold w_KReader_wordsOf
  rw [e2, show Int.toNat (o : Int) = o from rfl, show Int.toNat (i : Int) = i from rfl, mp1, m3, hkwI, show Int.toNat ((kw ty : Nat) : Int) = kw ty from rfl]
  refine ⟨by rw [← e2]; exact hdy, ⟨by omega, by rw [l8 9 (by omega) (by omega)]; omega⟩, ⟨by omega, by rw [l8 10 (by omega) (by omega)]; omega⟩, ⟨by omega, by omega⟩, ?_⟩
  refine WL_ind (fun s ρ => ∃ (j : Nat) (acc : List Int) (t : Nat) (v : Nat → Nat), s.2 = ((p + j : Nat) : Int) ∧ j ≤ val.length + 1 ∧ KFn rm nd o ρ (gsv g v) a ∧ ρ.1 = σ.1 ∧ (∀ r, r ≠ rfo o 18 → ρ.2 r = σ.2 r) ∧ (∀ k, v k = gV g k + (if k = kw ty then t else 0)) ∧ ((j ≤ val.length ∧ s.1 = ((p + j - acc.length : Nat) : Int) ∧ acc.length ≤ j ∧ acc = (val.take j).drop (j - acc.length) ∧ pct (cfw seen ty) [] val = t + pct (cfw seen ty) acc (val.drop j)) ∨ (j = val.length + 1 ∧ pct (cfw seen ty) [] val = t))) (fun s _ => ((p : Int) + (val.length : Int) + 2 - s.2).toNat) ?_ _ σ ⟨0, [], 0, gV g, rfl, by omega, h, rfl, fun _ _ => rfl, fun k => by split <;> rfl, Or.inl ⟨Nat.zero_le _, by show (p : Int) = ((p + 0 - 0 : Nat) : Int); omega, Nat.le_refl _, rfl, by rw [Nat.zero_add]; rfl⟩⟩
  rintro ⟨s1, s2⟩ ρ ⟨j, acc, t, v, hs2, hj, hK, hf, hr, hv, hcs⟩ K hI
  dsimp only at hs2 hcs ⊢
  subst hs2
  have hpt := pct_le2 (cf := cfw seen ty) cfw_le2 val []
  by_cases cj : j = val.length + 1
  · rw [if_pos (by omega)]
    rcases hcs with ⟨y, -⟩ | ⟨-, ht⟩
    · omega
    · refine hq ρ v hK (fun k => ?_) hf hr
      rw [hv k, ht]
  · rw [if_neg (by omega)]
    obtain ⟨hjl, hs1, hal, hacc, hpc⟩ := hcs.resolve_right (fun z => cj z.1)
    subst hs1
    rw [hf, e2, show Int.toNat (o : Int) = o from rfl, show Int.toNat ((p + j : Nat) : Int) = p + j from rfl]
    -- the pool
    have hpj : ∀ x, x < val.length → ρ.2 (rfo o 1) (p + x) = val.getD x 0 := fun x hx => by
      rw [hr _ (by omega), hpool.2 (p + x) (by omega)]
      exact mp3 x hx
    -- what the state is when a word has ended
    have hend : ∀ (J : Unit → IS → Prop), (∀ ρ' v', KFn rm nd o ρ' (gsv g v') a → ρ'.1 = σ.1 → (∀ r, r ≠ rfo o 18 → ρ'.2 r = σ.2 r) → (∀ k, v' k = gV g k + (if k = kw ty then t + (if acc = [] then 0 else cfw seen ty acc) else 0)) → J () ρ') → (t + (if acc = [] then 0 else cfw seen ty acc) ≤ pct (cfw seen ty) [] val) → (if ((p + j - acc.length : Nat) : Int) < ((p + j : Nat) : Int) then WJ (fun (s22 : Int) (σ23 : IS) => dyD (σ23.1 16 2) ∧ inL L (rfo (Int.toNat (σ23.1 16 2)) 18) ((kw ty : Nat) : Int) ∧ ((¬ s22 < 0 → inL L 188 s22)) ∧ inR ((σ23.2 (rfo (Int.toNat (σ23.1 16 2)) 18) (kw ty)) + (if s22 < 0 then (1 : Int) else (if (σ23.2 188 (Int.toNat s22)) = 0 then (1 : Int) else (0 : Int)))) ∧ inL L (rfo (Int.toNat (σ23.1 16 2)) 18) ((kw ty : Nat) : Int) ∧ J () (pr σ23 (rfo (Int.toNat (σ23.1 16 2)) 18) (kw ty) ((σ23.2 (rfo (Int.toNat (σ23.1 16 2)) 18) (kw ty)) + (if s22 < 0 then (1 : Int) else (if (σ23.2 188 (Int.toNat s22)) = 0 then (1 : Int) else (0 : Int)))))) (fun J20 => if a2 = 0 then dyD (o : Int) ∧ inR (((p + j : Nat) : Int) - ((p + j - acc.length : Nat) : Int)) ∧ w_KBook_find L (rfo o 1) ((p + j - acc.length : Nat) : Int) (((p + j : Nat) : Int) - ((p + j - acc.length : Nat) : Int)) (fun v45 σ44 => J20 v45 σ44) ρ else J20 (-1) ρ) else J () ρ) := by
      intro J hJ htl
      by_cases c0 : acc = []
      · rw [if_neg (by rw [c0]; show ¬ ((p + j - 0 : Nat) : Int) < _; omega)]
        refine hJ ρ v hK hf hr (fun k => ?_)
        rw [hv k, if_pos c0]
        rfl
      · have hal0 : 0 < acc.length := List.length_pos_iff.mpr c0
        rw [if_pos (by omega)]
        rw [if_neg c0] at hJ htl
        refine WJ_of (fun s22 τ => τ = ρ ∧ ((ty = 4 ∨ ty = 5) ∧ s22 = -1 ∨ ¬ (ty = 4 ∨ ty = 5) ∧ Kf (gB g) s22 acc)) (fun J20 hJ20 => ?_) ?_
        · by_cases ct : ty = 4 ∨ ty = 5
          · rw [if_pos ct] at ha2
            rw [if_neg (by rw [ha2]; decide)]
            exact hJ20 _ _ ⟨rfl, Or.inl ⟨ct, rfl⟩⟩
          · rw [if_neg ct] at ha2
            rw [if_pos ha2]
            refine ⟨by rw [← e2]; exact hdy, ⟨by omega, by omega⟩, ?_⟩
            refine sp_Z_bf (p := p + j - acc.length) (n := acc.length) (s := acc) hL hK.1 ⟨by omega, lp2⟩ rfl (by omega) ?_ (fun w hw => hJ20 _ _ ⟨rfl, Or.inr ⟨ct, hw⟩⟩)
            refine List.ext_getElem? (fun x => ?_)
            by_cases cx : x < acc.length
            · rw [sl_get cx, show p + j - acc.length + x = p + (j - acc.length + x) by omega, hpj _ (by omega)]
              conv => rhs; rw [hacc]
              rw [List.getElem?_drop, List.getElem?_take, if_pos (by omega), List.getD_eq_getElem?_getD, List.getElem?_eq_getElem (by omega)]
              rfl
            · rw [List.getElem?_eq_none (by rw [sl_ln]; omega), List.getElem?_eq_none (by omega)]
        · rintro s22 τ ⟨rfl, hs22⟩
          rw [hf, e2, show Int.toNat (o : Int) = o from rfl]
          have hval' : τ.2 (rfo o 18) (kw ty) = (v (kw ty) : Int) := hK.1.2.2.2.2.2 (kw ty) hkw2
          have hvk : v (kw ty) = gV g (kw ty) + t := by rw [hv (kw ty), if_pos rfl]
          have hc1 := cfw_le2 (seen := seen) (ty := ty) acc
          have hmI : (if s22 < 0 then (1 : Int) else (if (τ.2 188 (Int.toNat s22)) = 0 then (1 : Int) else (0 : Int))) = ((cfw seen ty acc : Nat) : Int) ∧ (¬ s22 < 0 → inL L 188 s22) := by
            rcases hs22 with ⟨ct, rfl⟩ | ⟨ct, hw⟩
            · refine ⟨?_, fun z => absurd (by decide) z⟩
              unfold cfw
              rw [if_pos ct, if_pos (by decide)]
              rfl
            · have hcf : cfw seen ty acc = if acc ∈ seen then 0 else 1 := by unfold cfw; rw [if_neg ct]
              rcases hw with hw | ⟨rfl, hw⟩
              · have hlt := hw.lt
                rw [if_neg (by omega)]
                refine ⟨?_, fun _ => ⟨hlt.1, by rw [l188]; omega⟩⟩
                have hx : τ.2 188 s22.toNat = if acc ∈ seen then 1 else 0 := by
                  rw [hr 188 (by omega), hid.2 s22.toNat (by omega), List.getD_eq_getElem?_getD, hw.2]
                  rfl
                rw [hx, hcf]
                by_cases cs : acc ∈ seen
                · rw [if_pos cs, if_pos cs, if_neg (by decide)]; rfl
                · rw [if_neg cs, if_neg cs, if_pos rfl]; rfl
              · refine ⟨?_, fun z => absurd (by decide) z⟩
                rw [if_pos (by decide), hcf, if_neg (fun z => hw (hid.1 acc z))]
                rfl
          rw [hmI.1, hval']
          refine ⟨by rw [← e2]; exact hdy, ⟨by omega, by rw [l18]; omega⟩, hmI.2, ⟨by omega, by omega⟩, ⟨by omega, by rw [l18]; omega⟩, ?_⟩
          refine hJ _ (fun k => v k + if k = kw ty then cfw seen ty acc else 0) (hK.vio (k := kw ty) (m := cfw seen ty acc) ho (by show _ = ((v (kw ty) + _ : Nat) : Int); omega)) hf (fun r y => ?_) (fun k => ?_)
          · funext x
            rw [pr_2, if_neg (fun z => y z.1)]
            exact congrFun (hr r y) x
          · rw [hv k]
            by_cases ck : k = kw ty
            · rw [if_pos ck, if_pos ck, if_pos ck]; omega
            · rw [if_neg ck, if_neg ck, if_neg ck]
    refine WJ_of (fun s9 τ => ∃ (acc' : List Int) (t' : Nat) (v' : Nat → Nat), KFn rm nd o τ (gsv g v') a ∧ τ.1 = σ.1 ∧ (∀ r, r ≠ rfo o 18 → τ.2 r = σ.2 r) ∧ (∀ k, v' k = gV g k + (if k = kw ty then t' else 0)) ∧ ((j < val.length ∧ s9 = ((p + (j + 1) - acc'.length : Nat) : Int) ∧ acc'.length ≤ j + 1 ∧ acc' = (val.take (j + 1)).drop (j + 1 - acc'.length) ∧ pct (cfw seen ty) [] val = t' + pct (cfw seen ty) acc' (val.drop (j + 1))) ∨ (j = val.length ∧ pct (cfw seen ty) [] val = t'))) (fun J7 hJ7 => ?_) ?_
    rotate_left
    · rintro s9 τ ⟨acc', t', v', y1, y2, y3, y4, y5⟩
      refine ⟨⟨by omega, by omega⟩, hI _ _ ⟨j + 1, acc', t', v', by show ((p + j : Nat) : Int) + 1 = ((p + (j + 1) : Nat) : Int); omega, by omega, y1, y2, y3, y4, ?_⟩ ?_⟩
      · rcases y5 with ⟨z1, z2, z3, z4, z5⟩ | ⟨z1, z2⟩
        · exact Or.inl ⟨by omega, z2, z3, z4, z5⟩
        · exact Or.inr ⟨by omega, z2⟩
      · show ((p : Int) + (val.length : Int) + 2 - (((p + j : Nat) : Int) + 1)).toNat < ((p : Int) + (val.length : Int) + 2 - ((p + j : Nat) : Int)).toNat
        omega
    refine ⟨fun _ => ⟨by rw [← e2]; exact hdy, ⟨by omega, by omega⟩⟩, ?_⟩
    by_cases ce : j = val.length
    · rw [if_pos (Or.inl (by omega))]
      refine WJ_dir ?_
      have hpe : pct (cfw seen ty) acc (val.drop j) = if acc = [] then 0 else cfw seen ty acc := by rw [ce, List.drop_length]; rfl
      refine hend (fun _ σ17 => inR (((p + j : Nat) : Int) + 1) ∧ J7 (((p + j : Nat) : Int) + 1) σ17) (fun ρ' v' w1 w2 w3 w4 => ⟨⟨by omega, by omega⟩, hJ7 _ _ ⟨[], t + (if acc = [] then 0 else cfw seen ty acc), v', w1, w2, w3, w4, Or.inr ⟨ce, ?_⟩⟩⟩) (by rw [hpc, hpe]; exact Nat.le_refl _)
      rw [hpc, hpe]
    · have hlt : j < val.length := by omega
      have hdr : val.drop j = val.getD j 0 :: val.drop (j + 1) := by
        rw [List.drop_eq_getElem_cons hlt, List.getD_eq_getElem?_getD, List.getElem?_eq_getElem hlt]
        rfl
      rw [hpj j hlt]
      by_cases c32 : val.getD j 0 = 32
      · rw [if_pos (Or.inr c32)]
        refine WJ_dir ?_
        have hpe : pct (cfw seen ty) acc (val.drop j) = (if acc = [] then 0 else cfw seen ty acc) + pct (cfw seen ty) [] (val.drop (j + 1)) := by
          rw [hdr]
          show (if val.getD j 0 = 32 then _ else _) = _
          rw [if_pos c32]
        refine hend (fun _ σ17 => inR (((p + j : Nat) : Int) + 1) ∧ J7 (((p + j : Nat) : Int) + 1) σ17) (fun ρ' v' w1 w2 w3 w4 => ⟨⟨by omega, by omega⟩, hJ7 _ _ ⟨[], t + (if acc = [] then 0 else cfw seen ty acc), v', w1, w2, w3, w4, Or.inl ⟨hlt, ?_, Nat.zero_le _, ?_, ?_⟩⟩⟩) (by rw [hpc, hpe]; omega)
        · show ((p + j : Nat) : Int) + 1 = ((p + (j + 1) - 0 : Nat) : Int); omega
        · rw [List.length_nil, Nat.sub_zero, List.drop_eq_nil_of_le (by rw [List.length_take]; omega)]
        · rw [hpc, hpe]; omega
      · rw [if_neg (fun z => by rcases z with z | z; omega; exact c32 z)]
        refine hJ7 _ _ ⟨acc ++ [val.getD j 0], t, v, hK, hf, hr, hv, Or.inl ⟨hlt, ?_, ?_, ?_, ?_⟩⟩
        · rw [List.length_append, List.length_singleton]; omega
        · rw [List.length_append, List.length_singleton]; omega
        · rw [List.length_append, List.length_singleton, show j + 1 - (acc.length + 1) = j - acc.length by omega, List.take_succ_eq_append_getElem hlt, List.drop_append_of_le_length (by rw [List.length_take]; omega), ← hacc, List.getD_eq_getElem?_getD, List.getElem?_eq_getElem hlt]
          rfl
        · rw [hpc, hdr]
          show _ + (if val.getD j 0 = 32 then _ else _) = _
          rw [if_neg c32]
end Kwo
