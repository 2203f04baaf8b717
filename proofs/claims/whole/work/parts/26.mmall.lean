/-! ===== the small machine runs as the large one does: the whole run ===== -/
def IntS (l : Launch) (D : va_G) (tI tB tZ tL : ClassId) (X : (Nat → Prop) → State → Prop) (B : MB) (adr ln : Nat → Nat) : Prop :=
  ∀ (oc idx kd : Nat) (q : MethodName × ByteArray × Nat × Nat × Nat × Nat), MlP oc (idx, kd, q) → 10 ≤ kd → ∀ (st st' : List MV) (σ σ' : MS), mint B ln kd st σ = some (st', σ') → st.length ≤ 8 →
    ∀ (d nL pc : Nat) (cd : ByteArray) (Q : State → Prop) (p : Program) (e : Env) (s : State) (m : MethodId) (args : Array Value) (below : List Frame) (meth : Method) (c : Code) (A : Nat → Prop) (H : Heap) (locs : List Loc) (ls : Array Slot), Cx p m c cd nL s args (clsN oc) D tI tB tZ tL X A → MX adr A s → Wd D A s (wld B adr ln tI tB tZ σ) H locs → ls.size = nL →
      decode cd pc = .ok (if kd ≤ 12 then .invokevirtual idx else .invokestatic idx, 3) → (∀ (H' : Heap) (locs' : List Loc), Wd D A s (wld B adr ln tI tB tZ σ') H' locs' → W p l e (rmD d) s m args below meth c H' locs' 0 0 Q (F0 m (pc + 3) ls (st'.map (mv adr)))) →
      W p l e (rmD d) s m args below meth c H locs 0 0 Q (F0 m pc ls (st.map (mv adr)))
theorem rm_fr (d : Nat) : (rmD d).frames + 1 ≤ (rmD (d + 1)).frames := by simp [rmD]
theorem rm_lo {n : Nat} (d : Nat) (h : n ≤ 40) : 8 + (n + 11) + (rmD d).locals ≤ (rmD (d + 1)).locals := by simp only [rmD]; omega
theorem st_split {adr : Nat → Nat} {st : List MV} {na : Nat} {r : List MV} (h : st.drop na = r) (hn : na ≤ st.length) : st.map (mv adr) = (((st.take na).reverse).map (mv adr)).reverse ++ r.map (mv adr) := by
  rw [List.map_reverse, List.reverse_reverse, ← h, ← List.map_append, List.take_append_drop]
theorem as_len {adr : Nat → Nat} {st : List MV} {na : Nat} (hn : na ≤ st.length) : (((st.take na).reverse).map (mv adr)).length = na := by
  rw [List.length_map, List.length_reverse, List.length_take]
  omega
theorem rt_cases {rt : Nat} (h : rt ≤ 2) : rt = 0 ∨ rt = 1 ∨ rt = 2 := by omega
set_option maxHeartbeats 4000000 in
theorem sim_all {l : Launch} {D : va_G} {tI tB tZ tL : ClassId} {X : (Nat → Prop) → State → Prop} {B : MB} {adr ln : Nat → Nat} (hX : Ro X) (hmx : ∀ A U, X A U → MX adr A U) (hI : IntS l D tI tB tZ tL X B adr ln) : ∀ n, SimP l D tI tB tZ tL X B adr ln n := by
  intro n
  induction n with
  | zero => intro d oc cd nL rt pc st lv σ r σ' h; cases h
  | succ n ih =>
    intro d oc cd nL rt pc st lv σ r σ' h hrt p e s m args below meth c A H locs ls C hr hlk hW hl
    have hMX := hmx A s C.2.2.2.1
    have hout := mrun_ret (n + 1) d oc cd nL rt pc st lv σ r σ' h
    unfold mrun at h
    split at h
    · cases h
    · rename_i i len hdg
      split at h
      · split at h
        · rename_i h2
          obtain ⟨rfl, rfl, rfl⟩ := h2
          cases h
          exact r_vret C hr hlk hW () trivial (List.range (nW B)) nd_rng wld_rng hdg (Nat.le_refl 0) (Nat.le_refl 0)
        · cases h
      · split at h
        · rename_i v
          split at h
          · rename_i h2
            obtain ⟨rfl, h3⟩ := h2
            cases h
            rcases h3 with rfl | ⟨rfl, hv⟩
            · exact r_iret C (show meth.sig.returnType = some .int from hr) hlk hW rfl () rfl (List.range (nW B)) nd_rng wld_rng hdg (Nat.le_refl 0) (Nat.le_refl 0)
            · exact r_iret C (show meth.sig.returnType = some .boolean from hr) hlk hW (by rcases hv with rfl | rfl <;> rfl) () rfl (List.range (nW B)) nd_rng wld_rng hdg (Nat.le_refl 0) (Nat.le_refl 0)
          · cases h
        · cases h
      · rename_i idx
        split at h
        · rename_i hl3
          obtain ⟨rfl, h13⟩ := hl3
          split at h
          · cases h
          · rename_i kd y cd' nL' na rt' oc' hlk2
            have hml := mlk_ok hlk2
            split at h
            · rename_i hk0
              subst hk0
              obtain ⟨ok, hlink, hcls, hoc', hnL, hna, hpn, hrt'⟩ := hml
              split at h
              · rename_i d' o rest hdrop
                split at h
                · rename_i h3
                  obtain ⟨ho, hko, hr8⟩ := h3
                  split at h
                  · cases h
                  · rename_i r1 σ1 hcall
                    have hlt : na < st.length := by
                      rcases Nat.lt_or_ge na st.length with z | z
                      · exact z
                      · rw [List.drop_eq_nil_of_le z] at hdrop; cases hdrop
                    have hst := st_split (adr := adr) hdrop (Nat.le_of_lt hlt)
                    have hal := as_len (adr := adr) (Nat.le_of_lt hlt)
                    have hav : ((.inr o :: (st.take na).reverse : List MV)).length ≤ nL' := by
                      simp only [List.length_cons, List.length_reverse, List.length_take]
                      omega
                    have hrec := mrun_ret n d' oc' cd' nL' rt' 0 [] _ σ r1 σ1 hcall
                    obtain ⟨q, ty, c1, -, -, -⟩ := clOk oc' hoc'
                    have hq1 : q.1 = y.cls := by
                      rw [hcls]
                      unfold clsN
                      rw [List.getD_eq_getElem?_getD, List.getElem?_map, c1]
                      rfl
                    obtain ⟨Cn, T, N⟩ := q
                    dsimp only at hq1
                    subst hq1
                    rw [← hko] at c1
                    have hW0 := wld_o (B := B) (adr := adr) (ln := ln) (tI := tI) (tB := tB) (tZ := tZ) (σ := σ) ho
                    rcases hrec with ⟨rfl, rfl⟩ | ⟨v, rfl, hv⟩
                    · refine r_callV (((st.take na).reverse).map (mv adr)) (rest.map (mv adr)) C hl.1 hW (sim_ctV hX ih hcls hpn hav hcall) (by rw [hal]; exact ok) hlink (wr := []) (List.range (nW B)) [] wld_rng rfl nd_rng rfl (fun i hi => absurd hi List.not_mem_nil) (ixO B o) hW0 c1 hst ⟨rm_fr d', rm_lo d' hnL⟩ (by rw [cat_sum]; exact hr8) ⟨Nat.le_refl 0, Nat.le_refl 0⟩ hdg (fun u H1 locs1 _ hW1 => ?_)
                      exact ih (d' + 1) oc cd nL rt (pc + 3) rest lv σ1 r σ' h hrt p e s m args below meth c A H1 locs1 ls C hr hlk hW1 hl
                    · have hne : rtT rt' = some (if rt' = 1 then .int else .boolean) := by
                        rcases hv with rfl | ⟨rfl, -⟩ <;> rfl
                      rw [hne] at ok
                      refine r_callVi (((st.take na).reverse).map (mv adr)) (rest.map (mv adr)) C hl.1 hW (sim_ctI hX ih hcls hpn hav hne hrt' hcall) (by rw [hal]; exact ok) hlink (wr := []) (List.range (nW B)) [] wld_rng rfl nd_rng rfl (fun i hi => absurd hi List.not_mem_nil) (ixO B o) hW0 c1 hst ⟨rm_fr d', rm_lo d' hnL⟩ (by rw [cat_sum]; exact hr8) ⟨Nat.le_refl 0, Nat.le_refl 0⟩ hdg (fun w u H1 locs1 hw hW1 => ?_)
                      subst hw
                      exact ih (d' + 1) oc cd nL rt (pc + 3) (.inl w :: rest) lv σ1 r σ' h hrt p e s m args below meth c A H1 locs1 ls C hr hlk hW1 hl
                · cases h
              · cases h
            · split at h
              · rename_i hk1
                split at h
                · cases h
                · rename_i st2 σ1 hint
                  exact hI oc idx kd (y, cd', nL', na, rt', oc') hml hk1.1 st st2 σ σ1 hint hk1.2.2 d nL pc cd _ p e s m args below meth c A H locs ls C hMX hW hl.1 (by rw [if_pos hk1.2.1]; exact hdg) (fun H' locs' hW' => ih d oc cd nL rt (pc + 3) st2 lv σ1 r σ' h hrt p e s m args below meth c A H' locs' ls C hr hlk hW' hl)
              · cases h
        · cases h
      · rename_i idx
        split at h
        · rename_i hl3
          obtain ⟨rfl, h13⟩ := hl3
          split at h
          · cases h
          · rename_i kd y cd' nL' na rt' oc' hlk2
            have hml := mlk_ok hlk2
            split at h
            · rename_i hk0
              split at h
              · rename_i d'
                split at h
                · rename_i h3
                  obtain ⟨hna0, hr8⟩ := h3
                  split at h
                  · cases h
                  · rename_i r1 σ1 hcall
                    have hst := st_split (adr := adr) (st := st) (na := na) rfl hna0
                    have hal := as_len (adr := adr) hna0
                    have hrec := mrun_ret n d' oc' cd' nL' rt' 0 [] _ σ r1 σ1 hcall
                    rcases hk0 with rfl | rfl
                    · obtain ⟨ok, hlink, hcls, hoc', hnL, hna, hpn, hrt'⟩ := hml
                      have hav : ((st.take na).reverse).length ≤ nL' := by
                        simp only [List.length_reverse, List.length_take]
                        omega
                      rcases hrec with ⟨rfl, rfl⟩ | ⟨v, rfl, hv⟩
                      · refine r_callS (((st.take na).reverse).map (mv adr)) ((st.drop na).map (mv adr)) C hl.1 hW (sim_ctV hX ih hcls hpn hav hcall) (by rw [hal]; exact ok) hlink (wr := []) (List.range (nW B)) [] wld_rng rfl nd_rng rfl (fun i hi => absurd hi List.not_mem_nil) hst ⟨rm_fr d', rm_lo d' hnL⟩ (by rw [cat_sum]; exact hr8) ⟨Nat.le_refl 0, Nat.le_refl 0⟩ hdg (fun u H1 locs1 _ hW1 => ?_)
                        exact ih (d' + 1) oc cd nL rt (pc + 3) (st.drop na) lv σ1 r σ' h hrt p e s m args below meth c A H1 locs1 ls C hr hlk hW1 hl
                      · have hne : rtT rt' = some (if rt' = 1 then .int else .boolean) := by
                          rcases hv with rfl | ⟨rfl, -⟩ <;> rfl
                        rw [hne] at ok
                        refine r_callSi (((st.take na).reverse).map (mv adr)) ((st.drop na).map (mv adr)) C hl.1 hW (sim_ctI hX ih hcls hpn hav hne hrt' hcall) (by rw [hal]; exact ok) hlink (wr := []) (List.range (nW B)) [] wld_rng rfl nd_rng rfl (fun i hi => absurd hi List.not_mem_nil) hst ⟨rm_fr d', rm_lo d' hnL⟩ (by rw [cat_sum]; exact hr8) ⟨Nat.le_refl 0, Nat.le_refl 0⟩ hdg (fun w u H1 locs1 hw hW1 => ?_)
                        subst hw
                        exact ih (d' + 1) oc cd nL rt (pc + 3) (.inl w :: st.drop na) lv σ1 r σ' h hrt p e s m args below meth c A H1 locs1 ls C hr hlk hW1 hl
                    · obtain ⟨ok, hlink, hcls, hoc', hnL, hna, hpn, hr1, hrt'⟩ := hml
                      have hav : ((st.take na).reverse).length ≤ nL' := by
                        simp only [List.length_reverse, List.length_take]
                        omega
                      rcases hrec with ⟨rfl, rfl⟩ | ⟨v, rfl, hv⟩
                      · exact absurd hr1 (by decide)
                      · have hne : rtT rt' = some (if rt' = 1 then .int else .boolean) := by
                          rcases hv with rfl | ⟨rfl, -⟩ <;> rfl
                        rw [hne] at ok
                        refine r_callSnI (host := "MarkupJudgeModel") (((st.take na).reverse).map (mv adr)) ((st.drop na).map (mv adr)) C hl.1 hW (sim_ctI hX ih hcls hpn hav hne hrt' hcall) (by rw [hal]; exact ok) (fun a => hMX.2.2.2.2.2.2 _ hlink a) (wr := []) (List.range (nW B)) [] wld_rng rfl nd_rng rfl (fun i hi => absurd hi List.not_mem_nil) hst ⟨rm_fr d', rm_lo d' hnL⟩ (by rw [cat_sum]; exact hr8) ⟨Nat.le_refl 0, Nat.le_refl 0⟩ hdg (fun w u H1 locs1 hw hW1 => ?_)
                        subst hw
                        exact ih (d' + 1) oc cd nL rt (pc + 3) (.inl w :: st.drop na) lv σ1 r σ' h hrt p e s m args below meth c A H1 locs1 ls C hr hlk hW1 hl
                · cases h
              · cases h
            · split at h
              · rename_i hk1
                split at h
                · cases h
                · rename_i st2 σ1 hint
                  exact hI oc idx kd (y, cd', nL', na, rt', oc') hml (by omega) st st2 σ σ1 hint hk1.2 d nL pc cd _ p e s m args below meth c A H locs ls C hMX hW hl.1 (by rw [if_neg (by omega)]; exact hdg) (fun H' locs' hW' => ih d oc cd nL rt (pc + 3) st2 lv σ1 r σ' h hrt p e s m args below meth c A H' locs' ls C hr hlk hW' hl)
              · cases h
        · cases h
      · split at h
        · rename_i hlen
          split at h
          · cases h
          · rename_i pc2 st2 lv2 σ1 hop
            exact sim_op C hW hl hMX hdg hlen hop (fun H' locs' ls' hW' hl' => ih d oc cd nL rt pc2 st2 lv2 σ1 r σ' h hrt p e s m args below meth c A H' locs' ls' C hr hlk hW' hl')
        · cases h
